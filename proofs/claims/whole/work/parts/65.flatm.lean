/-! the model writes the flat module -/
section
variable {G : Nat → Nat → Int} {S : AS} {rk : Nat → Nat} {x : Nat} {w : WT}
/-- nothing changes but in X -/
def Ch (X : Nat → Nat → Prop) (S T : AS) : Prop := ∃ J, T = stI S J ∧ ∀ a j, ¬ X a j → J a j = hI S a j
theorem Ch.rfl' (X : Nat → Nat → Prop) (S : AS) : Ch X S S := ⟨hI S, rfl, fun _ _ _ => rfl⟩
theorem Ch.tr {X : Nat → Nat → Prop} {T U : AS} (h : Ch X S T) (g : Ch X T U) : Ch X S U := by
  obtain ⟨J, rfl, hJ⟩ := h
  obtain ⟨K, rfl, hK⟩ := g
  exact ⟨K, rfl, fun a j h1 => (hK a j h1).trans (hJ a j h1)⟩
theorem Ch.sub {X Y : Nat → Nat → Prop} {T : AS} (h : Ch X S T) (hs : ∀ a j, X a j → Y a j) : Ch Y S T := by
  obtain ⟨J, rfl, hJ⟩ := h
  exact ⟨J, rfl, fun a j h1 => hJ a j (fun q => h1 (hs a j q))⟩
theorem Ch.wr {X : Nat → Nat → Prop} {T : AS} (h : Ch X S T) {a k : Nat} (v : Int) (hx : X a k) : Ch X S (wI T a k v) := by
  obtain ⟨J, rfl, hJ⟩ := h
  refine ⟨uq J a k v, rfl, fun b j h1 => (uq_ne ?_).trans (hJ b j h1)⟩
  by_cases c : b = a
  · by_cases d : j = k
    · subst c; subst d; exact absurd hx h1
    · exact Or.inr d
  · exact Or.inl c
theorem Ch.i {X : Nat → Nat → Prop} {T : AS} (h : Ch X S T) {a j : Nat} (hx : ¬ X a j) : hI T a j = hI S a j := by
  obtain ⟨J, rfl, hJ⟩ := h
  exact hJ a j hx
theorem Ch.fix {X : Nat → Nat → Prop} {T : AS} (h : Ch X S T) (hf : Fix S) : Fix T := by
  obtain ⟨J, rfl, hJ⟩ := h
  exact hf.st J
theorem Ag.self (T : AS) : Ag (hI T) T := fun _ _ _ => rfl
/-- the cells of module t -/
def nt9 (t a j : Nat) : Prop := ((a = 15 ∨ a = 18 ∨ a = 20 ∨ a = 21) ∧ j = t) ∨ ((a = 16 ∨ a = 17) ∧ 16 * t ≤ j ∧ j < 16 * t + 16) ∨ ((a = 19 ∨ a = 23) ∧ 64 * t ≤ j ∧ j < 64 * t + 64) ∨ (a = 22 ∧ 8320 * t ≤ j ∧ j < 8320 * t + 8320) ∨ (a = 24 ∧ 1536 * t ≤ j ∧ j < 1536 * t + 1536) ∨ (a = 14 ∧ (j = 0 ∨ j = 1 ∨ j = 9))
theorem begin_st (h : Fix S) {t : Nat} (ht : t < 24) (w9 : 0 ≤ hI S 14 9 ∧ hI S 14 9 ≤ 100000) : f_X6_begin (some 14) t S = some ((0, 0, none), stI S (bg (hI S) t)) := by
  have h1 := h.wI 15 t 0
  have h2 := h1.wI 18 t 0
  have h3 := h2.wI 20 t 0
  have h4 := h3.wI 14 9 (hI S 14 9 + 1)
  have h5 := h4.wI 21 t (hI S 14 9 + 1)
  have r9 : hI (wI (wI (wI S 15 t 0) 18 t 0) 20 t 0) 14 9 = hI S 14 9 := by rw [hI_wn (by omega), hI_wn (by omega), hI_wn (by omega)]
  have e1 := begin_43 h5 ht 8320 0 FU rfl (FU_gt (by decide))
  rw [fl_0, stI_self] at e1
  have h6 := h5.st (fl (hI (wI (wI (wI (wI (wI S 15 t 0) 18 t 0) 20 t 0) 14 9 (hI S 14 9 + 1)) 21 t (hI S 14 9 + 1))) 22 (8320 * t) 8320 (-1))
  have e2 := begin_71 h6 ht 64 0 FU rfl (FU_gt (by decide))
  rw [fl_0, stI_self] at e2
  have e0 : ((0 : Nat) : Int) = 0 := rfl
  rw [e0] at e1 e2
  unfold f_X6_begin
  rw [fr_14_2 h, Option.bind_some, fs_15 h _ (by omega) (by omega), Option.bind_some, tn, fr_14_5 h1, Option.bind_some, fs_18 h1 _ (by omega) (by omega), Option.bind_some, tn, fr_14_7 h2, Option.bind_some, fs_20 h2 _ (by omega) (by omega), Option.bind_some, tn, fg_14 h3, Option.bind_some, r9, chk_ok (by omega) (by omega), Option.bind_some, fp_14 h3, Option.bind_some, fr_14_8 h4, Option.bind_some, fg_14 h4, Option.bind_some, hI_w0, fs_21 h4 _ (by omega) (by omega), Option.bind_some, tn, e1, e2]
  rfl
/-- the first part of what is written -/
def F1 (G : Nat → Nat → Int) (m t : Nat) (c lv9 : Int) (T : AS) : Prop :=
  (hI T 15 t = G 15 m ∧ hI T 18 t = lv9 ∧ hI T 20 t = c ∧ hI T 21 t = G 14 9 + 1) ∧ (hI T 14 9 = G 14 9 + 1 ∧ hI T 14 1 = (t : Int) + 1 ∧ hI T 14 0 = 0) ∧ (∀ k, k < 16 → hI T 16 (16 * t + k) = G 16 (16 * m + k) ∧ hI T 17 (16 * t + k) = G 17 (16 * m + k)) ∧ (∀ q, q < 8320 → hI T 22 (8320 * t + q) = -1) ∧ ∀ k, k < 64 → hI T 23 (64 * t + k) = 0
theorem flat_143 (h : Fix S) {m t : Nat} (ht : t < 24) (hm : m < t) (h01 : ∀ j, hI S 17 j = 0 ∨ hI S 17 j = 1) (c : Int) : ∀ (d k fu : Nat), 16 = k + d → d < fu → f_X6_flat_143 fu (some 14) m c t k (stI S (cq (hI S) 16 17 (16 * t) (16 * m) k)) = f_X6_flat_228 FU (some 14) m t 0 (wI (wI (stI S (cq (hI S) 16 17 (16 * t) (16 * m) 16)) 20 t c) 18 t (hI S 14 18)) := by
  intro d
  induction d with
  | zero =>
    intro k fu hk9 hf
    obtain ⟨fu, rfl⟩ : ∃ z, fu = z + 1 := ⟨fu - 1, by omega⟩
    obtain rfl : k = 16 := by omega
    have h1 := h.st (cq (hI S) 16 17 (16 * t) (16 * m) 16)
    have h2 := h1.wI 20 t c
    have e : hI (wI (stI S (cq (hI S) 16 17 (16 * t) (16 * m) 16)) 20 t c) 14 18 = hI S 14 18 := by rw [hI_wn (by omega), stI_hI, cq_o (by omega)]
    unfold f_X6_flat_143
    rw [if_pos (by omega), fr_14_7 h1, Option.bind_some, fs_20 h1 _ (by omega) (by omega), Option.bind_some, tn, fr_14_5 h2, Option.bind_some, fg_14 h2, Option.bind_some, e, fs_18 h2 _ (by omega) (by omega), Option.bind_some, tn]
  | succ d ih =>
    intro k fu hk9 hf
    obtain ⟨fu, rfl⟩ : ∃ z, fu = z + 1 := ⟨fu - 1, by omega⟩
    unfold f_X6_flat_143
    have h1 := h.st (cq (hI S) 16 17 (16 * t) (16 * m) k)
    have h2 := h1.wI 16 (16 * t + k) (hI S 16 (16 * m + k))
    have e1 : (16 * (t : Int) + (k : Int)).toNat = 16 * t + k := by omega
    have e2 : (16 * (m : Int) + (k : Int)).toNat = 16 * m + k := by omega
    rw [if_neg (by omega)]
    simp (disch := omega) only [fr_14_3 h1, fs_16 h1, fa_16 h1, Option.bind_some, chk_ok, gd_1, e1, e2, stI_hI, cq_r]
    have e3 : hI (wI (stI S (cq (hI S) 16 17 (16 * t) (16 * m) k)) 16 (16 * t + k) (hI S 16 (16 * m + k))) 17 (16 * m + k) = hI S 17 (16 * m + k) := by
      rw [wI_set, stI_hI, uq_r (by decide), stI_hI, cq_r (by omega)]
    simp (disch := omega) only [fr_14_4 h2, fa_17 h2, Option.bind_some, chk_ok, gd_1, e1, e2, e3, fs_17 h2 (h01 (16 * m + k))]
    simp (disch := omega) only [wI_set, stI_hI, stI_set, cq_s]
    exact ih (k + 1) fu (by omega) (by omega)
/-- a net of the layout's number -/
def ren (f : Nat → Nat) (s v : Int) : Int := if v = -1 then -1 else (f (s + v).toNat : Int)
/-- ready to write: the old modules as G has them, the walk, the numbers -/
def FR (G : Nat → Nat → Int) (S0 : AS) (w : WT) (N : Nat) (l : Nat → Nat) (m t : Nat) (T0 : AS) : Prop := Fix T0 ∧ Ag G T0 ∧ LF G S0 w N l T0 ∧ (∀ y, y < N → hI T0 34 y = (nu l y : Int)) ∧ (G 14 1 = t ∧ m < t ∧ t < 24) ∧ (wm w 0 = m ∧ wn w ≤ 1600 ∧ wl w ≤ 64 ∧ fst G w (wn w) = N ∧ N ≤ 3000)
theorem flat_93 (gi : GI G) {S0 T0 : AS} {N m t : Nat} {l : Nat → Nat} (fr : FR G S0 w N l m t T0) (c : Int) : ∃ T, f_X6_flat_93 (some 14) m c 0 (some 14) T0 = f_X6_flat_228 FU (some 14) m t 0 T ∧ Ch (nt9 t) T0 T ∧ F1 G m t c (wl w) T := by
  obtain ⟨f0, g0, lf, n34, ⟨et, hm, ht⟩, -⟩ := fr
  have w9 := gi.2.2.2.1
  have f1 := f0.wI 14 0 0
  have i1 : hI (wI T0 14 0 0) 14 1 = (t : Int) := by rw [hI_wn (by omega), g0 14 1 (Or.inr (by decide)), et]
  have i9 : hI (wI T0 14 0 0) 14 9 = G 14 9 := by rw [hI_wn (by omega), g0 14 9 (Or.inr (by decide))]
  have eb := begin_st f1 ht (by rw [i9]; exact w9)
  obtain ⟨B, hB⟩ : ∃ B, B = stI (wI T0 14 0 0) (bg (hI (wI T0 14 0 0)) t) := ⟨_, rfl⟩
  rw [← hB] at eb
  have fB : Fix B := by rw [hB]; exact f1.st _
  obtain ⟨⟨b1, b2, b3, b4, b5⟩, b6, b7⟩ := bg_t (G := hI (wI T0 14 0 0)) (t := t)
  have bI : hI B = bg (hI (wI T0 14 0 0)) t := by rw [hB]; rfl
  have cB : Ch (nt9 t) T0 B := ⟨bg (hI (wI T0 14 0 0)) t, by rw [hB]; rfl, fun a j hx => by
    have ha : ¬ (a = 14 ∧ j = 0) := fun q => hx (by unfold nt9; omega)
    have : bg (hI (wI T0 14 0 0)) t a j = hI (wI T0 14 0 0) a j := by
      unfold bg fl
      unfold nt9 at hx
      rw [if_neg (by omega), if_neg (by omega), uq_ne (by omega), uq_ne (by omega), uq_ne (by omega), uq_ne (by omega), uq_ne (by omega)]
    rw [this, hI_wn (by omega)]⟩
  have n14 : ∀ a j, (a = 14 ∧ j = 1) → bg (hI (wI T0 14 0 0)) t a j = hI (wI T0 14 0 0) a j := fun a j q => bg_o (by omega)
  have c1 : hI B 14 1 = (t : Int) := by rw [bI, n14 14 1 ⟨rfl, rfl⟩, i1]
  have c0 : hI B 14 0 = 0 := by rw [bI, bg_o (by omega), hI_w0]
  have cm : hI B 15 m = G 15 m := by rw [cB.i (by unfold nt9; omega), g0 15 m (Or.inl (by omega))]
  obtain ⟨V, hV⟩ : ∃ V, V = wI (wI B 14 1 ((t : Int) + 1)) 15 t (G 15 m) := ⟨_, rfl⟩
  have fV : Fix V := by rw [hV]; exact (fB.wI _ _ _).wI _ _ _
  have cV : Ch (nt9 t) T0 V := by rw [hV]; exact (cB.wr _ (by unfold nt9; omega)).wr _ (by unfold nt9; omega)
  have v17 : ∀ j, hI V 17 j = 0 ∨ hI V 17 j = 1 := fun j => by
    have : hI V 17 j = G 17 j := by
      rw [hV, hI_wn (by omega), hI_wn (by omega), bI, bg_o (by omega), hI_wn (by omega)]
      exact g0 17 j (Or.inl (by omega))
    rw [this]
    exact gi.2.2.2.2 j
  have v16 : ∀ a j, a = 16 ∨ a = 17 → hI V a j = G a j := fun a j q => by
    rw [hV, hI_wn (by omega), hI_wn (by omega), bI, bg_o (by omega), hI_wn (by omega)]
    exact g0 a j (Or.inl (by omega))
  have e143 := flat_143 fV ht hm v17 c 16 0 FU rfl (FU_gt (by decide))
  rw [cq_0, stI_self] at e143
  obtain ⟨W, hW⟩ : ∃ W, W = stI V (cq (hI V) 16 17 (16 * t) (16 * m) 16) := ⟨_, rfl⟩
  rw [← hW] at e143
  have wI9 : ∀ a j, ¬ ((a = 16 ∨ a = 17) ∧ 16 * t ≤ j ∧ j < 16 * t + 16) → hI W a j = hI V a j := fun a j q => by rw [hW]; exact if_neg q
  have w16 : ∀ a k, (a = 16 ∨ a = 17) → k < 16 → hI W a (16 * t + k) = G a (16 * m + k) := fun a k q hk9 => by
    have : hI W a (16 * t + k) = hI V a (16 * t + k - 16 * t + 16 * m) := by rw [hW]; exact if_pos ⟨q, by omega⟩
    rw [this, v16 _ _ q]
    congr 1
    omega
  have v18 : hI V 14 18 = (wl w : Int) := by rw [cV.i (by unfold nt9; omega)]; exact lf.1.2.1.2
  rw [v18] at e143
  have cW : Ch (nt9 t) T0 W := cV.tr ⟨cq (hI V) 16 17 (16 * t) (16 * m) 16, hW, fun a j hx => if_neg (fun q => hx (by unfold nt9; omega))⟩
  refine ⟨wI (wI W 20 t c) 18 t (wl w), ?_, (cW.wr _ (by unfold nt9; omega)).wr _ (by unfold nt9; omega), ?_⟩
  · unfold f_X6_flat_93
    have cp : hI (wI B 14 1 ((t : Int) + 1)) 15 m = G 15 m := by rw [hI_wn (by omega)]; exact cm
    have f2 := fB.wI 14 1 ((t : Int) + 1)
    rw [fp_14 f0, Option.bind_some, fg_14 f1, Option.bind_some, hI_w0, if_pos (by decide), fg_14 f1, Option.bind_some, i1, fk_14 f1, gd_1, eb, cV_s, fg_14 fB, Option.bind_some, c1, chk_ok (by omega) (by omega), Option.bind_some, fp_14 fB, Option.bind_some, fr_14_2 f2, Option.bind_some, Option.bind_some, fa_15 f2 (by omega) (by omega), Option.bind_some, tn, cp, fs_15 f2 _ (by omega) (by omega), Option.bind_some, tn, ← hV]
    exact e143
  · have fo9 : ∀ a j, ¬ (a = 20 ∧ j = t) → ¬ (a = 18 ∧ j = t) → ¬ ((a = 16 ∨ a = 17) ∧ 16 * t ≤ j ∧ j < 16 * t + 16) → ¬ (a = 15 ∧ j = t) → ¬ (a = 14 ∧ j = 1) → hI (wI (wI W 20 t c) 18 t (wl w)) a j = hI B a j := fun a j z1 z2 z3 z4 z5 => by
      rw [hI_wn (by omega), hI_wn (by omega), wI9 a j z3, hV, hI_wn (by omega), hI_wn (by omega)]
    refine ⟨⟨?_, hI_w0 _ _ _ _, ?_, ?_⟩, ⟨?_, ?_, ?_⟩, fun k hk9 => ⟨?_, ?_⟩, fun q hq => ?_, fun k hk9 => ?_⟩
    · rw [hI_wn (by omega), hI_wn (by omega), wI9 15 t (by omega), hV, hI_w0]
    · rw [hI_wn (by omega), hI_w0]
    · rw [fo9 21 t (by omega) (by omega) (by omega) (by omega) (by omega), bI, b4, i9]
    · rw [fo9 14 9 (by omega) (by omega) (by omega) (by omega) (by omega), bI, b5, i9]
    · rw [hI_wn (by omega), hI_wn (by omega), wI9 14 1 (by omega), hV, hI_wn (by omega), hI_w0]
    · rw [fo9 14 0 (by omega) (by omega) (by omega) (by omega) (by omega)]; exact c0
    · rw [hI_wn (by omega), hI_wn (by omega), w16 16 k (by omega) hk9]
    · rw [hI_wn (by omega), hI_wn (by omega), w16 17 k (by omega) hk9]
    · rw [fo9 22 _ (by omega) (by omega) (by omega) (by omega) (by omega), bI, b6 q hq]
    · rw [fo9 23 _ (by omega) (by omega) (by omega) (by omega) (by omega), bI, b7 k hk9]
/-- what stays while the rest is written -/
theorem FR.p2 (gi : GI G) {S0 T0 T : AS} {N m t : Nat} {l : Nat → Nat} (fr : FR G S0 w N l m t T0) (h15 : hI T 15 t = G 15 m) (h16 : ∀ k, k < 16 → hI T 16 (16 * t + k) = G 16 (16 * m + k) ∧ hI T 17 (16 * t + k) = G 17 (16 * m + k)) : P2 G (hI T) m t := by
  obtain ⟨-, -, -, -, ⟨et, hm, ht⟩, -⟩ := fr
  have := (gi.pw (i := m) (by omega)).2.1
  exact ⟨h15, fun k hk9 => h16 k (by omega)⟩
theorem FR.pa (gi : GI G) {S0 T0 T : AS} {N m t : Nat} {l : Nat → Nat} (fr : FR G S0 w N l m t T0) (ch : Ch (nt9 t) T0 T) {i : Nat} (hi : i < t) : PA G (hI T) i := by
  obtain ⟨-, g0, -, -, ⟨et, hm, ht⟩, -⟩ := fr
  have := (gi.pw (i := i) (by omega)).2.1
  refine ⟨?_, fun k hk9 => ⟨?_, ?_⟩⟩
  · rw [ch.i (by unfold nt9; omega)]; exact g0 15 i (Or.inl (by omega))
  · rw [ch.i (by unfold nt9; omega)]; exact g0 16 _ (Or.inl (by omega))
  · rw [ch.i (by unfold nt9; omega)]; exact g0 17 _ (Or.inl (by omega))
theorem FR.pins (gi : GI G) {S0 T0 T : AS} {N m t : Nat} {l : Nat → Nat} (fr : FR G S0 w N l m t T0) (ch : Ch (nt9 t) T0 T) {i : Nat} (hi : i < t) : f_X6_ownPins (some 14) i T = some ((0, pc G i, none), T) := by
  have pa := fr.pa gi ch hi
  obtain ⟨f0, -, -, -, ⟨et, hm, ht⟩, -⟩ := fr
  have pw := gi.pw (i := i) (by omega)
  rw [ownPins_eq (ch.fix f0) (Ag.self T) (by omega) (pa.pw pw), pc_congr pa pw.1]
theorem FR.v22 {S0 T0 T : AS} {N m t : Nat} {l : Nat → Nat} (fr : FR G S0 w N l m t T0) (ch : Ch (nt9 t) T0 T) {i q : Nat} (hi : i < t) (hq : q < 8320) : hI T 22 (8320 * i + q) = G 22 (8320 * i + q) := by
  rw [ch.i (by unfold nt9; omega)]
  exact fr.2.1 22 _ (Or.inl (by omega))
theorem FR.v34 {S0 T0 T : AS} {N m t : Nat} {l : Nat → Nat} (fr : FR G S0 w N l m t T0) (ch : Ch (nt9 t) T0 T) {y : Nat} (hy : y < N) : hI T 34 y = (nu l y : Int) := by
  rw [ch.i (by unfold nt9; omega)]
  exact fr.2.2.2.1 y hy
theorem flat_228 (gi : GI G) (hw : WF G rk x w) {S0 T0 : AS} {N m t : Nat} {l : Nat → Nat} (fr : FR G S0 w N l m t T0) : ∀ (d p fu : Nat) (T : AS), (pc G m).toNat = p + d → d < fu → Ch (nt9 t) T0 T → P2 G (hI T) m t → (∀ q, q < p → hI T 22 (8320 * t + 8192 + q) = ren (nu l) 0 (qn G m 0 q)) → ∃ T', f_X6_flat_228 fu (some 14) m t p T = f_X6_flat_292 FU (some 14) t 0 T' ∧ Ch (fun a j => a = 22 ∧ 8320 * t + 8192 + p ≤ j ∧ j < 8320 * t + 8192 + (pc G m).toNat) T T' ∧ ∀ q : Nat, (q : Int) < pc G m → hI T' 22 (8320 * t + 8192 + q) = ren (nu l) 0 (qn G m 0 q) := by
  obtain ⟨f0, g0, lf, n34, ⟨et, hm, ht⟩, hw0, hn16, hl64, hN, hN3⟩ := fr
  have fr : FR G S0 w N l m t T0 := ⟨f0, g0, lf, n34, ⟨et, hm, ht⟩, hw0, hn16, hl64, hN, hN3⟩
  have hmm : (m : Int) < G 14 1 := by omega
  have pw := gi.pw hmm
  have pb := pc_le pw
  intro d
  induction d with
  | zero =>
    intro p fu T hp hf ch p2 hy
    obtain ⟨fu, rfl⟩ : ∃ z, fu = z + 1 := ⟨fu - 1, by omega⟩
    have fT := ch.fix f0
    refine ⟨T, ?_, Ch.rfl' _ _, fun q hq => hy q (by omega)⟩
    unfold f_X6_flat_228
    rw [fk_14 fT, gd_1, ownPins_eq fT (Ag.self T) ht (p2.pw pw), cI_s, pc_p2 p2 pw.1, if_pos (by omega)]
  | succ d ih =>
    intro p fu T hp hf ch p2 hy
    obtain ⟨fu, rfl⟩ : ∃ z, fu = z + 1 := ⟨fu - 1, by omega⟩
    have fT := ch.fix f0
    have q0 := qn_lt gi hmm (j := 0) (p := p) (by omega) (by omega)
    obtain ⟨T1, hT1⟩ : ∃ T1, T1 = wI T 22 (8320 * t + 8192 + p) (ren (nu l) 0 (qn G m 0 p)) := ⟨_, rfl⟩
    have ch1 : Ch (nt9 t) T0 T1 := by rw [hT1]; exact ch.wr _ (by unfold nt9; omega)
    obtain ⟨T', e, c', v'⟩ := ih (p + 1) fu T1 (by omega) (by omega) ch1 ⟨by rw [hT1, hI_wn (by omega)]; exact p2.1, fun k hk9 => by rw [hT1, hI_wn (by omega), hI_wn (by omega)]; exact p2.2 k hk9⟩ (fun q hq => by
      rw [hT1, hI_wI]
      by_cases c : q = p
      · rw [if_pos ⟨rfl, by omega⟩, c]
      · rw [if_neg (by omega)]; exact hy q (by omega))
    have a1 := at_own (m := m) (p := p) (by omega) (by omega) T
    have a2 := at_own (m := t) (p := p) (by omega) (by omega) T
    have e22 : hI T 22 (8320 * m + 8192 + p) = qn G m 0 p := by
      have := fr.v22 ch (i := m) (q := 8192 + p) hm (by omega)
      rw [← Nat.add_assoc] at this
      exact this
    refine ⟨T', ?_, ?_, v'⟩
    · refine Eq.trans ?_ e
      rw [hT1]
      conv => lhs; unfold f_X6_flat_228
      rw [fk_14 fT, gd_1, ownPins_eq fT (Ag.self T) ht (p2.pw pw), cI_s, pc_p2 p2 pw.1, if_neg (by omega), fr_14_10 fT, Option.bind_some, a1, cI_s, fa_22 fT (by omega) (by omega), Option.bind_some, tn, e22, fr_14_10 fT, Option.bind_some, a2, cI_s]
      unfold ren
      by_cases c : qn G m 0 p = -1
      · rw [if_pos c, if_pos c, fs_22 fT _ (by omega) (by omega), Option.bind_some, tn, chk_ok (by omega) (by omega), Option.bind_some]
        rfl
      · have f1 := fst_in gi hw (o := 0) hw.1.1 (v := qn G m 0 p) (by omega) (by rw [hw0]; omega)
        have fz : fst G w 0 = 0 := rfl
        have i34 := fr.v34 ch (y := (qn G m 0 p).toNat) (by omega)
        rw [if_neg c, if_neg c, fr_14_24 fT, Option.bind_some, fa_34 fT (by omega) (by omega), Option.bind_some, i34, fs_22 fT _ (by omega) (by omega), Option.bind_some, tn, chk_ok (by omega) (by omega), Option.bind_some, Int.zero_add]
        rfl
    · have c1 : Ch (fun a j => a = 22 ∧ 8320 * t + 8192 + p ≤ j ∧ j < 8320 * t + 8192 + (pc G m).toNat) T T1 := by
        rw [hT1]
        exact (Ch.rfl' _ _).wr _ ⟨rfl, by omega, by omega⟩
      exact c1.tr (c'.sub (fun a j q => ⟨q.1, by omega, q.2.2⟩))
/-- the way of a leaf -/
def wyf (w : WT) (q u : Nat) : Nat := if u = wd w (wo w q) then wj w q else ww w (wo w q) u
theorem setWay_85 (hw : WF G rk x w) {S0 T0 : AS} {N m t q : Nat} {l : Nat → Nat} (fr : FR G S0 w N l m t T0) (hq : q < wl w) : ∀ (o fu : Nat) (T : AS), o < wn w → wd w o < fu → wd w o ≤ 23 → Ch (nt9 t) T0 T → ∃ T', f_X6_setWay_85 fu (some 14) ((64 * t + q : Nat) : Int) ((wd w o : Int) - 1) o T = some ((0, 0, none), T') ∧ Ch (fun a j => a = 24 ∧ 24 * (64 * t + q) ≤ j ∧ j < 24 * (64 * t + q) + wd w o) T T' ∧ ∀ u, u < wd w o → hI T' 24 (24 * (64 * t + q) + u) = (ww w o u : Int) := by
  obtain ⟨f0, g0, lf, n34, ⟨et, hm, ht⟩, hw0, hn16, hl64, hN, hN3⟩ := fr
  intro o
  induction o using Nat.strongRecOn with
  | _ o ih =>
    intro fu T ho hf h23 ch
    obtain ⟨fu, rfl⟩ : ∃ z, fu = z + 1 := ⟨fu - 1, by omega⟩
    have fT := ch.fix f0
    have c26 := (lf.1.2.2.1 o ho).2.1
    have c27 := (lf.1.2.2.1 o ho).2.2
    rw [← ch.i (by unfold nt9; omega)] at c26 c27
    by_cases c : o = 0
    · subst c
      rw [if_pos rfl] at c26
      refine ⟨T, ?_, Ch.rfl' _ _, fun u hu9 => ?_⟩
      · unfold f_X6_setWay_85
        rw [fr_14_15 fT, Option.bind_some, fa_26 fT (by omega) (by omega), Option.bind_some, tn, c26, if_pos rfl, rV_s]
      · rw [hw.1.2.2] at hu9; omega
    · rw [if_neg c] at c26 c27
      obtain ⟨p1, p2, p3, p4, p5, p6⟩ := hw.2.2.1 o ho (by omega)
      obtain ⟨T1, hT1⟩ : ∃ T1, T1 = wI T 24 (24 * (64 * t + q) + wd w (wp w o)) (wi w o) := ⟨_, rfl⟩
      have ch1 : Ch (nt9 t) T0 T1 := by rw [hT1]; exact ch.wr _ (by unfold nt9; omega)
      have f1 := ch1.fix f0
      have d26 : hI T1 26 o = (wp w o : Int) := by rw [hT1, hI_wn (by omega)]; exact c26
      obtain ⟨T', e, c', v'⟩ := ih (wp w o) p1 fu T1 (by omega) (by omega) (by omega) ch1
      refine ⟨T', ?_, ?_, fun u hu9 => ?_⟩
      · refine Eq.trans ?_ e
        conv => lhs; unfold f_X6_setWay_85
        rw [fr_14_15 fT, Option.bind_some, fa_26 fT (by omega) (by omega), Option.bind_some, tn, c26, if_neg (by omega), fr_14_12 fT, Option.bind_some, chk_ok (by omega) (by omega), Option.bind_some, chk_ok (by omega) (by omega), Option.bind_some, fr_14_16 fT, Option.bind_some, fa_27 fT (by omega) (by omega), Option.bind_some, tn, c27, fs_24 fT _ (by omega) (by omega), Option.bind_some, show (24 * ((64 * t + q : Nat) : Int) + ((wd w o : Int) - 1)).toNat = 24 * (64 * t + q) + wd w (wp w o) by omega, ← hT1, chk_ok (by omega) (by omega), Option.bind_some, fr_14_15 f1, Option.bind_some, fa_26 f1 (by omega) (by omega), Option.bind_some, tn, d26, show (wd w o : Int) - 1 + -1 = (wd w (wp w o) : Int) - 1 by omega]
      · have c1 : Ch (fun a j => a = 24 ∧ 24 * (64 * t + q) ≤ j ∧ j < 24 * (64 * t + q) + wd w o) T T1 := by
          rw [hT1]
          exact (Ch.rfl' _ _).wr _ ⟨rfl, by omega, by omega⟩
        exact c1.tr (c'.sub (fun a j z => ⟨z.1, z.2.1, by omega⟩))
      · rw [p6 u]
        by_cases cu : u = wd w (wp w o)
        · rw [if_pos cu, c'.i (by omega), hT1, cu, hI_w0]
        · rw [if_neg cu]
          exact v' u (by omega)
theorem setWay_10 (hw : WF G rk x w) {S0 T0 : AS} {N m t q : Nat} {l : Nat → Nat} (fr : FR G S0 w N l m t T0) (hq : q < wl w) {T : AS} (ch : Ch (nt9 t) T0 T) : ∀ (o fu : Nat) (le : Int), o < wn w → wd w o < fu → le + wd w o = wd w (wo w q) + 1 → ∃ T', f_X6_setWay_10 fu (some 14) t q le o T = some ((0, 0, none), T') ∧ Ch (fun a j => (a = 23 ∧ j = 64 * t + q) ∨ (a = 24 ∧ 24 * (64 * t + q) ≤ j ∧ j < 24 * (64 * t + q) + 24)) T T' ∧ hI T' 23 (64 * t + q) = (wd w (wo w q) : Int) + 1 ∧ ∀ u, u ≤ wd w (wo w q) → hI T' 24 (24 * (64 * t + q) + u) = (wyf w q u : Int) := by
  obtain ⟨f0, g0, lf, n34, ⟨et, hm, ht⟩, hw0, hn16, hl64, hN, hN3⟩ := fr
  have fr : FR G S0 w N l m t T0 := ⟨f0, g0, lf, n34, ⟨et, hm, ht⟩, hw0, hn16, hl64, hN, hN3⟩
  have fT := ch.fix f0
  obtain ⟨oq, -, -⟩ := hw.2.2.2 q hq
  have d23 := (hw.2.1 (wo w q) oq).2
  intro o
  induction o using Nat.strongRecOn with
  | _ o ih =>
    intro fu le ho hf hle
    obtain ⟨fu, rfl⟩ : ∃ z, fu = z + 1 := ⟨fu - 1, by omega⟩
    have dd := (hw.2.1 o ho).2
    have c26 := (lf.1.2.2.1 o ho).2.1
    rw [← ch.i (by unfold nt9; omega)] at c26
    by_cases c : o = 0
    · subst c
      rw [if_pos rfl] at c26
      have z0 := hw.1.2.2
      obtain ⟨D, hD⟩ : ∃ D, D = wd w (wo w q) := ⟨_, rfl⟩
      rw [← hD] at hle d23 ⊢
      have el : le = (D : Int) + 1 := by omega
      have c30 := (lf.1.2.2.2 q hq).2
      have c29 := (lf.1.2.2.2 q hq).1
      rw [← ch.i (by unfold nt9; omega)] at c29 c30
      obtain ⟨T1, hT1⟩ : ∃ T1, T1 = wI T 23 (64 * t + q) ((D : Int) + 1) := ⟨_, rfl⟩
      obtain ⟨T2, hT2⟩ : ∃ T2, T2 = wI T1 24 (24 * (64 * t + q) + D) (wj w q) := ⟨_, rfl⟩
      have f1 : Fix T1 := by rw [hT1]; exact fT.wI _ _ _
      have f2 : Fix T2 := by rw [hT2]; exact f1.wI _ _ _
      have ch2 : Ch (nt9 t) T0 T2 := by rw [hT2, hT1]; exact (ch.wr _ (by unfold nt9; omega)).wr _ (by unfold nt9; omega)
      have i30 : hI T1 30 q = (wj w q : Int) := by rw [hT1, hI_wn (by omega)]; exact c30
      have i29 : hI T2 29 q = (wo w q : Int) := by rw [hT2, hI_wn (by omega), hT1, hI_wn (by omega)]; exact c29
      obtain ⟨T', e, c', v'⟩ := setWay_85 hw fr hq (wo w q) FU T2 oq (FU_gt (by omega)) (by omega) ch2
      rw [← hD] at e c' v'
      have cc : Ch (fun a j => (a = 23 ∧ j = 64 * t + q) ∨ (a = 24 ∧ 24 * (64 * t + q) ≤ j ∧ j < 24 * (64 * t + q) + 24)) T T2 := by
        rw [hT2, hT1]
        exact ((Ch.rfl' _ _).wr _ (Or.inl ⟨rfl, rfl⟩)).wr _ (Or.inr ⟨rfl, by omega, by omega⟩)
      refine ⟨T', ?_, cc.tr (c'.sub (fun a j z => Or.inr ⟨z.1, z.2.1, by omega⟩)), ?_, fun u hu9 => ?_⟩
      · refine Eq.trans ?_ e
        conv => lhs; unfold f_X6_setWay_10
        rw [fr_14_15 fT, Option.bind_some, fa_26 fT (by omega) (by omega), Option.bind_some, tn, c26, if_pos rfl, chk_ok (by omega) (by omega), Option.bind_some, chk_ok (by omega) (by omega), Option.bind_some, fr_14_11 fT, Option.bind_some, fs_23 fT _ (by omega) (by omega), Option.bind_some, show (64 * (t : Int) + (q : Int)).toNat = 64 * t + q by omega, el, ← hT1, fr_14_12 f1, Option.bind_some, chk_ok (by omega) (by omega), Option.bind_some, chk_ok (by omega) (by omega), Option.bind_some, chk_ok (by omega) (by omega), Option.bind_some, fr_14_20 f1, Option.bind_some, fa_30 f1 (by omega) (by omega), Option.bind_some, tn, i30, fs_24 f1 _ (by omega) (by omega), Option.bind_some, show (24 * (64 * (t : Int) + (q : Int)) + ((D : Int) + 1) - 1).toNat = 24 * (64 * t + q) + D by omega, ← hT2, chk_ok (by omega) (by omega), Option.bind_some, fr_14_19 f2, Option.bind_some, fa_29 f2 (by omega) (by omega), Option.bind_some, tn, i29, show (D : Int) + 1 - 2 = (D : Int) - 1 by omega, show 64 * (t : Int) + (q : Int) = ((64 * t + q : Nat) : Int) by omega]
      · rw [c'.i (by omega), hT2, hI_wn (by omega), hT1, hI_w0]
      · unfold wyf
        rw [← hD]
        by_cases cu : u = D
        · rw [if_pos cu, c'.i (by omega), hT2, cu, hI_w0]
        · rw [if_neg cu]
          exact v' u (by omega)
    · rw [if_neg c] at c26
      obtain ⟨p1, p2, p3, p4, p5, p6⟩ := hw.2.2.1 o ho (by omega)
      obtain ⟨T', e, r⟩ := ih (wp w o) p1 fu (le + 1) (by omega) (by omega) (by omega)
      refine ⟨T', ?_, r⟩
      refine Eq.trans ?_ e
      conv => lhs; unfold f_X6_setWay_10
      rw [fr_14_15 fT, Option.bind_some, fa_26 fT (by omega) (by omega), Option.bind_some, tn, c26, if_neg (by omega), chk_ok (by omega) (by omega), Option.bind_some, Option.bind_some, fa_26 fT (by omega) (by omega), Option.bind_some, tn, c26]
theorem setWay_eq (hw : WF G rk x w) {S0 T0 : AS} {N m t q : Nat} {l : Nat → Nat} (fr : FR G S0 w N l m t T0) (hq : q < wl w) {T : AS} (ch : Ch (nt9 t) T0 T) : ∃ T', f_X6_setWay (some 14) t q T = some ((0, 0, none), T') ∧ Ch (fun a j => (a = 23 ∧ j = 64 * t + q) ∨ (a = 24 ∧ 24 * (64 * t + q) ≤ j ∧ j < 24 * (64 * t + q) + 24)) T T' ∧ hI T' 23 (64 * t + q) = (wd w (wo w q) : Int) + 1 ∧ ∀ u, u ≤ wd w (wo w q) → hI T' 24 (24 * (64 * t + q) + u) = (wyf w q u : Int) := by
  obtain ⟨oq, -, -⟩ := hw.2.2.2 q hq
  have d23 := (hw.2.1 (wo w q) oq).2
  obtain ⟨T', e, r⟩ := setWay_10 hw fr hq ch (wo w q) FU 1 oq (FU_gt (by omega)) (by omega)
  refine ⟨T', ?_, r⟩
  obtain ⟨f0, g0, lf, n34, ⟨et, hm, ht⟩, hw0, hn16, hl64, hN, hN3⟩ := fr
  have fT := ch.fix f0
  have c29 := (lf.1.2.2.2 q hq).1
  rw [← ch.i (by unfold nt9; omega)] at c29
  unfold f_X6_setWay
  rw [fr_14_19 fT, Option.bind_some, fa_29 fT (by omega) (by omega), Option.bind_some, tn, c29]
  exact e
end
