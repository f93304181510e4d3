/-! doubled and open: the tallies -/
variable {sh ins : Nat → Nat} {pl nt wy : Nat → Nat → Nat} {tg : Nat → Nat × Nat}
/-- Arrays.fill -/
theorem fill_5 {S : AS} {a n : Nat} (hk : hk S a = 8) (hl : hl S a = n) (hn : n < 1000000) (v : Int) : ∀ (d k fu : Nat), n = k + d → d < fu → f_J7_fill_53178_5 fu (some a) v k n (stI S (fl (hI S) a 0 k v)) = some ((0, 0, none), stI S (fl (hI S) a 0 n v)) := by
  intro d
  induction d with
  | zero =>
    intro k fu hd hf
    obtain ⟨fu, rfl⟩ : ∃ z, fu = z + 1 := ⟨fu - 1, by omega⟩
    unfold f_J7_fill_53178_5
    rw [if_pos (by omega), rV_s, show k = n by omega]
  | succ d ih =>
    intro k fu hd hf
    obtain ⟨fu, rfl⟩ : ∃ z, fu = z + 1 := ⟨fu - 1, by omega⟩
    unfold f_J7_fill_53178_5
    rw [if_neg (by omega), sI_at (S := stI S (fl (hI S) a 0 k v)) hk (by omega) (by show (k : Int) < (Jvm.Pilot.CDesignTreesLaw_law_r7278_6f8192.hl S a : Int); omega), Option.bind_some, chk_ok (by omega) (by omega), Option.bind_some, tn]
    have e := fl_s (hI S) a 0 k v
    rw [Nat.zero_add] at e
    rw [wI_set, stI_hI, stI_set, e]
    exact ih (k + 1) fu (by omega) (by omega)
theorem fill_eq {S : AS} {a n : Nat} (hk : hk S a = 8) (hl : hl S a = n) (hn : n < 1000000) (v : Int) : f_J7_fill_53178 (some a) v S = some ((0, 0, none), stI S (fl (hI S) a 0 n v)) := by
  unfold f_J7_fill_53178
  rw [ln_at hk, Option.bind_some, hl]
  have e := fill_5 hk hl hn v n 0 FU (by omega) (FU_gt (by omega))
  rw [fl_0, stI_self] at e
  exact e
section
variable {G : Nat → Nat → Int} {S : AS}
def TI (S T : AS) (c1 c2 : Nat → Nat) : Prop := Sc S T ∧ ∀ n, n < 128 → hI T 12 n = (c1 n : Int) ∧ hI T 13 n = (c2 n : Int)
theorem tally_41 (C : Cls sh ins pl nt wy tg G S) (hs : Stt S) (gi : GI G) {i j : Nat} (hi : (i : Int) < G 14 1) (hj : (j : Int) ≤ G 18 i) (k18 : Option Nat → Option Nat → Int → AS → Option RS) (c1 c2 : Nat → Nat) (hc : ∀ n, c1 n ≤ 100000 ∧ c2 n ≤ 100000) : ∀ (d p fu : Nat) (T : AS), nl G i j = p + d → d < fu → TI S T (fun n => c1 n + cnt (mt G i n false j) p) (fun n => c2 n + cnt (mt G i n true j) p) → ∃ T', f_X5_tally_41 fu k18 (some 0) (some (sh i)) ((j : Int) - 1) (some (na ins nt i j)) p T = k18 (some 0) (some (sh i)) (j : Int) T' ∧ TI S T' (fun n => c1 n + cnt (mt G i n false j) (nl G i j)) (fun n => c2 n + cnt (mt G i n true j) (nl G i j)) := by
  intro d
  have l2 := gi.ni hi
  have l3 := nl_np gi hi hj
  have l4 := gi.nn hi
  induction d with
  | zero =>
    intro p fu T hp hf ht
    obtain ⟨fu, rfl⟩ : ∃ z, fu = z + 1 := ⟨fu - 1, by omega⟩
    have CT := C.kp ht.1.kp
    refine ⟨T, ?_, by rw [show nl G i j = p by omega]; exact ht⟩
    unfold f_X5_tally_41
    rw [c_nl CT gi hi hj, Option.bind_some, if_pos (by omega), chk_ok (by omega) (by omega), Option.bind_some, show (j : Int) - 1 + 1 = j by omega]
  | succ d ih =>
    intro p fu T hp hf ht
    obtain ⟨fu, rfl⟩ : ∃ z, fu = z + 1 := ⟨fu - 1, by omega⟩
    have CT := C.kp ht.1.kp
    have hT := ht.1.stt hs
    have er := c_na CT gi hi hj (q := p) (by omega)
    have lq := qn_lt gi hi (j := j) (p := p) (by omega) (by omega)
    have e0 : f_X5_tally_41 (fu + 1) k18 (some 0) (some (sh i)) ((j : Int) - 1) (some (na ins nt i j)) p T = if qn G i j p = -1 then f_X5_tally_41 fu k18 (some 0) (some (sh i)) ((j : Int) - 1) (some (na ins nt i j)) ((p : Int) + 1) T else ((aI T (some 12) 8 (qn G i j p)).bind fun v7 => (chk (v7 + 1)).bind fun z8 => (sI T (some 12) 8 (qn G i j p) z8).bind fun S9 => (gR S9 (some 0) 6 6).bind fun o10 => (aI S9 (some (na ins nt i j)) 8 (p : Int)).bind fun v11 => (aI S9 o10 8 v11).bind fun v12 => cI (f_X5_isDriver (some (sh i)) ((j : Int) - 1) (p : Int) S9) fun v14 S13 => if v14 = 0 then f_X5_tally_94 k18 (f_X5_tally_41 fu k18) (some 0) (some (sh i)) ((j : Int) - 1) (some (na ins nt i j)) (p : Int) 0 v12 v11 o10 S13 else f_X5_tally_94 k18 (f_X5_tally_41 fu k18) (some 0) (some (sh i)) ((j : Int) - 1) (some (na ins nt i j)) (p : Int) 1 v12 v11 o10 S13) := by
      conv => lhs; unfold f_X5_tally_41
      rw [c_nl CT gi hi hj, Option.bind_some, if_neg (by omega), er, Option.bind_some, chk_ok (x := (p : Int) + 1) (by omega) (by omega), Option.bind_some, fr_0_5 hT.1, Option.bind_some, Option.bind_some]
    by_cases c0 : qn G i j p = -1
    · have m0 : ∀ (n : Nat) (drv : Bool), mt G i n drv j p = false := by
        intro n drv
        unfold mt
        rw [c0]
        have : ¬ ((-1 : Int) = (n : Int)) := by omega
        simp [this]
      have ht' : TI S T (fun n => c1 n + cnt (mt G i n false j) (p + 1)) (fun n => c2 n + cnt (mt G i n true j) (p + 1)) := by
        refine ⟨ht.1, fun n hn => ?_⟩
        have e1 : cnt (mt G i n false j) (p + 1) = cnt (mt G i n false j) p := by rw [cnt_s, m0]; rfl
        have e2 : cnt (mt G i n true j) (p + 1) = cnt (mt G i n true j) p := by rw [cnt_s, m0]; rfl
        simp only [e1, e2]
        exact ht.2 n hn
      obtain ⟨T', h1, h2⟩ := ih (p + 1) fu T (by omega) (by omega) ht'
      exact ⟨T', by rw [e0, if_pos c0]; exact h1, h2⟩
    · obtain ⟨n, en⟩ : ∃ n : Nat, qn G i j p = n := ⟨(qn G i j p).toNat, by omega⟩
      have ln : n < 128 := by omega
      have hpn : p < np G i j := by
        rcases Nat.lt_or_ge p (np G i j) with z | z
        · exact z
        · have := mt_nl gi hi hj (v := n) (by omega) false p z (by omega)
          unfold mt at this
          rw [en] at this
          simp at this
      have cl1 := cnt_le (mt G i n false j) p
      have cl2 := cnt_le (mt G i n true j) p
      obtain ⟨v12, v13⟩ := ht.2 n ln
      dsimp only at v12 v13
      have hc1 := hc n
      have s1 : Sc T (wI T 12 n ((c1 n + cnt (mt G i n false j) p : Nat) + 1 : Int)) := Sc.w1 T _ _ (by decide) (by decide)
      have hS := ht.1.tr s1
      have C9 := C.kp hS.kp
      have h9 := hS.stt hs
      have er9 := c_na C9 gi hi hj (q := p) (by omega)
      have ed9 := isDriver_eq C9 gi hi hj hpn
      have d01 := dv_01 gi hi hj p
      have rd13 : hI (wI T 12 n ((c1 n + cnt (mt G i n false j) p : Nat) + 1 : Int)) 13 n = ((c2 n + cnt (mt G i n true j) p : Nat) : Int) := by rw [hI_wI, if_neg (by omega)]; exact v13
      have e1 : f_X5_tally_41 (fu + 1) k18 (some 0) (some (sh i)) ((j : Int) - 1) (some (na ins nt i j)) p T = f_X5_tally_41 fu k18 (some 0) (some (sh i)) ((j : Int) - 1) (some (na ins nt i j)) ((p + 1 : Nat) : Int) (wI (wI T 12 n ((c1 n + cnt (mt G i n false j) p : Nat) + 1 : Int)) 13 n ((c2 n + cnt (mt G i n true j) p : Nat) + dv G i j p : Int)) := by
        rw [e0, if_neg c0, en, fa_12 hT.1 (by omega) (by omega), Option.bind_some, tn, v12, chk_ok (by omega) (by omega), Option.bind_some, fs_12 hT.1 _ (by omega) (by omega), Option.bind_some, tn, fr_0_6 h9.1, Option.bind_some, er9, Option.bind_some, en, fa_13 h9.1 (by omega) (by omega), Option.bind_some, tn, rd13, ed9, cI_s]
        unfold f_X5_tally_94
        rcases d01 with z | z
        · rw [if_pos z, z, chk_ok (by omega) (by omega), Option.bind_some, fs_13 h9.1 _ (by omega) (by omega), Option.bind_some, chk_ok (by omega) (by omega), Option.bind_some, tn]
          rfl
        · rw [if_neg (by omega), z, chk_ok (by omega) (by omega), Option.bind_some, fs_13 h9.1 _ (by omega) (by omega), Option.bind_some, chk_ok (by omega) (by omega), Option.bind_some, tn]
          rfl
      have ht' : TI S (wI (wI T 12 n ((c1 n + cnt (mt G i n false j) p : Nat) + 1 : Int)) 13 n ((c2 n + cnt (mt G i n true j) p : Nat) + dv G i j p : Int)) (fun n => c1 n + cnt (mt G i n false j) (p + 1)) (fun n => c2 n + cnt (mt G i n true j) (p + 1)) := by
        refine ⟨hS.tr (Sc.w1 _ _ _ (by decide) (by decide)), fun q hq => ?_⟩
        dsimp only
        by_cases cq : q = n
        · subst cq
          have m1 : mt G i q false j p = true := by simp [mt, en]
          have z1 : cnt (mt G i q false j) (p + 1) = cnt (mt G i q false j) p + 1 := by rw [cnt_s, m1]; rfl
          have z2 : (cnt (mt G i q true j) (p + 1) : Int) = cnt (mt G i q true j) p + dv G i j p := by
            rcases d01 with z | z
            · have m2 : mt G i q true j p = false := by simp [mt, z]
              rw [cnt_s, m2, z]; rfl
            · have m2 : mt G i q true j p = true := by simp [mt, z, en]
              rw [cnt_s, m2, z]; rfl
          rw [hI_wI, if_neg (by omega), hI_w0, hI_w0, z1]
          omega
        · have m1 : ∀ drv, mt G i q drv j p = false := by
            intro drv
            have : ¬ ((n : Int) = (q : Int)) := by omega
            simp [mt, en, this]
          have z1 : cnt (mt G i q false j) (p + 1) = cnt (mt G i q false j) p := by rw [cnt_s, m1]; rfl
          have z2 : cnt (mt G i q true j) (p + 1) = cnt (mt G i q true j) p := by rw [cnt_s, m1]; rfl
          rw [hI_wI, if_neg (by omega), hI_wI, if_neg (by omega), hI_wI, if_neg (by omega), hI_wI, if_neg (by omega), z1, z2]
          exact ht.2 q hq
      obtain ⟨T', h1, h2⟩ := ih (p + 1) fu _ (by omega) (by omega) ht'
      exact ⟨T', by rw [e1]; exact h1, h2⟩
theorem tally_18 (C : Cls sh ins pl nt wy tg G S) (hs : Stt S) (gi : GI G) {i : Nat} (hi : (i : Int) < G 14 1) : ∀ (d j fu : Nat) (T : AS), (G 18 i).toNat + 1 = j + d → d < fu → TI S T (fun n => tot G i n false j) (fun n => tot G i n true j) → ∃ T', f_X5_tally_18 fu (some 0) (some (sh i)) ((j : Int) - 1) T = some ((0, 0, none), T') ∧ TI S T' (fun n => tt G i n false) (fun n => tt G i n true) := by
  intro d
  have l2 := gi.ni hi
  induction d with
  | zero =>
    intro j fu T hj hf ht
    obtain ⟨fu, rfl⟩ : ∃ z, fu = z + 1 := ⟨fu - 1, by omega⟩
    have CT := C.kp ht.1.kp
    refine ⟨T, ?_, by rw [show j = (G 18 i).toNat + 1 by omega] at ht; exact ht⟩
    unfold f_X5_tally_18
    rw [c_in CT hi, Option.bind_some, c_a2 CT hi, Option.bind_some, if_pos (by omega), rV_s]
  | succ d ih =>
    intro j fu T hj hf ht
    obtain ⟨fu, rfl⟩ : ∃ z, fu = z + 1 := ⟨fu - 1, by omega⟩
    have CT := C.kp ht.1.kp
    have hjn : (j : Int) ≤ G 18 i := by omega
    have ll := nl_np gi hi hjn
    have lt : ∀ (n : Nat) (drv : Bool), tot G i n drv j ≤ 100000 := fun n drv => by
      have : tot G i n drv j ≤ 128 * j := sj_le j (fun z hz => Nat.le_trans (cnt_le _ _) (np_le gi hi (by omega)).1)
      omega
    obtain ⟨T1, h1, h2⟩ := tally_41 C hs gi hi hjn (f_X5_tally_18 fu) (fun n => tot G i n false j) (fun n => tot G i n true j) (fun n => ⟨lt n false, lt n true⟩) (nl G i j) 0 FU T (by omega) (FU_gt (by omega)) ht
    have ht1 : TI S T1 (fun n => tot G i n false (j + 1)) (fun n => tot G i n true (j + 1)) := by
      refine ⟨h2.1, fun n hn => ?_⟩
      have e := h2.2 n hn
      simp only [cnt_nl gi hi hjn (v := (n : Int)) (by omega)] at e
      exact e
    obtain ⟨T', h3, h4⟩ := ih (j + 1) fu T1 (by omega) (by omega) ht1
    rw [show ((j + 1 : Nat) : Int) - 1 = j by omega] at h3
    refine ⟨T', ?_, h4⟩
    conv => lhs; unfold f_X5_tally_18
    rw [c_in CT hi, Option.bind_some, c_a2 CT hi, Option.bind_some, if_neg (by omega), Option.bind_some, gd_t (c_k1 CT hi), c_no CT gi hi hjn, cR_s]
    exact h1.trans h3
theorem tally_eq (C : Cls sh ins pl nt wy tg G S) (hs : Stt S) (gi : GI G) {i : Nat} (hi : (i : Int) < G 14 1) : ∃ T, f_X5_tally (some 0) (some (sh i)) S = some ((0, 0, none), T) ∧ TI S T (fun n => tt G i n false) (fun n => tt G i n true) := by
  have h := hs.1
  have l2 := gi.ni hi
  have s1 : Sc S (stI S (fl (hI S) 12 0 128 0)) := ⟨⟨rfl, rfl⟩, rfl, rfl, fun b j hb => if_neg (by omega), fun _ _ _ _ _ => rfl⟩
  have s2 : Sc (stI S (fl (hI S) 12 0 128 0)) (stI S (fl (fl (hI S) 12 0 128 0) 13 0 128 0)) := ⟨⟨rfl, rfl⟩, rfl, rfl, fun b j hb => if_neg (by omega), fun _ _ _ _ _ => rfl⟩
  have f1 := fill_eq (S := S) (a := 12) (n := 128) (h.kd (by decide)) (h.ln (by decide)) (by decide) 0
  have h1 := s1.stt hs
  have f2 := fill_eq (S := stI S (fl (hI S) 12 0 128 0)) (a := 13) (n := 128) (h1.1.kd (by decide)) (h1.1.ln (by decide)) (by decide) 0
  rw [stI_hI, stI_set] at f2
  obtain ⟨T, e, ht⟩ := tally_18 C hs gi hi ((G 18 i).toNat + 1) 0 FU (stI S (fl (fl (hI S) 12 0 128 0) 13 0 128 0)) (by omega) (FU_gt (by omega)) ⟨s1.tr s2, fun n hn => ⟨by
      rw [stI_hI]
      show (if _ then _ else (if _ then _ else _)) = _
      rw [if_neg (by omega), if_pos (by omega)]; rfl, by
      rw [stI_hI]
      show (if _ then _ else _) = _
      rw [if_pos (by omega)]; rfl⟩⟩
  refine ⟨T, ?_, ht⟩
  unfold f_X5_tally
  rw [fr_0_5 h, Option.bind_some, f1, cV_s, fr_0_6 h1.1, Option.bind_some, f2, cV_s]
  exact e
theorem tallied_23d (C : Cls sh ins pl nt wy tg G S) (hs : Stt S) (gi : GI G) {i : Nat} (hi : (i : Int) < G 14 1) {T : AS} (ht : TI S T (fun n => tt G i n false) (fun n => tt G i n true)) : ∀ (d n fu : Nat) (left : Int), -100000 ≤ left - d → left ≤ 2147483647 → (G 20 i).toNat = n + d → d < fu → f_X5_tallied_23 fu (some 0) (some (sh i)) 1 left n T = some ((0, (fnd (dbl G i) d n left).1, none), T) := by
  intro d
  have l2 := gi.nn hi
  have CT := C.kp ht.1.kp
  have hT := ht.1.stt hs
  induction d with
  | zero =>
    intro n fu left hl hl2 hn hf
    obtain ⟨fu, rfl⟩ : ∃ z, fu = z + 1 := ⟨fu - 1, by omega⟩
    unfold f_X5_tallied_23 fnd
    rw [c_in CT hi, Option.bind_some, c_a3 CT hi, Option.bind_some, if_pos (by omega), rI_s]
  | succ d ih =>
    intro n fu left hl hl2 hn hf
    obtain ⟨fu, rfl⟩ : ∃ z, fu = z + 1 := ⟨fu - 1, by omega⟩
    obtain ⟨t12, t13⟩ := ht.2 n (by omega)
    dsimp only at t12 t13
    have st : ∀ t0, f_X5_tallied_60 (f_X5_tallied_23 fu) (some 0) (some (sh i)) 1 left n t0 T = some ((0, (fnd (dbl G i) (d + 1) n left).1, none), T) := by
      intro t0
      unfold f_X5_tallied_60
      rw [if_neg (by decide), fr_0_6 hT.1, Option.bind_some, fa_13 hT.1 (by omega) (by omega), Option.bind_some, tn, t13, chk_ok (by omega) (by omega), Option.bind_some]
      unfold fnd
      by_cases c : 1 < tt G i n true
      · rw [if_neg (by omega), if_pos (show dbl G i n = true by simp [dbl, c])]
        unfold f_X5_tallied_85
        by_cases c2 : left = 0
        · rw [if_pos c2, if_pos c2, rI_s]
        · rw [if_neg c2, if_neg c2, chk_ok (by omega) (by omega), Option.bind_some, chk_ok (by omega) (by omega), Option.bind_some]
          exact ih (n + 1) fu (left - 1) (by omega) (by omega) (by omega) (by omega)
      · rw [if_pos (by omega), if_neg (show ¬ dbl G i n = true by simp [dbl]; omega)]
        exact ih (n + 1) fu left (by omega) (by omega) (by omega) (by omega)
    unfold f_X5_tallied_23
    unfold f_X5_tallied_59
    rw [c_in CT hi, Option.bind_some, c_a3 CT hi, Option.bind_some, if_neg (by omega), fr_0_5 hT.1, Option.bind_some, fa_12 hT.1 (by omega) (by omega), Option.bind_some]
    split
    · exact st 0
    · rw [fr_0_6 hT.1, Option.bind_some, fa_13 hT.1 (by omega) (by omega), Option.bind_some]
      split
      · exact st 1
      · exact st 0
theorem tallied_23o (C : Cls sh ins pl nt wy tg G S) (hs : Stt S) (gi : GI G) {i : Nat} (hi : (i : Int) < G 14 1) {T : AS} (ht : TI S T (fun n => tt G i n false) (fun n => tt G i n true)) : ∀ (d n fu : Nat) (left : Int), -100000 ≤ left - d → left ≤ 2147483647 → (G 20 i).toNat = n + d → d < fu → f_X5_tallied_23 fu (some 0) (some (sh i)) 0 left n T = some ((0, (fnd (opn G i) d n left).1, none), T) := by
  intro d
  have l2 := gi.nn hi
  have CT := C.kp ht.1.kp
  have hT := ht.1.stt hs
  induction d with
  | zero =>
    intro n fu left hl hl2 hn hf
    obtain ⟨fu, rfl⟩ : ∃ z, fu = z + 1 := ⟨fu - 1, by omega⟩
    unfold f_X5_tallied_23 fnd
    rw [c_in CT hi, Option.bind_some, c_a3 CT hi, Option.bind_some, if_pos (by omega), rI_s]
  | succ d ih =>
    intro n fu left hl hl2 hn hf
    obtain ⟨fu, rfl⟩ : ∃ z, fu = z + 1 := ⟨fu - 1, by omega⟩
    obtain ⟨t12, t13⟩ := ht.2 n (by omega)
    dsimp only at t12 t13
    have st0 : opn G i n = false → f_X5_tallied_60 (f_X5_tallied_23 fu) (some 0) (some (sh i)) 0 left n 0 T = some ((0, (fnd (opn G i) (d + 1) n left).1, none), T) := by
      intro q
      unfold f_X5_tallied_60
      rw [if_pos rfl, if_pos rfl, chk_ok (by omega) (by omega), Option.bind_some]
      unfold fnd
      rw [if_neg (by rw [q]; decide)]
      exact ih (n + 1) fu left (by omega) (by omega) (by omega) (by omega)
    have st1 : opn G i n = true → f_X5_tallied_60 (f_X5_tallied_23 fu) (some 0) (some (sh i)) 0 left n 1 T = some ((0, (fnd (opn G i) (d + 1) n left).1, none), T) := by
      intro q
      unfold f_X5_tallied_60
      rw [if_pos rfl, if_neg (by decide)]
      unfold fnd f_X5_tallied_85
      rw [if_pos q]
      by_cases c2 : left = 0
      · rw [if_pos c2, if_pos c2, rI_s]
      · rw [if_neg c2, if_neg c2, chk_ok (by omega) (by omega), Option.bind_some, chk_ok (by omega) (by omega), Option.bind_some]
        exact ih (n + 1) fu (left - 1) (by omega) (by omega) (by omega) (by omega)
    unfold f_X5_tallied_23
    unfold f_X5_tallied_59
    rw [c_in CT hi, Option.bind_some, c_a3 CT hi, Option.bind_some, if_neg (by omega), fr_0_5 hT.1, Option.bind_some, fa_12 hT.1 (by omega) (by omega), Option.bind_some, tn, t12]
    by_cases c : 0 < tt G i n false
    · rw [if_neg (by omega), fr_0_6 hT.1, Option.bind_some, fa_13 hT.1 (by omega) (by omega), Option.bind_some, tn, t13]
      by_cases c1 : tt G i n true = 0
      · rw [if_pos (by omega)]
        exact st1 (by simp [opn, c, c1])
      · rw [if_neg (by omega)]
        exact st0 (by simp [opn, c1])
    · rw [if_pos (by omega)]
      exact st0 (by simp [opn]; omega)
theorem x_doubled (C : Cls sh ins pl nt wy tg G S) (hs : Stt S) (gi : GI G) (x k : Int) (hk : k ≤ 2147483647) : (¬ ((0 ≤ x ∧ x < G 14 1) ∧ 0 ≤ k) → CO S (f_X5_doubled (some 0) x k S) 1 0) ∧ ((0 ≤ x ∧ x < G 14 1) ∧ 0 ≤ k → CO S (f_X5_doubled (some 0) x k S) 0 (fnd (dbl G x.toNat) (G 20 x.toNat).toNat 0 k).1) := by
  have h := hs.1
  have k0 := fk_0 h
  constructor
  · intro hn
    unfold f_X5_doubled
    rw [gd_t k0]
    by_cases hx : 0 ≤ x ∧ x < G 14 1
    · rw [shellAt_t C h gi hx, cR_s, gd_t k0]
      unfold f_X5_tallied
      rw [if_neg (fun q => hn ⟨hx, q⟩), cI_X]
      exact CO.x (Sc.rfl' S) hs
    · rw [shellAt_f C h hx, cR_X]
      exact CO.x (Sc.rfl' S) hs
  · intro hp
    have ln := gi.nn (i := x.toNat) (by omega)
    obtain ⟨T, e1, ht⟩ := tally_eq C hs gi (i := x.toNat) (by omega)
    have e2 := tallied_23d C hs gi (i := x.toNat) (by omega) ht (G 20 x.toNat).toNat 0 FU k (by omega) hk (by omega) (FU_gt (by omega))
    unfold f_X5_doubled
    rw [gd_t k0, shellAt_t C h gi hp.1, cR_s, gd_t k0]
    unfold f_X5_tallied
    rw [if_pos hp.2, gd_t k0, e1, cV_s]
    rw [show f_X5_tallied_23 FU (some 0) (some (sh x.toNat)) 1 k 0 T = _ from e2, cI_s, rI_s]
    exact CO.v ht.1 hs
theorem x_open (C : Cls sh ins pl nt wy tg G S) (hs : Stt S) (gi : GI G) (x k : Int) (hk : k ≤ 2147483647) : (¬ ((0 ≤ x ∧ x < G 14 1) ∧ 0 ≤ k) → CO S (f_X5_open (some 0) x k S) 1 0) ∧ ((0 ≤ x ∧ x < G 14 1) ∧ 0 ≤ k → CO S (f_X5_open (some 0) x k S) 0 (fnd (opn G x.toNat) (G 20 x.toNat).toNat 0 k).1) := by
  have h := hs.1
  have k0 := fk_0 h
  constructor
  · intro hn
    unfold f_X5_open
    rw [gd_t k0]
    by_cases hx : 0 ≤ x ∧ x < G 14 1
    · rw [shellAt_t C h gi hx, cR_s, gd_t k0]
      unfold f_X5_tallied
      rw [if_neg (fun q => hn ⟨hx, q⟩), cI_X]
      exact CO.x (Sc.rfl' S) hs
    · rw [shellAt_f C h hx, cR_X]
      exact CO.x (Sc.rfl' S) hs
  · intro hp
    have ln := gi.nn (i := x.toNat) (by omega)
    obtain ⟨T, e1, ht⟩ := tally_eq C hs gi (i := x.toNat) (by omega)
    have e2 := tallied_23o C hs gi (i := x.toNat) (by omega) ht (G 20 x.toNat).toNat 0 FU k (by omega) hk (by omega) (FU_gt (by omega))
    unfold f_X5_open
    rw [gd_t k0, shellAt_t C h gi hp.1, cR_s, gd_t k0]
    unfold f_X5_tallied
    rw [if_pos hp.2, gd_t k0, e1, cV_s]
    rw [show f_X5_tallied_23 FU (some 0) (some (sh x.toNat)) 0 k 0 T = _ from e2, cI_s, rI_s]
    exact CO.v ht.1 hs
end
