/-! the class's flat -/
variable {sh ins : Nat → Nat} {pl nt wy : Nat → Nat → Nat} {tg : Nat → Nat × Nat}
section
variable {G : Nat → Nat → Int} {S : AS} {rk : Nat → Nat} {x : Nat} {w : WT} {m t c : Nat} {l : Nat → Nat}
set_option maxHeartbeats 4000000 in
theorem flat_end (C : Cls sh ins pl nt wy tg G S) (hs : Stt S) (gi : GI G) (hw : WF G rk m w) {N : Nat} (et : G 14 1 = t) (hmt : m < t) (ht : t < 24) (hN : fst G w (wn w) = N) (hN3 : N ≤ 3000) (h64 : wl w ≤ 64) {T : AS} (kp : Kp S T) (fr : Fr S T) (hn9 : hn T = hn S + wl w) (hu9 : hu T ≤ hu S + 24 * wl w) (h56 : hI T 5 6 = (wl w : Int)) (h6 : ∀ y, y < N → hI T 6 y = (nu l y : Int)) (lq : ∀ q, q < wl w → Lq G ins pl (hn S) T w q) : ∃ V, (cR (f_X1_insideFor (some 5) (some (sh m)) c T) fun o32 S31 => gd (isK S31 (some 0) 6) <| cR (f_X5_addShell (some 0) o32 S31) fun o35 S34 => gd (isK S34 o35 5) <| cV (f_X4_takePorts o35 (some (sh m)) S34) fun S37 => (gI S37 o35 5 0).bind fun v40 => rI v40 S37) = some ((0, (t : Int), none), V) ∧ Fr S V ∧ Bd 1000 13000 S V ∧ hn S ≤ hn V ∧ ∀ G' : Nat → Nat → Int, Fs G G' m t w l c → ∃ (sh' ins' : Nat → Nat) (pl' nt' wy' : Nat → Nat → Nat) (tg' : Nat → Nat × Nat), Cls sh' ins' pl' nt' wy' tg' G' V := by
  have hm : (m : Int) < G 14 1 := by omega
  have h39 := hs.2.1
  have rm := hs.2.2
  have rm1 := rm.1
  have rm2 := rm.2
  have fT := fr.2
  have CT := C.kp kp
  obtain ⟨s0, hs0⟩ : ∃ s0, hn S = s0 := ⟨_, rfl⟩
  rw [hs0] at hn9 lq
  obtain ⟨a, ha⟩ : ∃ a, hn T = a := ⟨_, rfl⟩
  obtain ⟨U, eU, ⟨nU, uU⟩, oU, ⟨k0, k1, k2⟩, ⟨l1, l2⟩, ⟨r0, r1⟩, ⟨i2, i3, i4⟩, own, iq⟩ := insideFor_eq (l := l) CT gi hw (s0 := s0) hm hN hN3 h64 fT ha (by omega) (by omega) (by omega) h56 h6 lq (c : Int)
  have fU : Fix U := ⟨fun b hb => by rw [(oU b (by omega)).1, (oU b (by omega)).2.1]; exact fT.1 b hb, fun r hr => by
    have z : ∀ r ∈ rT, r.1 < 39 := by decide
    rw [(oU r.1 (by have := z r hr; omega)).2.2.2]
    exact fT.2 r hr⟩
  obtain ⟨s, hsn⟩ : ∃ s, hn U = s := ⟨_, rfl⟩
  obtain ⟨X, eX, ⟨nX, uX⟩, oX, fX, i01, r1X, z0⟩ := newShell (S := U) (n := t) (a := some a) fU (by omega) (by omega) (by omega) (by rw [(oU 0 (by omega)).2.2.1, CT.1, et]) ht
  rw [hsn] at eX nX oX r1X z0
  obtain ⟨⟨z1, z2, z3⟩, ⟨z4, z5⟩, ⟨z6, z7, z8⟩, ⟨z9, z10, z11, z12⟩, z13, z14⟩ := z0
  obtain ⟨s1, s2, s3, s4, s5, s6, s7, s8⟩ := C.at hm
  have oS : ∀ y, 39 ≤ y → y < s0 → Od y S X := fun y g1 g2 => (Od.tr (T := T) (kp.2.1 y g1 (by omega)) (oU y (by omega))).tr (oX y (by omega) (by omega) (by omega))
  have p0 := oS (sh m) (by omega) (by omega)
  have p1 := oS (sh m + 1) (by omega) (by omega)
  have p2' := oS (sh m + 2) (by omega) (by omega)
  obtain ⟨V, eV, ⟨nV, uV, kV, lV, rV⟩, v1, v2, v3, v4⟩ := takePorts_eq (S := X) (s := s) (f := sh m) (by omega) ⟨z1, z2, z3⟩ ⟨z4, z5⟩ ⟨z6, z7⟩ (by rw [p0.1, p1.1, p2'.1]; exact s2) (by rw [p1.2.1, p2'.2.1]; exact s3) (by rw [p0.2.2.2, p0.2.2.2]; exact s4)
  have fV : Fix V := ⟨fun b hb => by rw [kV, lV]; exact fX.1 b hb, fun r hr => by rw [rV]; exact fX.2 r hr⟩
  have oXV : ∀ y, y < s → Od y X V := fun y hy => ⟨by rw [kV], by rw [lV], fun j => v1 y (by omega) (by omega) (by omega) j, fun j => by rw [rV]⟩
  have oUV : ∀ y, 39 ≤ y → y < s → Od y U V := fun y g1 g2 => (oX y (by omega) (by omega) (by omega)).tr (oXV y g2)
  have oTV : ∀ y, 39 ≤ y → y < a → Od y T V := fun y g1 g2 => (oU y (by omega)).tr (oUV y g1 (by omega))
  have oSV : ∀ y, 39 ≤ y → y < s0 → Od y S V := fun y g1 g2 => (oS y g1 g2).tr (oXV y (by omega))
  refine ⟨V, ?_, ⟨fun b j g1 g2 => ?_, fV⟩, ⟨by rw [nV, nX]; omega, by rw [uV, uX]; omega⟩, by rw [nV, nX]; omega, fun G' fs => ?_⟩
  · rw [eU, cR_s, fk_0 fU, gd_1, eX, cR_s, isK_at z1, gd_1, eV, cV_s, gI_at (by rw [kV]; exact z1), Option.bind_some, v2, if_neg (by omega), if_neg (by omega), z9, rI_s]
  · rw [(oXV b (by omega)).2.2.1, (oX b (by omega) (by omega) (by omega)).2.2.1, (oU b (by omega)).2.2.1]
    exact fr.1 b j g1 g2
  · have ad := fs.ad gi
    obtain ⟨⟨e1, e2⟩, p2, ⟨c18, c20, c21, c9⟩, h17, old, own', fq, rest⟩ := fs
    have pwm := gi.pw hm
    have leaf : ∀ q, q < wl w → (wm w (wo w q) : Int) < G 14 1 ∧ (wj w q : Int) < G 18 (wm w (wo w q)) ∧ wo w q < wn w ∧ (lf9 G w q : Int) < G 14 1 := fun q hq => by
      obtain ⟨a1, a2, -⟩ := hw.2.2.2 q hq
      have a3 := (hw.2.1 _ a1).1
      exact ⟨a3, a2, a1, (gi.fv a3 a2).2⟩
    have efo : ∀ q, q < wl w → fo G' t q = lf9 G w q := fun q hq => by
      unfold fo
      rw [(fq q hq).1]
      omega
    have l9 : ∀ i : Nat, i < t → G 21 i ≤ G 14 9 := fun i hi => (gi.at (by omega)).2.2.2.2.2.2.2
    obtain ⟨sh', hsh⟩ : ∃ f : Nat → Nat, ∀ i, f i = if i = t then s else sh i := ⟨_, fun _ => rfl⟩
    obtain ⟨ins', hins⟩ : ∃ f : Nat → Nat, ∀ i, f i = if i = t then a else ins i := ⟨_, fun _ => rfl⟩
    obtain ⟨pl', hpl⟩ : ∃ f : Nat → Nat → Nat, ∀ y k, f y k = if y = a then a + 4 + 2 * k else pl y k := ⟨_, fun _ _ => rfl⟩
    obtain ⟨nt', hnt⟩ : ∃ f : Nat → Nat → Nat, ∀ y k, f y k = if y = a then a + 3 + 2 * k else nt y k := ⟨_, fun _ _ => rfl⟩
    obtain ⟨wy', hwy⟩ : ∃ f : Nat → Nat → Nat, ∀ y k, f y k = if y = a then s0 + k else wy y k := ⟨_, fun _ _ => rfl⟩
    obtain ⟨tg', htg⟩ : ∃ f : Nat → Nat × Nat, ∀ y, f y = if y < s0 then tg y else if y < a then (0, 0) else if y = s + 1 then (s, 0) else if y = a + 1 then (a, 0) else (a, (y - (a + 3)) / 2 + 1) := ⟨_, fun _ => rfl⟩
    have st : sh' t = s := by rw [hsh, if_pos rfl]
    have it : ins' t = a := by rw [hins, if_pos rfl]
    refine ⟨sh', ins', pl', nt', wy', tg', ?_, fun i hi => ?_, fun i j hi hj => ?_⟩
    · rw [(oXV 0 (by omega)).2.2.1, i01, e2]
    · rw [e2] at hi
      show MoF sh' ins' pl' nt' wy' tg' G' V i
      by_cases ci : i = t
      · subst ci
        refine ⟨⟨by rw [rV, r1X, if_pos rfl, st], by rw [st, it, rV, z8]⟩, ?_, ?_, ⟨?_, ?_⟩, fun k hk9 => ?_⟩
        · rw [st]
          refine ⟨⟨by omega, by omega⟩, by rw [kV]; exact ⟨z1, z2, z3⟩, by rw [lV]; exact ⟨z4, z5⟩, by rw [rV]; exact ⟨z6, z7⟩, ⟨by rw [v2, if_neg (by omega), if_neg (by omega)]; exact z9, by rw [v2, if_pos rfl, p0.2.2.1, p2.1]; exact s5.2.1, by rw [v2, if_neg (by omega), if_pos rfl, p0.2.2.1, pc_p2 p2 pwm.1]; exact s5.2.2⟩, ?_, fun k hk9 => ?_, fun q hq => ?_⟩
          · rw [v2, if_neg (by omega), if_neg (by omega), z12]
            refine ⟨Or.inl rfl, ⟨fun q => by omega, fun q => ?_⟩⟩
            rcases (ad.used i).mp q with ⟨j, k, q1, q2, q3⟩ | ⟨k, q1, q2⟩
            · have := (gi.fv q1 q2).2
              omega
            · rw [c18] at q1
              rw [efo k (by omega)] at q2
              have := (leaf k (by omega)).2.2.2
              omega
          · rw [v3 k hk9, p1.2.2.1, s7 k hk9, p2.1]
            by_cases cl : (k : Int) < G 15 m
            · rw [if_pos cl, if_pos cl, (p2.2 k cl).1]
            · rw [if_neg cl, if_neg cl]
          · rw [pc_p2 p2 pwm.1] at hq
            have := pc_le pwm
            rw [v4 q (by omega), p2'.2.2.1, s8 q hq, ob_p2 p2 pwm.1]
        · rw [it]
          have q0 := oUV a (by omega) (by omega)
          have q1 := oUV (a + 1) (by omega) (by omega)
          have q2 := oUV (a + 2) (by omega) (by omega)
          refine ⟨⟨by omega, by omega⟩, ⟨by rw [q0.1]; exact k0, by rw [q1.1]; exact k1, by rw [q2.1]; exact k2⟩, ⟨by rw [q1.2.1]; exact l1, by rw [q2.2.1]; exact l2⟩, ⟨by rw [q0.2.2.2]; exact r0, by rw [q0.2.2.2]; exact r1⟩, ⟨by rw [q0.2.2.1, c18]; exact i2, by rw [q0.2.2.1, c20]; exact i3, ?_⟩, fun q hq => ?_⟩
          · rw [q0.2.2.1, i4]
            unfold cJ
            rw [e2, show ((i : Int) + 1).toNat = i + 1 by omega, cnt_s]
            have e : cnt (fun j => decide (G' 21 j = G' 21 i)) i = cnt (fun _ => false) i := cnt_congr _ (fun k hk9 => by
              rw [(ad.2.1 k hk9).2.2, c21]
              have := l9 k hk9
              have : ¬ (G 21 k = G 14 9 + 1) := by omega
              simp [this])
            have z : ∀ n, cnt (fun _ => false) n = 0 := by
              intro n
              induction n with
              | zero => rfl
              | succ n ih => rw [cnt_s, ih]; rfl
            rw [e, z]
            simp
          · rw [q1.2.2.1, own q hq, own' q hq]
        · rw [st, htg, if_neg (by omega), if_neg (by omega), if_pos rfl]
        · rw [it, htg, if_neg (by omega), if_neg (by omega), if_neg (by omega), if_pos rfl]
        · rw [c18] at hk9
          have hkl : k < wl w := by omega
          obtain ⟨b1, b2, b3, b4⟩ := leaf k hkl
          obtain ⟨f1, f2, f3, f4⟩ := fq k hkl
          obtain ⟨y1, y2, ⟨y3, y4, y5⟩, ⟨y6, y7⟩, y8⟩ := iq k hkl
          obtain ⟨w1, w2, w3, ⟨w4, w5⟩, w6⟩ := lq k hkl
          have ef := efo k hkl
          have wf := gi.pw b4
          have pb := pc_le wf
          have paf : PA G G' (lf9 G w k) := (ad.2.1 (lf9 G w k) (by omega)).1.1
          have q2 := oUV (a + 2) (by omega) (by omega)
          have op := oUV (a + 4 + 2 * k) (by omega) (by omega)
          have on := oUV (a + 3 + 2 * k) (by omega) (by omega)
          have ow := oTV (s0 + k) (by omega) (by omega)
          have d23 := (hw.2.1 _ b3).2
          rw [it, hpl, if_pos rfl, hnt, if_pos rfl, hwy, if_pos rfl]
          refine ⟨⟨by rw [q2.2.2.2]; exact y1, ⟨by omega, by omega, by rw [op.1]; exact y2⟩, ⟨?_, by rw [op.2.2.2]; exact y4, by rw [op.2.2.2]; exact y5⟩, ⟨by omega, by omega, by rw [on.1]; exact y6, ?_⟩, ⟨by omega, by omega, by rw [ow.1]; exact w4⟩, fun q hq => ?_, ?_⟩, ?_, ?_⟩
          · rw [op.2.2.2, ef, hsh, if_neg (by omega)]; exact y3
          · rw [on.2.1, ef, pc_congr paf wf.1]; exact y7
          · rw [ef, pc_congr paf wf.1] at hq
            rw [on.2.2.1, y8 q hq, f4 q (by omega), if_pos hq]
          · rw [f2, ow.2.1]
            refine ⟨fun z => by omega, fun z => ⟨by rw [w5]; omega, fun u hu7 => ?_⟩⟩
            rw [ow.2.2.1, w6 u (by omega), f3 u (by omega)]
          · rw [htg, if_neg (by omega), if_neg (by omega), if_neg (by omega), if_neg (by omega)]
            have : (a + 3 + 2 * k - (a + 3)) / 2 = k := by omega
            rw [this]
          · rw [htg, if_neg (by omega), if_pos (by omega)]
      · have hi' : (i : Int) < G 14 1 := by omega
        obtain ⟨-, is, ia, -, ip⟩ := C.mo hi'
        have ls := is.1
        have la := ia.1
        have ga := (ad.2.1 i (by omega)).1
        have nia : ins i ≠ a := by omega
        refine MoF.keep gi hi' (C.mo hi') (by rw [hsh, if_neg ci]) (fun k hk9 => by have := (gi.fv hi' hk9).2; rw [hsh, if_neg (by omega)]) (by rw [hins, if_neg ci]) (fun k _ => ⟨by rw [hpl, if_neg nia], by rw [hnt, if_neg nia], by rw [hwy, if_neg nia]⟩) (fun y hy => by rw [htg, if_pos (by omega)]) (by omega) ?_ ((oSV _ (by omega) (by omega)).sa 5) (oSV _ (by omega) (by omega)) (oSV _ (by omega) (by omega)) ((oSV _ (by omega) (by omega)).sa 4) (oSV _ (by omega) (by omega)) (oSV _ (by omega) (by omega)) (fun k hk9 => ?_) ga ?_ ?_
        · rw [rV, r1X, if_neg ci, (oU 1 (by omega)).2.2.2, kp.2.2.2]
        · obtain ⟨p1, p2, p3, p4, p5, p6, p7⟩ := (ip k hk9).1
          exact ⟨oSV _ (by omega) (by omega), oSV _ (by omega) (by omega), oSV _ (by omega) (by omega)⟩
        · rw [(oSV _ (by omega) (by omega)).2.2.1, ad.cJ (by omega), c21, if_neg (by have := l9 i (by omega); omega)]
          exact ia.2.2.2.2.1.2.2
        · rw [(oSV _ (by omega) (by omega)).2.2.1, ad.used]
          refine ⟨is.2.2.2.2.2.1.1, is.2.2.2.2.2.1.2.trans ⟨Or.inl, fun q => ?_⟩⟩
          rcases q with q | ⟨k, q1, q2⟩
          · exact q
          · rw [c18] at q1
            rw [efo k (by omega)] at q2
            obtain ⟨b1, b2, b3, b4⟩ := leaf k (by omega)
            exact ⟨wm w (wo w k), wj w k, b1, b2, q2⟩
    · rw [e2] at hi hj
      rw [hins i, hins j]
      by_cases d1 : i = t
      · by_cases d2 : j = t
        · rw [if_pos d1, if_pos d2, d1, d2]; simp
        · have := l9 j (by omega)
          have lj := (C.ia (i := j) (by omega)).1
          rw [if_pos d1, if_neg d2, d1, c21, (ad.2.1 j (by omega)).2.2]
          exact ⟨fun q => by omega, fun q => by omega⟩
      · by_cases d2 : j = t
        · have := l9 i (by omega)
          have lj := (C.ia (i := i) (by omega)).1
          rw [if_neg d1, if_pos d2, d2, c21, (ad.2.1 i (by omega)).2.2]
          exact ⟨fun q => by omega, fun q => by omega⟩
        · rw [if_neg d1, if_neg d2, (ad.2.1 i (by omega)).2.2, (ad.2.1 j (by omega)).2.2]
          exact C.2.2 i j (by omega) (by omega)
/-- the class has laid flat -/
def CF (G : Nat → Nat → Int) (S : AS) (c9 : Option RS) (m t : Nat) (w : WT) (l : Nat → Nat) (c : Nat) : Prop := ∃ V, c9 = some ((0, (t : Int), none), V) ∧ Fr S V ∧ Bd 1000 13000 S V ∧ hn S ≤ hn V ∧ ∀ G' : Nat → Nat → Int, Fs G G' m t w l c → ∃ (sh' ins' : Nat → Nat) (pl' nt' wy' : Nat → Nat → Nat) (tg' : Nat → Nat × Nat), Cls sh' ins' pl' nt' wy' tg' G' V
set_option maxHeartbeats 4000000 in
theorem x_flat (C : Cls sh ins pl nt wy tg G S) (hs : Stt S) (gi : GI G) (r1 : ∀ i : Nat, (i : Int) < G 14 1 → rk i ≤ 23) (r2 : ∀ i k : Nat, (i : Int) < G 14 1 → (k : Int) < G 18 i → rk (fo G i k) < rk i) (x : Int) : (¬ (0 ≤ x ∧ x < G 14 1) → CX S (f_X5_flat (some 0) x S) 1 0 G) ∧ ((0 ≤ x ∧ x < G 14 1) → G 14 1 = 24 → CX S (f_X5_flat (some 0) x S) 2 0 G) ∧ ∀ (m t : Nat) (w : WT) (N : Nat), x = m → m < t → G 14 1 = t → t ≠ 24 → w = wk G 24 0 m (w0 m) → N = (fst G w (wn w)).toNat → (64 < wl w → CX S (f_X5_flat (some 0) x S) 4 0 G) ∧ (wl w ≤ 64 → (3000 < fst G w (wn w) → CX S (f_X5_flat (some 0) x S) 4 0 G) ∧ (fst G w (wn w) ≤ 3000 → ∀ l, Lb (EE G w) N l → (128 < cnt (fun i => decide (l i = i)) N → CX S (f_X5_flat (some 0) x S) 4 0 G) ∧ (cnt (fun i => decide (l i = i)) N ≤ 128 → CF G S (f_X5_flat (some 0) x S) m t w l (cnt (fun i => decide (l i = i)) N)))) := by
  have h := hs.1
  have k0 := fk_0 h
  have h1 := gi.1
  refine ⟨fun hx => ?_, fun hx h24 => ?_, fun m t w N hxm hmt et ht hwd hNd => ?_⟩
  · unfold f_X5_flat
    rw [gd_t k0, shellAt_f C h hx, cR_X]
    exact (CO.x (Sc.rfl' S) hs).cx C
  · unfold f_X5_flat f_X5_requireRoomForModule
    rw [gd_t k0, shellAt_t C h gi hx, cR_s, gd_t k0, c_n C h, Option.bind_some, if_pos h24, cV_X]
    exact (CO.x (Sc.rfl' S) hs).cx C
  · subst hxm
    have hm : (m : Int) < G 14 1 := by omega
    have nn := gi.nn hm
    have rkm := r1 m hm
    have wf0 := w0_f (G := G) (rk := rk) hm r1
    have wok := wk_ok gi r2 24 0 m (w0 m) wf0 (Nat.lt_succ_self _) rfl (by omega)
    rw [← hwd] at wok
    obtain ⟨px, hw, wl9, fs9⟩ := wok
    have wl0 : wl (w0 m) = 0 := rfl
    have fs0 : fst G (w0 m) (wn (w0 m)) = G 20 m := by show (0 : Int) + G 20 m = G 20 m; omega
    rw [wl0] at wl9
    rw [fs0] at fs9
    have lvm : (64 < lv G m) ↔ 64 < wl w := by
      by_cases z : G 18 m = 0
      · have e : lv G m = lvF G (lv G) m := fxp_at gi lvF_lo hm
        have e1 : lv G m = 1 := by
          rw [e]
          unfold lvF
          rw [z]
          simp only [Int.toNat_zero, lsm, if_pos z]
          rfl
        have e2 : cl G 24 m = 0 := by
          show clI G (cl G 23) m (G 18 m).toNat = 0
          rw [z]
          rfl
        rw [e1]
        omega
      · have := cl_lv gi r2 24 m hm (by omega) z
        rw [this]
        split <;> omega
    have ntm : (nto G m ≤ 3000) ↔ fst G w (wn w) ≤ 3000 := by
      have := (cn_nto gi r2 24 m hm (by omega)).2
      rw [this, fs9]
      split <;> omega
    obtain ⟨T1, e1, sc1⟩ := leaves_eq C hs gi (Sc.rfl' S) hm
    obtain ⟨T2, e2, sc2⟩ := nets_eq C hs gi sc1 hm
    have hs1 := sc1.stt hs
    have hs2 := sc2.stt hs
    have C2 := C.kp sc2.kp
    have e0 : f_X5_flat (some 0) m S = if 64 < lv G m then rX 4 T1 else if nto G m ≤ 3000 then (gR T2 (some 0) 6 3).bind fun o13 => gd (isK T2 o13 2) <| cV (f_X1_restart o13 T2) fun S14 => (gR S14 (some 0) 6 3).bind fun o17 => (gR S14 (some (sh m)) 5 6).bind fun o18 => (gI S14 o18 1 3).bind fun v19 => gd (isK S14 o17 2) <| cI (f_X1_addNets o17 v19 S14) fun v21 S20 => (gR S20 (some 0) 6 3).bind fun o23 => cV (f_X5_layOut 30 (some (sh m)) v21 o23 0 S20) fun S24 => (gR S24 (some 0) 6 3).bind fun o26 => gd (isK S24 o26 2) <| cI (f_X1_numberNets o26 S24) fun v28 S27 => if v28 ≤ 128 then (gR S27 (some 0) 6 3).bind fun o30 => gd (isK S27 o30 2) <| cR (f_X1_insideFor o30 (some (sh m)) v28 S27) fun o32 S31 => gd (isK S31 (some 0) 6) <| cR (f_X5_addShell (some 0) o32 S31) fun o35 S34 => gd (isK S34 o35 5) <| cV (f_X4_takePorts o35 (some (sh m)) S34) fun S37 => (gI S37 o35 5 0).bind fun v40 => rI v40 S37 else rX 4 S27 else rX 4 T2 := by
      unfold f_X5_flat f_X5_requireRoomForModule
      rw [gd_t k0, shellAt_t C h gi ⟨by omega, hm⟩, cR_s, tn, gd_t k0, c_n C h, Option.bind_some, if_neg (by omega), rV_s, cV_s, gd_t k0, e1, cI_s, fk_0 hs1.1, gd_1, e2, cI_s]
    refine ⟨fun h64 => ?_, fun h64 => ⟨fun h3 => ?_, fun h3 l' lb' => ?_⟩⟩
    · rw [e0, if_pos (lvm.mpr h64)]
      exact (CO.x sc1 hs).cx C
    · rw [e0, if_neg (fun q => by have := lvm.mp q; omega), if_neg (fun q => by have := ntm.mp q; omega)]
      exact (CO.x sc2 hs).cx C
    · have p0 := (fst_up gi hw 0 (wn w) (Nat.le_refl _)).1
      have hN : fst G w (wn w) = (N : Int) := by omega
      obtain ⟨T3, hT3⟩ : ∃ T3, T3 = wI (wI T2 5 5 0) 5 6 0 := ⟨_, rfl⟩
      have sc3 : Sc S T3 := by rw [hT3]; exact (sc2.tr (Sc.w1 _ _ _ (by decide) (by decide))).tr (Sc.w1 _ _ _ (by decide) (by decide))
      have hs3 := sc3.stt hs
      have C3 := C.kp sc3.kp
      obtain ⟨M, hM⟩ : ∃ M : Nat, G 20 m = (M : Int) := ⟨(G 20 m).toNat, by omega⟩
      obtain ⟨T4, e4, c4, v5, v6⟩ := addNets_eq (N := 0) (more := M) (by omega) hs3.1 (by rw [hT3, hI_wn (by omega), hI_w0]; rfl)
      have sc4 : Sc S T4 := sc3.tr (c4.sc (fun a j q => by omega))
      have hs4 := sc4.stt hs
      have i56 : hI T4 5 6 = 0 := by rw [c4.i (by omega), hT3, hI_w0]
      have noE : ∀ a b, ¬ EE G (w0 m) a b := fun a b ⟨i, q, g1, g2, _⟩ => by
        have : i < 1 := g2
        omega
      have cw0 : CW G ins pl S T4 (w0 m) (fun y => y) := by
        refine ⟨⟨sc4.kp, sc4.fr h⟩, ⟨by rw [sc4.1.1]; rfl, by rw [sc4.1.2]; exact Nat.le_add_right _ _⟩, ⟨by rw [fs0, hM, v5]; omega, by rw [i56]; rfl⟩, fun q hq => absurd hq (Nat.not_lt_zero _), ?_, ⟨fun y _ => ⟨Nat.le_refl _, fun _ _ => rfl⟩, fun a b e => absurd e (noE a b)⟩⟩
        rw [fs0, hM, tn]
        exact fun y hy => ⟨y, v6 y (Nat.zero_le _) (by omega), Nat.le_refl _, rfl, fun _ => rfl⟩
      obtain ⟨T5, l, e5, cw5, -⟩ := layOut_eq C hs gi r2 24 0 m (w0 m) T4 _ wf0 (Nat.lt_succ_self _) rfl (by omega) cw0 (fun u hu9 => absurd hu9 (Nat.not_lt_zero _)) (by rw [← hwd]; exact h64) (by rw [← hwd]; exact h3)
      rw [← hwd] at cw5
      obtain ⟨⟨kp5, fr5⟩, ⟨n5, u5⟩, ⟨i5, i6⟩, lq5, uf5, lb5⟩ := cw5
      rw [← hNd] at uf5 lb5
      obtain ⟨T6, e6, c6', v6'⟩ := numberNets_eq (l := l) (N := N) (by omega) (fun y hy => (lb5.1 y hy).1) fr5.2 (by rw [i5, hN]) uf5
      have sc6 : Sc T5 T6 := c6'.sc (fun a j q => by unfold c6 at q; omega)
      have el : ∀ y, y < N → l y = l' y := fun y hy => lb5.un lb' hy
      have ec : cnt (fun i => decide (l i = i)) N = cnt (fun i => decide (l' i = i)) N := cnt_congr _ (fun k hk9 => by rw [el k hk9])
      have en : ∀ y, y < N → nu l y = nu l' y := fun y hy => by
        unfold nu
        have ly := (lb5.1 y hy).1
        rw [← el y hy]
        exact cnt_congr _ (fun k hk9 => by rw [el k (by omega)])
      have kp6 : Kp S T6 := kp5.tr sc6.kp
      have fr6 : Fr S T6 := fr5.tr (sc6.fr fr5.2)
      have C4 := C.kp sc4.kp
      have h14 : f_X1_restart (some 5) T2 = some ((0, 0, none), T3) := by
        unfold f_X1_restart
        rw [fp_5 hs2.1, Option.bind_some, fp_5 (hs2.1.wI 5 5 0), Option.bind_some, rV_s, hT3]
      have e7 : f_X5_flat (some 0) m S = if ((cnt (fun i => decide (l' i = i)) N : Nat) : Int) ≤ 128 then cR (f_X1_insideFor (some 5) (some (sh m)) ((cnt (fun i => decide (l' i = i)) N : Nat) : Int) T6) fun o32 S31 => gd (isK S31 (some 0) 6) <| cR (f_X5_addShell (some 0) o32 S31) fun o35 S34 => gd (isK S34 o35 5) <| cV (f_X4_takePorts o35 (some (sh m)) S34) fun S37 => (gI S37 o35 5 0).bind fun v40 => rI v40 S37 else rX 4 T6 := by
        have f6 := fr6.2
        have e5' : f_X5_layOut 30 (some (sh m)) 0 (some 5) 0 T4 = some ((0, 0, none), T5) := e5
        rw [e0, if_neg (fun q => by have := lvm.mp q; omega), if_pos (ntm.mpr h3), fr_0_3 hs2.1, Option.bind_some, fk_5 hs2.1, gd_1, h14, cV_s, fr_0_3 hs3.1, Option.bind_some, c_in C3 hm, Option.bind_some, c_a3 C3 hm, Option.bind_some, fk_5 hs3.1, gd_1, hM, e4, cI_s, fr_0_3 hs4.1, Option.bind_some, show ((0 : Nat) : Int) = 0 from rfl, e5', cV_s, fr_0_3 fr5.2, Option.bind_some, fk_5 fr5.2, gd_1, e6, cI_s, ec, fr_0_3 f6, Option.bind_some, fk_5 f6, gd_1]
      have rm := hs.2.2
      refine ⟨fun hc => ?_, fun hc => ?_⟩
      · rw [e7, if_neg (by omega), rX_ok (by rw [sc6.1.1, n5]; have := rm.1; omega) (by rw [sc6.1.2]; have := rm.2; omega)]
        have q6 := Qu.x fr6.2 (by rw [sc6.1.1, n5]; have := hs.2.1; omega)
        refine ⟨wX T6, sh, ins, pl, nt, wy, tg, rfl, C.kp (kp6.tr q6.1), fr6.tr q6.2.1, ⟨?_, ?_⟩, ?_⟩
        · have := q6.2.2.1
          rw [sc6.1.1, n5] at this
          omega
        · have := q6.2.2.2
          rw [sc6.1.2] at this
          omega
        · have := q6.1.1
          rw [sc6.1.1, n5] at this
          omega
      · rw [e7, if_pos (by omega)]
        exact flat_end (c := cnt (fun i => decide (l' i = i)) N) (l := l') C hs gi hw et hmt (by omega) hN (by omega) h64 kp6 fr6 (by rw [sc6.1.1, n5]) (by rw [sc6.1.2]; exact u5) (by rw [c6'.i (by unfold c6; omega)]; exact i6) (fun y hy => by rw [v6' y hy, en y hy]) (fun q hq => (lq5 q hq).ch c6' (fun a j z => by unfold c6 at z; omega) hs.2.1)
end
