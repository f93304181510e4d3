/-! the order: each module behind all that are in it -/
variable {sh ins : Nat → Nat} {pl nt wy : Nat → Nat → Nat} {tg : Nat → Nat × Nat}
theorem cnt_sub {f g : Nat → Bool} : ∀ n, (∀ k, k < n → f k = true → g k = true) → cnt f n ≤ cnt g n := by
  intro n
  induction n with
  | zero => intro _; exact Nat.le_refl _
  | succ n ih =>
    intro h
    have := ih (fun k hk => h k (by omega))
    rw [cnt_s, cnt_s]
    by_cases c : f n = true
    · rw [if_pos c, if_pos (h n (by omega) c)]; omega
    · rw [if_neg c]; omega
theorem cnt_lt {f g : Nat → Bool} {j n : Nat} (h : ∀ k, k < n → f k = true → g k = true) (hj : j < n) (hf : f j = false) (hg : g j = true) : cnt f n < cnt g n := by
  have u := cnt_upd (f := fun k => if k = j then true else f k) (g := f) (m := j) (fun k hk => by simp [hk]) n
  have s := cnt_sub (f := fun k => if k = j then true else f k) (g := g) n (fun k hk q => by
    by_cases c : k = j
    · rw [c]; exact hg
    · simp [c] at q; exact h k hk q)
  rw [if_neg (by simp [hf]), if_pos (by simp [hj])] at u
  omega
theorem GI.rank {G : Nat → Nat → Int} (gi : GI G) : ∃ rk : Nat → Nat, (∀ i : Nat, (i : Int) < G 14 1 → rk i ≤ 23) ∧ ∀ i k : Nat, (i : Int) < G 14 1 → (k : Int) < G 18 i → rk (fo G i k) < rk i := by
  obtain ⟨h1, h2, ⟨rk, h3⟩, h4, h5⟩ := gi
  have gi : GI G := ⟨h1, h2, ⟨rk, h3⟩, h4, h5⟩
  refine ⟨fun i => cnt (fun j => decide (rk j < rk i)) (G 14 1).toNat, fun i hi => ?_, fun i k hi hk => ?_⟩
  · have := cnt_lt (f := fun j => decide (rk j < rk i)) (g := fun _ => true) (j := i) (n := (G 14 1).toNat) (fun _ _ _ => rfl) (by omega) (by simp) rfl
    have := cnt_le (fun _ => true) (G 14 1).toNat
    dsimp only
    omega
  · have lf := (gi.fv hi hk).2
    have := h3 i k hi hk
    refine cnt_lt (j := fo G i k) (fun j _ q => ?_) (by omega) (by simp) (by simpa using this)
    simp at q ⊢
    omega
theorem mem_cnt : ∀ (l : List Nat) (n : Nat), l.Nodup → (∀ x, x ∈ l → x < n) → l.length = cnt (fun x => decide (x ∈ l)) n := by
  intro l
  induction l with
  | nil =>
    intro n _ _
    have z : ∀ n, cnt (fun _ => false) n = 0 := by
      intro n
      induction n with
      | zero => rfl
      | succ n ih => rw [cnt_s, ih]; rfl
    simp [z]
  | cons a l ih =>
    intro n hn hx
    rw [List.nodup_cons] at hn
    have e := ih n hn.2 (fun x q => hx x (List.mem_cons_of_mem _ q))
    have ha := hx a List.mem_cons_self
    have u := cnt_upd (f := fun x => decide (x ∈ a :: l)) (g := fun x => decide (x ∈ l)) (m := a) (fun k hk => by simp [hk]) n
    rw [if_neg (by simp [hn.1]), if_pos (by simp [ha])] at u
    rw [List.length_cons, e]
    omega
theorem nodup_len {l : List Nat} {n : Nat} (h : l.Nodup) (hx : ∀ x, x ∈ l → x < n) : l.length ≤ n := by
  rw [mem_cnt l n h hx]
  exact cnt_le _ _
/-- each behind all that are in it -/
def Bh (G : Nat → Nat → Int) (L : List Nat) : Prop := ∀ p, (hp : p < L.length) → ∀ k : Nat, (k : Int) < G 18 L[p] → ∃ q, ∃ hq : q < L.length, q < p ∧ L[q] = fo G L[p] k
/-- what lies below x, x too -/
def Rc (G : Nat → Nat → Int) (x y : Nat) : Prop := ∀ P : Nat → Prop, P x → (∀ z k : Nat, (z : Int) < G 14 1 → P z → (k : Int) < G 18 z → P (fo G z k)) → P y
section
variable {G : Nat → Nat → Int} {S : AS}
def OS (sh : Nat → Nat) (S T : AS) (L : List Nat) (H : Nat → Prop) : Prop := Sc S T ∧ hI T 2 2 = (L.length : Int) ∧ (∀ p, (hp : p < L.length) → hR T 3 p = some (sh L[p])) ∧ ∀ x, x < 24 → (hI T 4 x = 0 ∨ hI T 4 x = 1) ∧ (hI T 4 x = 1 ↔ H x)
theorem restart_7 {S : AS} (h : Fix S) : ∀ (d k fu : Nat), 24 = k + d → d < fu → f_X2_restart_7 fu (some 2) k (stI S (fl (hI S) 4 0 k 0)) = some ((0, 0, none), stI S (fl (hI S) 4 0 24 0)) := by
  intro d
  induction d with
  | zero =>
    intro k fu hk hf
    obtain ⟨fu, rfl⟩ : ∃ z, fu = z + 1 := ⟨fu - 1, by omega⟩
    unfold f_X2_restart_7
    rw [if_pos (by omega), rV_s, show k = 24 by omega]
  | succ d ih =>
    intro k fu hk hf
    obtain ⟨fu, rfl⟩ : ∃ z, fu = z + 1 := ⟨fu - 1, by omega⟩
    unfold f_X2_restart_7
    have h1 := h.st (fl (hI S) 4 0 k 0)
    have e := fl_s (hI S) 4 0 k 0
    rw [Nat.zero_add] at e
    rw [if_neg (by omega), fr_2_1 h1, Option.bind_some, fs_4 h1 (Or.inl rfl) (by omega) (by omega), Option.bind_some, chk_ok (by omega) (by omega), Option.bind_some, tn, wI_set, stI_hI, stI_set, e]
    exact ih (k + 1) fu (by omega) (by omega)
theorem restart_eq {S T : AS} (hsc : Sc S T) (h : Fix T) : ∃ T', f_X2_restart (some 2) T = some ((0, 0, none), T') ∧ OS sh S T' [] (fun _ => False) := by
  have h1 := h.wI 2 2 0
  have e := restart_7 h1 24 0 FU rfl (FU_gt (by decide))
  rw [fl_0, stI_self] at e
  refine ⟨stI (wI T 2 2 0) (fl (hI (wI T 2 2 0)) 4 0 24 0), ?_, ?_⟩
  · unfold f_X2_restart
    rw [fp_2 h, Option.bind_some]
    exact e
  · refine ⟨(hsc.tr (Sc.w1 T 2 0 (by decide) (by decide))).tr ⟨⟨rfl, rfl⟩, rfl, rfl, fun b j hb => if_neg (by omega), fun _ _ _ _ _ => rfl⟩, ?_, fun p hp => absurd hp (Nat.not_lt_zero _), fun x hx => ?_⟩
    · rw [stI_hI]
      unfold fl
      rw [if_neg (by omega), hI_w0]; rfl
    · rw [stI_hI]
      unfold fl
      rw [if_pos (by omega)]
      exact ⟨Or.inl rfl, by simp⟩
/-- what a visit gives -/
def PB (G : Nat → Nat → Int) (sh : Nat → Nat) (S T' : AS) (L : List Nat) (H : Nat → Prop) (M : List Nat) (H' : Nat → Prop) (x : Nat) : Prop :=
  OS sh S T' (L ++ M) H' ∧ (∀ y, H' y ↔ H y ∨ y ∈ M) ∧ H' x ∧ Bh G (L ++ M) ∧ (L ++ M).Nodup ∧ ∀ y, y ∈ M → (y : Int) < G 14 1 ∧ ¬ H y ∧ Rc G x y
theorem Bh.snoc {L : List Nat} {x : Nat} (h : Bh G L) (hx : ∀ k : Nat, (k : Int) < G 18 x → fo G x k ∈ L) : Bh G (L ++ [x]) := by
  intro p hp k hk
  rw [List.length_append, List.length_singleton] at hp
  by_cases c : p < L.length
  · rw [List.getElem_append_left c] at hk
    obtain ⟨q, hq, h1, h2⟩ := h p c k hk
    refine ⟨q, by rw [List.length_append]; omega, h1, ?_⟩
    rw [List.getElem_append_left hq, List.getElem_append_left c]
    exact h2
  · have e : p = L.length := by omega
    subst e
    have ex : (L ++ [x])[L.length]'(by rw [List.length_append, List.length_singleton]; omega) = x := by simp
    rw [ex] at hk
    obtain ⟨q, hq, e2⟩ := List.getElem_of_mem (hx k hk)
    refine ⟨q, by rw [List.length_append]; omega, hq, ?_⟩
    rw [List.getElem_append_left hq, ex]
    exact e2
theorem put_eq (C : Cls sh ins pl nt wy tg G S) (hs : Stt S) (gi : GI G) {rk : Nat → Nat} (r1 : ∀ i : Nat, (i : Int) < G 14 1 → rk i ≤ 23) (r2 : ∀ i k : Nat, (i : Int) < G 14 1 → (k : Int) < G 18 i → rk (fo G i k) < rk i) : ∀ (d x : Nat) (dep : Int) (T : AS) (L : List Nat) (H : Nat → Prop), (x : Int) < G 14 1 → 0 ≤ dep → dep + rk x ≤ 23 → rk x < d → OS sh S T L H → (∀ y, H y → y ∈ L ∨ rk x < rk y) → (∀ y, y ∈ L → H y ∧ (y : Int) < G 14 1) → Bh G L → L.Nodup → ∃ T' M H', f_X5_putBehindParts d (some (sh x)) (some 2) dep T = some ((0, 0, none), T') ∧ PB G sh S T' L H M H' x := by
  intro d
  induction d with
  | zero => intro x dep T L H _ _ _ hd; omega
  | succ d ihd =>
    intro x dep T L H hx hdep hdr hd os hst hL hB hN
    have hT := os.1.stt hs
    have CT := C.kp os.1.kp
    have lx := gi.lt hx
    have ni := gi.ni hx
    obtain ⟨o1, o2, o3, o4⟩ := os
    obtain ⟨h01, hH⟩ := o4 x lx
    have e0 : f_X5_putBehindParts (d + 1) (some (sh x)) (some 2) dep T = if hI T 4 x = 0 then f_X5_putBehindParts_31 FU (f_X5_putBehindParts d) (some (sh x)) (some 2) dep 0 (wI T 4 x 1) else rV T := by
      conv => lhs; unfold f_X5_putBehindParts
      rw [if_neg (by omega), fr_2_1 hT.1, Option.bind_some, c_i0 CT hx, Option.bind_some, fa_4 hT.1 (by omega) (by omega), Option.bind_some, tn]
      by_cases c : hI T 4 x = 0
      · rw [if_pos c, if_pos c, Option.bind_some, Option.bind_some, fs_4 hT.1 (Or.inr rfl) (by omega) (by omega), Option.bind_some, tn]
      · rw [if_neg c, if_neg c]
    rw [e0]
    by_cases hxH : H x
    · have v1 := hH.mpr hxH
      rw [if_neg (by omega)]
      refine ⟨T, [], H, rfl, ⟨by rw [List.append_nil]; exact ⟨o1, o2, o3, o4⟩, fun y => by simp, hxH, by rw [List.append_nil]; exact hB, by rw [List.append_nil]; exact hN, fun y hy => absurd hy List.not_mem_nil⟩⟩
    · have v0 : hI T 4 x = 0 := by
        rcases h01 with q | q
        · exact q
        · exact absurd (hH.mp q) hxH
      rw [if_pos v0]
      -- the loop over the instances
      have loop : ∀ (e k fu : Nat) (U : AS) (M : List Nat) (H1 : Nat → Prop), (G 18 x).toNat = k + e → e < fu → OS sh S U (L ++ M) H1 → (∀ y, H1 y ↔ H y ∨ y = x ∨ y ∈ M) → Bh G (L ++ M) → (L ++ M).Nodup → (∀ y, y ∈ M → (y : Int) < G 14 1 ∧ ¬ H y ∧ y ≠ x ∧ Rc G x y) → (∀ j : Nat, j < k → fo G x j ∈ L ++ M) → ∃ T' M' H', f_X5_putBehindParts_31 fu (f_X5_putBehindParts d) (some (sh x)) (some 2) dep k U = some ((0, 0, none), T') ∧ PB G sh S T' L H M' H' x := by
        intro e
        induction e with
        | zero =>
          intro k fu U M H1 hkk hf us hh hb hnd hm hj
          obtain ⟨fu, rfl⟩ : ∃ z, fu = z + 1 := ⟨fu - 1, by omega⟩
          have hU := us.1.stt hs
          have CU := C.kp us.1.kp
          obtain ⟨u1, u2, u3, u4⟩ := us
          have nd' : (L ++ M ++ [x]).Nodup := by
            rw [List.nodup_append]
            refine ⟨hnd, by simp, fun a ha b hb2 => ?_⟩
            rw [List.mem_singleton] at hb2
            subst hb2
            intro q
            subst q
            rcases List.mem_append.mp ha with z | z
            · exact hxH (hL _ z).1
            · exact (hm _ z).2.2.1 rfl
          have len := nodup_len (n := 24) nd' (fun y hy => by
            have : (y : Int) < G 14 1 := by
              rcases List.mem_append.mp hy with z | z
              · rcases List.mem_append.mp z with z | z
                · exact (hL _ z).2
                · exact (hm _ z).1
              · rw [List.mem_singleton] at z; rw [z]; exact hx
            exact gi.lt this)
          rw [List.length_append, List.length_singleton] at len
          have kS : hk U (sh x) = ek 11 := (CU.at hx).2.1.1
          have f3 : Fix (wR U 3 (L ++ M).length (some (sh x))) := hU.1.wR _ (fun r hr => Or.inl (by
            have : ∀ r ∈ rT, r.1 ≠ 3 := by decide
            exact this r hr))
          have i22 : hI (wR U 3 (L ++ M).length (some (sh x))) 2 2 = ((L ++ M).length : Int) := u2
          refine ⟨wI (wR U 3 (L ++ M).length (some (sh x))) 2 2 (((L ++ M).length : Int) + 1), M ++ [x], H1, ?_, ?_⟩
          · unfold f_X5_putBehindParts_31
            rw [c_in CU hx, Option.bind_some, c_a2 CU hx, Option.bind_some, if_pos (by omega), fk_2 hU.1, gd_1]
            unfold f_X2_add
            rw [fr_2_0 hU.1, Option.bind_some, fg_2 hU.1, Option.bind_some, u2, fs_3 hU.1 (by omega) (by omega) kS, Option.bind_some, tn, fg_2 f3, Option.bind_some, i22, chk_ok (by omega) (by omega), Option.bind_some, fp_2 f3, Option.bind_some, rV_s, cV_s, rV_s]
          · refine ⟨⟨(u1.tr (Sc.wr U _ _ (Or.inl rfl))).tr (Sc.w1 _ _ _ (by decide) (by decide)), ?_, fun p hp => ?_, fun y hy => ?_⟩, fun y => ?_, (hh x).mpr (Or.inr (Or.inl rfl)), ?_, ?_, fun y hy => ?_⟩
            · rw [hI_w0]
              simp only [List.length_append, List.length_singleton]
              omega
            · rw [hR_wI, hR_wR]
              have ea : L ++ (M ++ [x]) = (L ++ M) ++ [x] := (List.append_assoc _ _ _).symm
              have hp' : p < ((L ++ M) ++ [x]).length := by rw [← ea]; exact hp
              rw [List.length_append, List.length_singleton] at hp'
              have eg : (L ++ (M ++ [x]))[p] = ((L ++ M) ++ [x])[p]'(by rw [← ea]; exact hp) := by congr 1
              rw [eg]
              by_cases c : p = (L ++ M).length
              · rw [if_pos ⟨rfl, c⟩]
                subst c
                simp
              · rw [if_neg (by omega), List.getElem_append_left (by omega)]
                exact u3 p (by omega)
            · rw [hI_wI, if_neg (by omega)]
              exact u4 y hy
            · rw [hh y, List.mem_append, List.mem_singleton]
              constructor
              · rintro (q | q | q)
                · exact Or.inl q
                · exact Or.inr (Or.inr q)
                · exact Or.inr (Or.inl q)
              · rintro (q | q | q)
                · exact Or.inl q
                · exact Or.inr (Or.inr q)
                · exact Or.inr (Or.inl q)
            · rw [← List.append_assoc]
              exact hb.snoc (fun k hk => hj k (by omega))
            · rw [← List.append_assoc]; exact nd'
            · rcases List.mem_append.mp hy with z | z
              · obtain ⟨q1, q2, q3, q4⟩ := hm y z
                exact ⟨q1, q2, q4⟩
              · rw [List.mem_singleton] at z
                subst z
                exact ⟨hx, hxH, fun P hP _ => hP⟩
        | succ e ihe =>
          intro k fu U M H1 hkk hf us hh hb hnd hm hj
          obtain ⟨fu, rfl⟩ : ∃ z, fu = z + 1 := ⟨fu - 1, by omega⟩
          have hU := us.1.stt hs
          have CU := C.kp us.1.kp
          have hkx : (k : Int) < G 18 x := by omega
          have lf := (gi.fv hx hkx).2
          have rl := r2 x k hx hkx
          obtain ⟨T1, M1, H2, e1, q1, q2, q3, q4, q5, q6⟩ := ihd (fo G x k) (dep + 1) U (L ++ M) H1 lf (by omega) (by omega) (by omega) us (fun y hy => by
            rcases (hh y).mp hy with z | z | z
            · rcases hst y z with w | w
              · exact Or.inl (List.mem_append_left _ w)
              · exact Or.inr (by omega)
            · exact Or.inr (by rw [z]; exact rl)
            · exact Or.inl (List.mem_append_right _ z)) (fun y hy => by
            rcases List.mem_append.mp hy with z | z
            · exact ⟨(hh y).mpr (Or.inl (hL y z).1), (hL y z).2⟩
            · exact ⟨(hh y).mpr (Or.inr (Or.inr z)), (hm y z).1⟩) hb hnd
          rw [List.append_assoc] at q1 q4 q5
          obtain ⟨T', M', H', e2, pb⟩ := ihe (k + 1) fu T1 (M ++ M1) H2 (by omega) (by omega) q1 (fun y => by
            rw [q2 y, hh y, List.mem_append]
            constructor
            · rintro ((q | q | q) | q)
              · exact Or.inl q
              · exact Or.inr (Or.inl q)
              · exact Or.inr (Or.inr (Or.inl q))
              · exact Or.inr (Or.inr (Or.inr q))
            · rintro (q | q | q | q)
              · exact Or.inl (Or.inl q)
              · exact Or.inl (Or.inr (Or.inl q))
              · exact Or.inl (Or.inr (Or.inr q))
              · exact Or.inr q) q4 q5 (fun y hy => by
            rcases List.mem_append.mp hy with z | z
            · exact hm y z
            · obtain ⟨w1, w2, w3⟩ := q6 y z
              exact ⟨w1, fun q => w2 ((hh y).mpr (Or.inl q)), fun q => w2 ((hh y).mpr (Or.inr (Or.inl q))), fun P hP hc => w3 P (hc x k hx hP hkx) hc⟩) (fun j hjk => by
            by_cases c : j = k
            · subst c
              rcases (q2 _).mp q3 with z | z
              · rcases (hh _).mp z with w | w | w
                · rcases hst _ w with v | v
                  · exact List.mem_append_left _ v
                  · omega
                · rw [w] at rl; omega
                · exact List.mem_append_right _ (List.mem_append_left _ w)
              · exact List.mem_append_right _ (List.mem_append_right _ z)
            · have := hj j (by omega)
              rcases List.mem_append.mp this with v | v
              · exact List.mem_append_left _ v
              · exact List.mem_append_right _ (List.mem_append_left _ v))
          refine ⟨T', M', H', ?_, pb⟩
          conv => lhs; unfold f_X5_putBehindParts_31
          rw [c_in CU hx, Option.bind_some, c_a2 CU hx, Option.bind_some, if_neg (by omega), Option.bind_some, c_a1 CU hx, Option.bind_some, c_pl CU gi hx hkx, Option.bind_some, c_p0 CU hx hkx, Option.bind_some, chk_ok (by omega) (by omega), Option.bind_some, e1, cV_s, chk_ok (by omega) (by omega), Option.bind_some]
          exact e2
      refine loop (G 18 x).toNat 0 FU _ [] (fun y => H y ∨ y = x) (by omega) (FU_gt (by omega)) ?_ (fun y => by simp) (by rw [List.append_nil]; exact hB) (by rw [List.append_nil]; exact hN) (fun y hy => absurd hy List.not_mem_nil) (fun j hj => absurd hj (Nat.not_lt_zero _))
      rw [List.append_nil]
      refine ⟨o1.tr (Sc.w1 T _ _ (by decide) (by decide)), by rw [hI_wI, if_neg (by omega)]; exact o2, o3, fun y hy => ?_⟩
      rw [hI_wI]
      by_cases c : y = x
      · rw [if_pos ⟨rfl, c⟩]
        exact ⟨Or.inr rfl, by simp [c]⟩
      · rw [if_neg (by omega)]
        obtain ⟨w1, w2⟩ := o4 y hy
        exact ⟨w1, by rw [w2]; simp [c]⟩
end
