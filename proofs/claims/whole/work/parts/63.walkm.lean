/-! the model's walk -/
section
variable {G : Nat → Nat → Int} {S : AS} {rk : Nat → Nat} {x : Nat}
theorem hI_wn {S : AS} {a k b j : Nat} {v : Int} (h : b ≠ a ∨ j ≠ k) : hI (wI S a k v) b j = hI S b j := by rw [hI_wI, if_neg (by omega)]
/-- the model's own rows for laying flat may change, and nothing else -/
def AW (S T : AS) : Prop := ∃ J, T = stI S J ∧ ∀ a j, ¬ (25 ≤ a ∧ a ≤ 34) → ¬ (a = 14 ∧ (j = 13 ∨ j = 18)) → J a j = hI S a j
theorem AW.rfl' (S : AS) : AW S S := ⟨hI S, rfl, fun _ _ _ _ => rfl⟩
theorem AW.tr {T U : AS} (h : AW S T) (g : AW T U) : AW S U := by
  obtain ⟨J, rfl, hJ⟩ := h
  obtain ⟨K, rfl, hK⟩ := g
  exact ⟨K, rfl, fun a j h1 h2 => (hK a j h1 h2).trans (hJ a j h1 h2)⟩
theorem AW.ok {T : AS} (h : AW S T) (hf : Fix S) (g : Ag G S) : Fix T ∧ Ag G T ∧ MF S T ∧ hI T 14 0 = hI S 14 0 := by
  obtain ⟨J, rfl, hJ⟩ := h
  exact ⟨hf.st J, fun a j hc => (hJ a j (by unfold kor at hc; omega) (by unfold kor at hc; omega)).trans (g a j hc), ⟨J, rfl, fun a j ha => hJ a j (by omega) (by omega)⟩, hJ 14 0 (by omega) (by omega)⟩
theorem AW.w {T : AS} (h : AW S T) {a k : Nat} (v : Int) (ha : (25 ≤ a ∧ a ≤ 34) ∨ (a = 14 ∧ (k = 13 ∨ k = 18))) : AW S (wI T a k v) := by
  obtain ⟨J, rfl, hJ⟩ := h
  exact ⟨uq J a k v, rfl, fun b j h1 h2 => (uq_ne (by omega)).trans (hJ b j h1 h2)⟩
/-- the model shows the walk -/
def MW (S T : AS) (w : WT) : Prop := AW S T ∧ (hI T 14 13 = (wn w : Int) ∧ hI T 14 18 = (wl w : Int)) ∧ (∀ o, o < wn w → hI T 25 o = (wm w o : Int) ∧ hI T 26 o = (if o = 0 then -1 else (wp w o : Int)) ∧ hI T 27 o = (if o = 0 then -1 else (wi w o : Int))) ∧ ∀ l, l < wl w → hI T 29 l = (wo w l : Int) ∧ hI T 30 l = (wj w l : Int)
theorem MW.st {T : AS} {w : WT} (h : MW S T w) {a k : Nat} (v : Int) (ha : 31 ≤ a ∧ a ≤ 34 ∨ a = 28) : MW S (wI T a k v) w := by
  obtain ⟨h1, h2, h3, h4⟩ := h
  refine ⟨h1.w v (by omega), ?_, fun o ho => ?_, fun l hl9 => ?_⟩
  · rw [hI_wn (by omega), hI_wn (by omega)]; exact h2
  · rw [hI_wn (by omega), hI_wn (by omega), hI_wn (by omega)]; exact h3 o ho
  · rw [hI_wn (by omega), hI_wn (by omega)]; exact h4 l hl9
theorem MW.l {T : AS} {w : WT} (h : MW S T w) (o k : Nat) : MW S (wI (wI (wI T 29 (wl w) o) 30 (wl w) k) 14 18 ((wl w : Int) + 1)) (eL w o k) := by
  obtain ⟨h1, h2, h3, h4⟩ := h
  refine ⟨((h1.w _ (by omega)).w _ (by omega)).w _ (by omega), ⟨?_, ?_⟩, fun y hy => ?_, fun l hl9 => ?_⟩
  · rw [hI_wn (by omega), hI_wn (by omega), hI_wn (by omega)]; exact h2.1
  · rw [hI_w0]; show _ = ((wl w + 1 : Nat) : Int); omega
  · have := h3 y hy
    rw [hI_wn (by omega), hI_wn (by omega), hI_wn (by omega), hI_wn (by omega), hI_wn (by omega), hI_wn (by omega), hI_wn (by omega), hI_wn (by omega), hI_wn (by omega)]
    exact this
  · have hl' : l < wl w + 1 := hl9
    by_cases c : l = wl w
    · subst c
      obtain ⟨e1, e2⟩ := eL_n w o k
      rw [e1, e2, hI_wn (by omega), hI_wn (by omega), hI_w0, hI_wn (by omega), hI_w0]
      exact ⟨rfl, rfl⟩
    · obtain ⟨e1, e2⟩ := (Px.eL w o k).l (l := l) (by omega)
      rw [e1, e2, hI_wn (by omega), hI_wn (by omega), hI_wn (by omega), hI_wn (by omega), hI_wn (by omega), hI_wn (by omega)]
      exact h4 l (by omega)
theorem MW.o {T : AS} {w : WT} (h : MW S T w) (hn9 : 1 ≤ wn w) (c o k : Nat) : MW S (wI (wI (wI (wI T 25 (wn w) c) 26 (wn w) o) 27 (wn w) k) 14 13 ((wn w : Int) + 1)) (eO w c o k) := by
  obtain ⟨h1, h2, h3, h4⟩ := h
  refine ⟨(((h1.w _ (by omega)).w _ (by omega)).w _ (by omega)).w _ (by omega), ⟨?_, ?_⟩, fun y hy => ?_, fun l hl9 => ?_⟩
  · rw [hI_w0]; show _ = ((wn w + 1 : Nat) : Int); omega
  · rw [hI_wn (by omega), hI_wn (by omega), hI_wn (by omega), hI_wn (by omega)]; exact h2.2
  · have hy' : y < wn w + 1 := hy
    by_cases cy : y = wn w
    · subst cy
      obtain ⟨e1, e2, e3, e4, e5⟩ := eO_n w c o k
      rw [e1, e2, e3, if_neg (by omega), if_neg (by omega), hI_wn (by omega), hI_wn (by omega), hI_wn (by omega), hI_w0, hI_wn (by omega), hI_wn (by omega), hI_w0, hI_wn (by omega), hI_w0]
      exact ⟨rfl, rfl, rfl⟩
    · obtain ⟨e1, e2, e3, e4, e5⟩ := (Px.eO w c o k).m (o := y) (by omega)
      have := h3 y (by omega)
      rw [e1, e2, e3, hI_wn (by omega), hI_wn (by omega), hI_wn (by omega), hI_wn (by omega), hI_wn (by omega), hI_wn (by omega), hI_wn (by omega), hI_wn (by omega), hI_wn (by omega), hI_wn (by omega), hI_wn (by omega), hI_wn (by omega)]
      exact this
  · have hl' : l < wl w := hl9
    obtain ⟨e1, e2⟩ := (Px.eO w c o k).l (l := l) hl'
    rw [e1, e2, hI_wn (by omega), hI_wn (by omega), hI_wn (by omega), hI_wn (by omega), hI_wn (by omega), hI_wn (by omega), hI_wn (by omega), hI_wn (by omega)]
    exact h4 l hl'
theorem enter_eq {T : AS} (fT : Fix T) {n : Nat} (hn9 : hI T 14 13 = (n : Int)) (h9 : n < 2000) (c o k : Int) : f_X6_enter (some 14) c o k T = some ((0, 0, none), wI (wI (wI (wI T 25 n c) 26 n o) 27 n k) 14 13 ((n : Int) + 1)) := by
  have f1 := fT.wI 25 n c
  have f2 := f1.wI 26 n o
  have f3 := f2.wI 27 n k
  have i1 : hI (wI T 25 n c) 14 13 = (n : Int) := by rw [hI_wn (by omega)]; exact hn9
  have i2 : hI (wI (wI T 25 n c) 26 n o) 14 13 = (n : Int) := by rw [hI_wn (by omega)]; exact i1
  have i3 : hI (wI (wI (wI T 25 n c) 26 n o) 27 n k) 14 13 = (n : Int) := by rw [hI_wn (by omega)]; exact i2
  unfold f_X6_enter
  rw [fr_14_14 fT, Option.bind_some, fg_14 fT, Option.bind_some, hn9, fs_25 fT _ (by omega) (by omega), Option.bind_some, tn, fr_14_15 f1, Option.bind_some, fg_14 f1, Option.bind_some, i1, fs_26 f1 _ (by omega) (by omega), Option.bind_some, tn, fr_14_16 f2, Option.bind_some, fg_14 f2, Option.bind_some, i2, fs_27 f2 _ (by omega) (by omega), Option.bind_some, tn, fg_14 f3, Option.bind_some, i3, chk_ok (by omega) (by omega), Option.bind_some, fp_14 f3, Option.bind_some, rV_s]
/-- what the walk below an occurrence comes to -/
def WE (G : Nat → Nat → Int) (S T : AS) (w' : WT) (D K fu : Nat) (m : Nat) : Prop := ∃ T', (wl w' ≤ 64 ∧ (∃ fu', fu' + 2 * wn w' + wl w' = K + D ∧ f_X6_walk_33 fu (some 14) ((D : Int) + 1) T = f_X6_walk_33 fu' (some 14) D T') ∧ MW S T' w' ∧ (∀ i, i < D → hI T' 31 i = hI T 31 i ∧ hI T' 32 i = hI T 32 i) ∧ wn w' ≤ 24 * wl w' + (if G 18 m = 0 then D + 1 else 0)) ∨ (64 < wl w' ∧ f_X6_walk_33 fu (some 14) ((D : Int) + 1) T = some ((0, 0, none), T') ∧ AW S T')
theorem walk_33 (h : Fix S) (g : Ag G S) (gi : GI G) (r2 : ∀ i k : Nat, (i : Int) < G 14 1 → (k : Int) < G 18 i → rk (fo G i k) < rk i) {K : Nat} (hK : 10000 ≤ K) : ∀ (n o m : Nat) (w : WT) (T : AS) (fu : Nat), WF G rk x w → o < wn w → wm w o = m → rk m < n → wl w ≤ 64 → wn w ≤ 24 * wl w + wd w o + 1 → MW S T w → hI T 31 (wd w o) = (o : Int) → hI T 32 (wd w o) = 0 → fu + 2 * wn w + wl w = K + wd w o + 1 → WE G S T (wk G n o m w) (wd w o) K fu m := by
  intro n
  induction n with
  | zero => intro o m w T fu _ _ _ hr; omega
  | succ n ih =>
    intro o m w T fu hw ho hm hr hl9 hn9 mw s1 s2 hfu
    have hmm : (m : Int) < G 14 1 := by rw [← hm]; exact (hw.2.1 o ho).1
    have lm := gi.lt hmm
    have ni := gi.ni hmm
    obtain ⟨D, hD⟩ : ∃ D, D = wd w o := ⟨_, rfl⟩
    have D23 : D ≤ 23 := by rw [hD]; have := (hw.2.1 o ho).2; omega
    rw [← hD] at hn9 s1 s2 hfu ⊢
    -- from the k-th instance on
    have loop : ∀ (d k fu : Nat) (T : AS), (G 18 m).toNat = k + d → wl (wkI G (wk G n) o m k w) ≤ 64 → wn (wkI G (wk G n) o m k w) ≤ 24 * wl (wkI G (wk G n) o m k w) + (if k = 0 then D + 1 else 0) → MW S T (wkI G (wk G n) o m k w) → hI T 31 D = (o : Int) → hI T 32 D = (k : Int) → fu + 2 * wn (wkI G (wk G n) o m k w) + wl (wkI G (wk G n) o m k w) = K + D + 1 → WE G S T (wk G (n + 1) o m w) D K fu m := by
      intro d
      induction d with
      | zero =>
        intro k fu T hk9 l9 n9 mwT t1 t2 hfu
        have e : wkI G (wk G n) o m k w = wk G (n + 1) o m w := by
          show _ = wkI G (wk G n) o m (G 18 m).toNat w
          rw [hk9]
          rfl
        obtain ⟨p, f, -, -⟩ := wkI_ok gi r2 (fun o m w a b c d => wk_ok gi r2 n o m w a b c d) hw ho hm hr k (by omega)
        rw [e] at l9 n9 mwT hfu p f
        obtain ⟨fT, gT, -, -⟩ := mwT.1.ok h g
        have ov : o < wn (wk G (n + 1) o m w) := Nat.lt_of_lt_of_le ho p.1
        have mv : wm (wk G (n + 1) o m w) o = m := (p.m ho).1.trans hm
        have n99 : wn (wk G (n + 1) o m w) ≤ 1600 := by split at n9 <;> omega
        obtain ⟨fu, rfl⟩ : ∃ z, fu = z + 1 := ⟨fu - 1, by omega⟩
        refine ⟨T, Or.inl ⟨l9, ⟨fu, by omega, ?_⟩, mwT, fun _ _ => ⟨rfl, rfl⟩, ?_⟩⟩
        · have c25 := (mwT.2.2.1 o ov).1
          rw [mv] at c25
          conv => lhs; unfold f_X6_walk_33
          rw [if_neg (by omega), fr_14_21 fT, Option.bind_some, chk_ok (by omega) (by omega), Option.bind_some, fa_31 fT (by omega) (by omega), Option.bind_some, show ((D : Int) + 1 - 1).toNat = D by omega, t1, fr_14_14 fT, Option.bind_some, fa_25 fT (by omega) (by omega), Option.bind_some, tn, c25, fr_14_22 fT, Option.bind_some, Option.bind_some, fa_32 fT (by omega) (by omega), Option.bind_some, show ((D : Int) + 1 - 1).toNat = D by omega, t2, fr_14_5 fT, Option.bind_some, ma_18 fT gT (by omega) (by omega), Option.bind_some, tn, if_pos (by omega), chk_ok (by omega) (by omega), Option.bind_some, show (D : Int) + 1 + -1 = D by omega]
        · by_cases c : G 18 m = 0
          · rw [if_pos c]
            rw [if_pos (by omega)] at n9
            exact n9
          · rw [if_neg c]
            rw [if_neg (by omega)] at n9
            exact n9
      | succ d ihd =>
        intro k fu T hk9 l9 n9 mwT t1 t2 hfu
        have hkm : (k : Int) < G 18 m := by omega
        obtain ⟨p, f, -, -⟩ := wkI_ok gi r2 (fun o m w a b c d => wk_ok gi r2 n o m w a b c d) hw ho hm hr k (by omega)
        have up := wkI_up gi r2 (n := n) hw ho hm hr d (k + 1) (by omega)
        have e : wkI G (wk G n) o m (k + 1 + d) w = wk G (n + 1) o m w := by
          show _ = wkI G (wk G n) o m (G 18 m).toNat w
          rw [hk9, show k + (d + 1) = k + 1 + d by omega]
        rw [e] at up
        obtain ⟨v, hv⟩ : ∃ v, v = wkI G (wk G n) o m k w := ⟨_, rfl⟩
        have es : wkI G (wk G n) o m (k + 1) w = if G 18 (fo G m k) = 0 then eL v o k else wk G n (wn v) (fo G m k) (eO v (fo G m k) o k) := by rw [hv]; rfl
        rw [← hv] at p f l9 n9 mwT hfu
        obtain ⟨fT, gT, -, -⟩ := mwT.1.ok h g
        have ov : o < wn v := Nat.lt_of_lt_of_le ho p.1
        have mv : wm v o = m := (p.m ho).1.trans hm
        have dv : wd v o = D := by rw [(p.m ho).2.2.2.1, hD]
        have n99 : wn v ≤ 1600 := by split at n9 <;> omega
        have fv := gi.fv hmm hkm
        have lf := gi.lt fv.2
        have nif := gi.ni fv.2
        obtain ⟨fu, rfl⟩ : ∃ z, fu = z + 1 := ⟨fu - 1, by omega⟩
        obtain ⟨T1, hT1⟩ : ∃ T1, T1 = wI T 32 D ((k : Int) + 1) := ⟨_, rfl⟩
        have mw1 : MW S T1 v := by rw [hT1]; exact mwT.st _ (by omega)
        obtain ⟨f1, g1, -, -⟩ := mw1.1.ok h g
        have t11 : ∀ i, hI T1 31 i = hI T 31 i := fun i => by rw [hT1, hI_wn (by omega)]
        have t12 : ∀ i, hI T1 32 i = if i = D then (k : Int) + 1 else hI T 32 i := fun i => by
          rw [hT1, hI_wI]
          by_cases c : i = D
          · rw [if_pos ⟨rfl, c⟩, if_pos c]
          · rw [if_neg (by omega), if_neg c]
        have c25 := (mwT.2.2.1 o ov).1
        rw [mv] at c25
        have e64 : (64 * (m : Int) + (k : Int)).toNat = 64 * m + k := by omega
        have e0 : f_X6_walk_33 (fu + 1) (some 14) ((D : Int) + 1) T = if G 18 (fo G m k) ≤ 0 then (if (wl v : Int) = 64 then some ((0, 0, none), T1) else f_X6_walk_33 fu (some 14) ((D : Int) + 1) (wI (wI (wI T1 29 (wl v) o) 30 (wl v) k) 14 18 ((wl v : Int) + 1))) else f_X6_walk_33 fu (some 14) ((D : Int) + 1 + 1) (wI (wI (wI (wI (wI (wI T1 25 (wn v) (fo G m k)) 26 (wn v) o) 27 (wn v) k) 14 13 ((wn v : Int) + 1)) 31 (D + 1) (wn v)) 32 (D + 1) 0) := by
          conv => lhs; unfold f_X6_walk_33
          rw [if_neg (by omega), fr_14_21 fT, Option.bind_some, chk_ok (x := (D : Int) + 1 - 1) (by omega) (by omega), Option.bind_some, fa_31 fT (by omega) (by omega), Option.bind_some, show ((D : Int) + 1 - 1).toNat = D by omega, t1, fr_14_14 fT, Option.bind_some, fa_25 fT (by omega) (by omega), Option.bind_some, tn, c25, fr_14_22 fT, Option.bind_some, Option.bind_some, fa_32 fT (by omega) (by omega), Option.bind_some, show ((D : Int) + 1 - 1).toNat = D by omega, t2, fr_14_5 fT, Option.bind_some, ma_18 fT gT (by omega) (by omega), Option.bind_some, tn, if_neg (by omega), Option.bind_some, Option.bind_some, chk_ok (x := (k : Int) + 1) (by omega) (by omega), Option.bind_some, fs_32 fT _ (by omega) (by omega), Option.bind_some, show ((D : Int) + 1 - 1).toNat = D by omega, ← hT1, fr_14_6 f1, Option.bind_some, chk_ok (x := 64 * (m : Int)) (by omega) (by omega), Option.bind_some, chk_ok (x := 64 * (m : Int) + (k : Int)) (by omega) (by omega), Option.bind_some, ma_19 f1 g1 (by omega) (by omega), Option.bind_some, e64, fv.1, fr_14_5 f1, Option.bind_some, ma_18 f1 g1 (by omega) (by omega), Option.bind_some, tn]
          by_cases c : G 18 (fo G m k) ≤ 0
          · rw [if_pos c, if_pos c, fg_14 f1, Option.bind_some, mw1.2.1.2]
            by_cases c64 : (wl v : Int) = 64
            · rw [if_pos c64, if_pos c64, rZ_0]
            · have f2 := f1.wI 29 (wl v) o
              have f3 := f2.wI 30 (wl v) k
              have i2 : hI (wI T1 29 (wl v) o) 14 18 = (wl v : Int) := by rw [hI_wn (by omega)]; exact mw1.2.1.2
              have i3 : hI (wI (wI T1 29 (wl v) o) 30 (wl v) k) 14 18 = (wl v : Int) := by rw [hI_wn (by omega)]; exact i2
              rw [if_neg c64, if_neg c64, fr_14_19 f1, Option.bind_some, Option.bind_some, fs_29 f1 _ (by omega) (by omega), Option.bind_some, tn, fr_14_20 f2, Option.bind_some, fg_14 f2, Option.bind_some, i2, fs_30 f2 _ (by omega) (by omega), Option.bind_some, tn, fg_14 f3, Option.bind_some, i3, chk_ok (by omega) (by omega), Option.bind_some, fp_14 f3, Option.bind_some]
          · obtain ⟨T2, hT2⟩ : ∃ T2, T2 = wI (wI (wI (wI T1 25 (wn v) (fo G m k)) 26 (wn v) o) 27 (wn v) k) 14 13 ((wn v : Int) + 1) := ⟨_, rfl⟩
            have f2 : Fix T2 := by rw [hT2]; exact (((f1.wI _ _ _).wI _ _ _).wI _ _ _).wI _ _ _
            have i2 : hI T2 14 13 = (wn v : Int) + 1 := by rw [hT2, hI_w0]
            have f3 := f2.wI 31 (D + 1) (wn v)
            rw [if_neg c, if_neg c, fk_14 f1, gd_1, enter_eq f1 mw1.2.1.1 (by omega), cV_s, ← hT2, fr_14_21 f2, Option.bind_some, fg_14 f2, Option.bind_some, i2, chk_ok (by omega) (by omega), Option.bind_some, fs_31 f2 _ (by omega) (by omega), Option.bind_some, show ((D : Int) + 1).toNat = D + 1 by omega, show (wn v : Int) + 1 - 1 = wn v by omega, fr_14_22 f3, Option.bind_some, fs_32 f3 _ (by omega) (by omega), Option.bind_some, show ((D : Int) + 1).toNat = D + 1 by omega, chk_ok (by omega) (by omega), Option.bind_some]
        by_cases c : G 18 (fo G m k) = 0
        · rw [if_pos c] at es
          rw [es] at up
          have u2 := up.2.1
          have lel : wl (eL v o k) = wl v + 1 := rfl
          by_cases c64 : wl v = 64
          · refine ⟨T1, Or.inr ⟨by omega, ?_, mw1.1⟩⟩
            rw [e0, if_pos (by omega), if_pos (by omega)]
          · have mw2 := mw1.l o k
            obtain ⟨T', hT'⟩ := ihd (k + 1) fu _ (by omega) (by rw [es]; omega) (by
              rw [es]
              have : wn (eL v o k) = wn v := rfl
              rw [if_neg (by omega)]
              split at n9 <;> omega) (by rw [es]; exact mw2) (by
              rw [hI_wn (by omega), hI_wn (by omega), hI_wn (by omega), t11]; exact t1) (by
              rw [hI_wn (by omega), hI_wn (by omega), hI_wn (by omega), t12, if_pos rfl]; omega) (by
              rw [es]
              have : wn (eL v o k) = wn v := rfl
              omega)
            refine ⟨T', ?_⟩
            rw [e0, if_pos (by omega), if_neg (by omega)]
            rcases hT' with ⟨q1, q2, q3, q4, q5⟩ | q
            · refine Or.inl ⟨q1, q2, q3, fun i hi => ?_, q5⟩
              obtain ⟨z1, z2⟩ := q4 i hi
              rw [hI_wn (by omega), hI_wn (by omega), hI_wn (by omega), t11] at z1
              rw [hI_wn (by omega), hI_wn (by omega), hI_wn (by omega), t12, if_neg (by omega)] at z2
              exact ⟨z1, z2⟩
            · exact Or.inr q
        · rw [if_neg c] at es
          rw [es] at up
          have f2 : WF G rk x (eO v (fo G m k) o k) := by
            have := f.o gi r2 (o := o) (k := k) ov (by rw [mv]; omega) (by rw [mv]; exact c)
            rw [mv] at this
            exact this
          obtain ⟨q1, q2, q3, q4, q5⟩ := eO_n v (fo G m k) o k
          rw [dv] at q4
          have rr := r2 m k hmm hkm
          have lO : wl (eO v (fo G m k) o k) = wl v := rfl
          have nO : wn (eO v (fo G m k) o k) = wn v + 1 := rfl
          obtain ⟨T3, hT3⟩ : ∃ T3, T3 = wI (wI (wI (wI (wI (wI T1 25 (wn v) (fo G m k)) 26 (wn v) o) 27 (wn v) k) 14 13 ((wn v : Int) + 1)) 31 (D + 1) (wn v)) 32 (D + 1) 0 := ⟨_, rfl⟩
          have mw3 : MW S T3 (eO v (fo G m k) o k) := by
            rw [hT3]
            exact ((mw1.o (by omega) (fo G m k) o k).st _ (by omega)).st _ (by omega)
          have s31 : ∀ i, hI T3 31 i = if i = D + 1 then (wn v : Int) else hI T 31 i := fun i => by
            rw [hT3, hI_wn (by omega), hI_wI]
            by_cases ci : i = D + 1
            · rw [if_pos ⟨rfl, ci⟩, if_pos ci]
            · rw [if_neg (by omega), if_neg ci, hI_wn (by omega), hI_wn (by omega), hI_wn (by omega), hI_wn (by omega), t11]
          have s32 : ∀ i, hI T3 32 i = if i = D + 1 then 0 else if i = D then (k : Int) + 1 else hI T 32 i := fun i => by
            rw [hT3, hI_wI]
            by_cases ci : i = D + 1
            · rw [if_pos ⟨rfl, ci⟩, if_pos ci]
            · rw [if_neg (by omega), if_neg ci, hI_wn (by omega), hI_wn (by omega), hI_wn (by omega), hI_wn (by omega), hI_wn (by omega), t12]
          have cw := wk_ok gi r2 n (wn v) (fo G m k) (eO v (fo G m k) o k) f2 (by omega) q1 (by omega)
          obtain ⟨T4, hT4⟩ := ih (wn v) (fo G m k) (eO v (fo G m k) o k) T3 fu f2 (by omega) q1 (by omega) (by omega) (by rw [q4, lO, nO]; split at n9 <;> omega) mw3 (by rw [q4, s31, if_pos rfl]) (by rw [q4, s32, if_pos rfl]) (by rw [q4, lO, nO]; omega)
          rw [q4] at hT4
          have e1 : f_X6_walk_33 (fu + 1) (some 14) ((D : Int) + 1) T = f_X6_walk_33 fu (some 14) (((D + 1 : Nat) : Int) + 1) T3 := by
            rw [e0, if_neg (by omega), ← hT3]
            rfl
          rcases hT4 with ⟨a1, ⟨fu', a2, a3⟩, a4, a5, a6⟩ | ⟨a1, a2, a3⟩
          · rw [if_neg c] at a6
            obtain ⟨z31, z32⟩ := a5 D (by omega)
            obtain ⟨T', hT'⟩ := ihd (k + 1) fu' T4 (by omega) (by rw [es]; exact a1) (by rw [es, if_neg (by omega)]; exact a6) (by rw [es]; exact a4) (by rw [z31, s31, if_neg (by omega)]; exact t1) (by rw [z32, s32, if_neg (by omega), if_pos rfl]; omega) (by rw [es]; omega)
            refine ⟨T', ?_⟩
            rw [e1, a3, show (((D + 1 : Nat)) : Int) = (D : Int) + 1 by omega]
            rcases hT' with ⟨b1, b2, b3, b4, b5⟩ | b
            · refine Or.inl ⟨b1, b2, b3, fun i hi => ?_, b5⟩
              obtain ⟨y1, y2⟩ := b4 i hi
              obtain ⟨x1, x2⟩ := a5 i (by omega)
              rw [y1, y2, x1, x2, s31, s32, if_neg (by omega), if_neg (by omega), if_neg (by omega)]
              exact ⟨rfl, rfl⟩
            · exact Or.inr b
          · have := up.2.1
            exact ⟨T4, Or.inr ⟨by omega, e1.trans a2, a3⟩⟩
    exact loop (G 18 m).toNat 0 fu T (by omega) hl9 (by rw [if_pos rfl]; show wn w ≤ 24 * wl w + (D + 1); omega) mw s1 (by rw [s2]; rfl) hfu
theorem walk_eq (h : Fix S) (g : Ag G S) (gi : GI G) (r1 : ∀ i : Nat, (i : Int) < G 14 1 → rk i ≤ 23) (r2 : ∀ i k : Nat, (i : Int) < G 14 1 → (k : Int) < G 18 i → rk (fo G i k) < rk i) {m : Nat} (hm : (m : Int) < G 14 1) : ∃ T, (wl (wk G 24 0 m (w0 m)) ≤ 64 ∧ f_X6_walk (some 14) m S = some ((0, 1, none), T) ∧ MW S T (wk G 24 0 m (w0 m)) ∧ wn (wk G 24 0 m (w0 m)) ≤ 1600) ∨ (64 < wl (wk G 24 0 m (w0 m)) ∧ f_X6_walk (some 14) m S = some ((0, 0, none), T) ∧ AW S T) := by
  have lm := gi.lt hm
  have f1 := h.wI 14 13 0
  have f2 := f1.wI 14 18 0
  obtain ⟨T3, hT3⟩ : ∃ T3, T3 = wI (wI (wI (wI (wI (wI S 14 13 0) 14 18 0) 25 0 m) 26 0 (-1)) 27 0 (-1)) 14 13 (((0 : Nat) : Int) + 1) := ⟨_, rfl⟩
  have e3 := enter_eq (T := wI (wI S 14 13 0) 14 18 0) f2 (n := 0) (by rw [hI_wn (by omega), hI_w0]; rfl) (by omega) m (-1) (-1)
  rw [← hT3] at e3
  have a3 : AW S T3 := by
    rw [hT3]
    exact ((((((AW.rfl' S).w _ (by omega)).w _ (by omega)).w _ (by omega)).w _ (by omega)).w _ (by omega)).w _ (by omega)
  have m3 : MW S T3 (w0 m) := by
    refine ⟨a3, ⟨?_, ?_⟩, fun o ho => ?_, fun l hl9 => absurd hl9 (Nat.not_lt_zero _)⟩
    · rw [hT3, hI_w0]; rfl
    · rw [hT3, hI_wn (by omega), hI_wn (by omega), hI_wn (by omega), hI_wn (by omega), hI_w0]; rfl
    · have ho' : o < 1 := ho
      have : o = 0 := by omega
      subst this
      rw [if_pos rfl, if_pos rfl, hT3, hI_wn (by omega), hI_wn (by omega), hI_wn (by omega), hI_w0, hI_wn (by omega), hI_wn (by omega), hI_w0, hI_wn (by omega), hI_w0]
      exact ⟨rfl, rfl, rfl⟩
  have f3 := (a3.ok h g).1
  have f4 := f3.wI 31 0 0
  have mw := (m3.st (a := 31) (k := 0) 0 (by omega)).st (a := 32) (k := 0) 0 (by omega)
  have w00 : wd (w0 m) 0 = 0 := rfl
  have ew : f_X6_walk (some 14) m S = f_X6_walk_33 FU (some 14) ((0 : Nat) + 1) (wI (wI T3 31 0 0) 32 0 0) := by
    unfold f_X6_walk
    rw [fp_14 h, Option.bind_some, fp_14 f1, Option.bind_some, fk_14 f2, gd_1, e3, cV_s, fr_14_21 f3, Option.bind_some, fs_31 f3 _ (by omega) (by omega), Option.bind_some, show (0 : Int).toNat = 0 from rfl, fr_14_22 f4, Option.bind_some, fs_32 f4 _ (by omega) (by omega), Option.bind_some, show (0 : Int).toNat = 0 from rfl]
    rfl
  have hFU : 10000 < FU := FU_gt (by decide)
  obtain ⟨T, hT⟩ := walk_33 h g gi r2 (K := FU + 1) (by omega) 24 0 m (w0 m) (wI (wI T3 31 0 0) 32 0 0) FU (w0_f hm r1) (Nat.lt_succ_self _) rfl (by have := r1 m hm; omega) (Nat.zero_le _) (Nat.le_refl _) mw (by rw [w00, hI_wn (by omega), hI_w0]; rfl) (by rw [w00, hI_w0]) (by show FU + 2 * 1 + 0 = FU + 1 + 0 + 1; omega)
  rw [w00] at hT
  rw [ew]
  rcases hT with ⟨b1, ⟨fu', b2, b3⟩, b4, b5, b6⟩ | b
  · have n9 : wn (wk G 24 0 m (w0 m)) ≤ 1600 := by split at b6 <;> omega
    refine ⟨T, Or.inl ⟨b1, ?_, b4, n9⟩⟩
    rw [b3]
    obtain ⟨fu', rfl⟩ : ∃ z, fu' = z + 1 := ⟨fu' - 1, by omega⟩
    unfold f_X6_walk_33
    rw [if_pos (by omega), rZ_1]
  · exact ⟨T, Or.inr b⟩
end
