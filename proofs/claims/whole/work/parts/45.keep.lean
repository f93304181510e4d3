/-! one module's part of the coupling, and what leaves it as it is -/
theorem cnt_upd {f g : Nat → Bool} {m : Nat} (h : ∀ k, k ≠ m → f k = g k) : ∀ n, cnt f n + (if m < n ∧ g m = true then 1 else 0) = cnt g n + (if m < n ∧ f m = true then 1 else 0) := by
  intro n
  induction n with
  | zero => rw [if_neg (by omega), if_neg (by omega)]; rfl
  | succ n ih =>
    rw [cnt_s, cnt_s]
    by_cases c : n = m
    · subst c
      have e1 : cnt f n = cnt g n := by
        rw [if_neg (by omega), if_neg (by omega)] at ih
        omega
      rw [e1]
      by_cases c1 : f n = true <;> by_cases c2 : g n = true <;> simp [c1, c2]
    · rw [h n c]
      have q1 : (m < n + 1 ∧ g m = true) ↔ (m < n ∧ g m = true) := ⟨fun ⟨a, b⟩ => ⟨by omega, b⟩, fun ⟨a, b⟩ => ⟨by omega, b⟩⟩
      have q2 : (m < n + 1 ∧ f m = true) ↔ (m < n ∧ f m = true) := ⟨fun ⟨a, b⟩ => ⟨by omega, b⟩, fun ⟨a, b⟩ => ⟨by omega, b⟩⟩
      simp only [q1, q2]
      omega
theorem cnt_congr {f g : Nat → Bool} : ∀ n, (∀ k, k < n → f k = g k) → cnt f n = cnt g n := by
  intro n
  induction n with
  | zero => intro _; rfl
  | succ n ih => intro h; rw [cnt_s, cnt_s, ih (fun k hk => h k (by omega)), h n (by omega)]
theorem cnt_pos {f : Nat → Bool} {m : Nat} (hm : f m = true) : ∀ n, m < n → 1 ≤ cnt f n := by
  intro n hn
  have := cnt_upd (f := f) (g := fun k => if k = m then false else f k) (m := m) (fun k hk => by simp [hk]) n
  simp [hn, hm] at this
  omega
/-- alone with its inside, or not -/
theorem al_iff {G : Nat → Nat → Int} {m : Nat} : ∀ n, al G m n = true ↔ ∀ k, k < n → k = m ∨ G 21 k ≠ G 21 m := by
  intro n
  induction n with
  | zero => simp [al]
  | succ n ih =>
    unfold al
    simp only [Bool.and_eq_true, Bool.or_eq_true, decide_eq_true_eq, Bool.not_eq_true', decide_eq_false_iff_not, ih]
    constructor
    · rintro ⟨h1, h2⟩ k hk
      by_cases c : k = n
      · subst c; exact h2
      · exact h1 k (by omega)
    · intro h
      exact ⟨fun k hk => h k (by omega), h n (by omega)⟩
theorem cJ_alone {G : Nat → Nat → Int} {m : Nat} (hm : (m : Int) < G 14 1) : cJ G m ≤ 1 ↔ al G m (G 14 1).toNat = true := by
  have u := cnt_upd (f := fun j => decide (G 21 j = G 21 m)) (g := fun k => if k = m then false else decide (G 21 k = G 21 m)) (m := m) (fun k hk => by simp [hk]) (G 14 1).toNat
  have hm' : m < (G 14 1).toNat := by omega
  simp [hm'] at u
  rw [al_iff]
  unfold cJ
  constructor
  · intro h k hk
    by_cases c : k = m
    · exact Or.inl c
    · refine Or.inr (fun q => ?_)
      have := cnt_pos (f := fun k => if k = m then false else decide (G 21 k = G 21 m)) (m := k) (by simp [c, q]) _ hk
      simp at this
      omega
  · intro h
    have : cnt (fun k => if k = m then false else decide (G 21 k = G 21 m)) (G 14 1).toNat = cnt (fun _ => false) (G 14 1).toNat := cnt_congr _ (fun k hk => by
      rcases h k hk with c | c
      · simp [c]
      · simp [c])
    have z : ∀ n, cnt (fun _ => false) n = 0 := by
      intro n
      induction n with
      | zero => rfl
      | succ n ih => rw [cnt_s, ih]; rfl
    rw [z] at this
    simp at this
    omega
def PA (G G' : Nat → Nat → Int) (x : Nat) : Prop := G' 15 x = G 15 x ∧ ∀ k : Nat, (k : Int) < G 15 x → G' 16 (16 * x + k) = G 16 (16 * x + k) ∧ G' 17 (16 * x + k) = G 17 (16 * x + k)
theorem pcs_congr {G G' : Nat → Nat → Int} {x : Nat} (h : PA G G' x) : ∀ k : Nat, (k : Int) ≤ G 15 x → pcs G' x k = pcs G x k := by
  intro k
  induction k with
  | zero => intro _; rfl
  | succ k ih =>
    intro hk
    unfold pcs
    rw [ih (by omega), (h.2 k (by omega)).1]
theorem pc_congr {G G' : Nat → Nat → Int} {x : Nat} (h : PA G G' x) (h0 : 0 ≤ G 15 x) : pc G' x = pc G x := by
  unfold pc
  rw [h.1]
  exact pcs_congr h _ (by omega)
theorem ob_congr {G G' : Nat → Nat → Int} {x : Nat} (h : PA G G' x) (h0 : 0 ≤ G 15 x) (q : Int) : ob G' x q = ob G x q := by
  unfold ob
  rw [h.1]
  have : ∀ k : Nat, (k : Int) ≤ G 15 x → obk G' x q k = obk G x q k := by
    intro k
    induction k with
    | zero => intro _; rfl
    | succ k ih =>
      intro hk
      unfold obk
      rw [pcs_congr h k (by omega), ih (by omega), (h.2 k (by omega)).2]
  exact this _ (by omega)
theorem PA.pw {G G' : Nat → Nat → Int} {x : Nat} (h : PA G G' x) (w : PW G x) : PW G' x := by
  refine ⟨by rw [h.1]; exact w.1, by rw [h.1]; exact w.2.1, fun k hk => ?_⟩
  rw [h.1] at hk
  rw [(h.2 k hk).1, (h.2 k hk).2]
  exact w.2.2 k hk
def MoF (sh ins : Nat → Nat) (pl nt wy : Nat → Nat → Nat) (tg : Nat → Nat × Nat) (G : Nat → Nat → Int) (S : AS) (i : Nat) : Prop :=
  (hR S 1 i = some (sh i) ∧ hR S (sh i) 6 = some (ins i)) ∧ ShF G S i (sh i) ∧ InF G S i (ins i) ∧ (tg (sh i + 1) = (sh i, 0) ∧ tg (ins i + 1) = (ins i, 0)) ∧
    ∀ k : Nat, (k : Int) < G 18 i → PlF G S sh i (ins i) k (pl (ins i) k) (nt (ins i) k) (wy (ins i) k) ∧ tg (nt (ins i) k) = (ins i, k + 1) ∧ tg (wy (ins i) k) = (0, 0)
/-- what module i shows of G -/
def GA (G G' : Nat → Nat → Int) (i : Nat) : Prop :=
  PA G G' i ∧ (G' 18 i = G 18 i ∧ G' 20 i = G 20 i) ∧ (∀ q, q < 128 → G' 22 (8320 * i + 8192 + q) = G 22 (8320 * i + 8192 + q)) ∧
  ∀ k : Nat, (k : Int) < G 18 i → G' 19 (64 * i + k) = G 19 (64 * i + k) ∧ G' 23 (64 * i + k) = G 23 (64 * i + k) ∧ (∀ t, t < 24 → G' 24 (24 * (64 * i + k) + t) = G 24 (24 * (64 * i + k) + t)) ∧ (∀ q, q < 128 → G' 22 (8320 * i + 128 * k + q) = G 22 (8320 * i + 128 * k + q)) ∧ PA G G' (fo G i k)
theorem GA.rfl' (G : Nat → Nat → Int) (i : Nat) : GA G G i := ⟨⟨rfl, fun _ _ => ⟨rfl, rfl⟩⟩, ⟨rfl, rfl⟩, fun _ _ => rfl, fun _ _ => ⟨rfl, rfl, fun _ _ => rfl, fun _ _ => rfl, ⟨rfl, fun _ _ => ⟨rfl, rfl⟩⟩⟩⟩
/-- a shell as it was, its mark aside -/
def SA (S T : AS) (x f : Nat) : Prop := hk T x = hk S x ∧ (∀ j, j ≠ f → hI T x j = hI S x j) ∧ ∀ j, hR T x j = hR S x j
theorem Od.sa {x : Nat} {S T : AS} (h : Od x S T) (f : Nat) : SA S T x f := ⟨h.1, fun j _ => h.2.2.1 j, h.2.2.2⟩
theorem MoF.keep {sh ins : Nat → Nat} {pl nt wy : Nat → Nat → Nat} {tg : Nat → Nat × Nat} {sh' ins' : Nat → Nat} {pl' nt' wy' : Nat → Nat → Nat} {tg' : Nat → Nat × Nat} {G G' : Nat → Nat → Int} {S T : AS} {i : Nat} (gi : GI G) (hi : (i : Int) < G 14 1) (h : MoF sh ins pl nt wy tg G S i)
    (hsh : sh' i = sh i) (hsh2 : ∀ k : Nat, (k : Int) < G 18 i → sh' (fo G i k) = sh (fo G i k)) (hin : ins' i = ins i) (hpl : ∀ k : Nat, (k : Int) < G 18 i → pl' (ins i) k = pl (ins i) k ∧ nt' (ins i) k = nt (ins i) k ∧ wy' (ins i) k = wy (ins i) k)
    (htg : ∀ x, x < hn S → tg' x = tg x) (hnn : hn S ≤ hn T) (h1 : hR T 1 i = hR S 1 i) (hS : SA S T (sh i) 5) (hS1 : Od (sh i + 1) S T) (hS2 : Od (sh i + 2) S T) (hA : SA S T (ins i) 4) (hA1 : Od (ins i + 1) S T) (hA2 : Od (ins i + 2) S T)
    (hP : ∀ k : Nat, (k : Int) < G 18 i → Od (pl (ins i) k) S T ∧ Od (nt (ins i) k) S T ∧ Od (wy (ins i) k) S T) (ga : GA G G' i) (h4 : hI T (ins i) 4 = cJ G' i) (h5 : (hI T (sh i) 5 = 0 ∨ hI T (sh i) 5 = 1) ∧ (hI T (sh i) 5 = 1 ↔ used G' i)) : MoF sh' ins' pl' nt' wy' tg' G' T i := by
  obtain ⟨⟨a1, a2⟩, s, a, tgs, pls⟩ := h
  obtain ⟨g1, g2, g3, g4⟩ := ga
  have w := gi.pw hi
  have ni := gi.ni hi
  have efo : ∀ k : Nat, (k : Int) < G 18 i → fo G' i k = fo G i k := fun k hk => by unfold fo; rw [(g4 k hk).1]
  obtain ⟨s1, s2, s3, s4, s5, s6, s7, s8⟩ := s
  obtain ⟨b1, b2, b3, b4, b5, b6⟩ := a
  refine ⟨⟨?_, ?_⟩, ?_, ?_, ⟨?_, ?_⟩, fun k hk => ?_⟩
  · rw [h1, hsh, a1]
  · rw [hsh, hin, hS.2.2, a2]
  · rw [hsh]
    refine ⟨⟨s1.1, by omega⟩, ⟨by rw [hS.1]; exact s2.1, by rw [hS1.1]; exact s2.2.1, by rw [hS2.1]; exact s2.2.2⟩, ⟨by rw [hS1.2.1]; exact s3.1, by rw [hS2.2.1]; exact s3.2⟩, ⟨by rw [hS.2.2]; exact s4.1, by rw [hS.2.2]; exact s4.2⟩, ⟨by rw [hS.2.1 0 (by omega)]; exact s5.1, ?_, ?_⟩, h5, fun k hk => ?_, fun q hq => ?_⟩
    · rw [hS.2.1 3 (by omega), g1.1]; exact s5.2.1
    · rw [hS.2.1 4 (by omega), pc_congr g1 w.1]; exact s5.2.2
    · rw [hS1.2.2.1, s7 k hk, g1.1]
      by_cases c : (k : Int) < G 15 i
      · rw [if_pos c, if_pos c, (g1.2 k c).1]
      · rw [if_neg c, if_neg c]
    · rw [pc_congr g1 w.1] at hq
      rw [hS2.2.2.1, s8 q hq, ob_congr g1 w.1]
  · rw [hin]
    refine ⟨⟨b1.1, by omega⟩, ⟨by rw [hA.1]; exact b2.1, by rw [hA1.1]; exact b2.2.1, by rw [hA2.1]; exact b2.2.2⟩, ⟨by rw [hA1.2.1]; exact b3.1, by rw [hA2.2.1]; exact b3.2⟩, ⟨by rw [hA.2.2]; exact b4.1, by rw [hA.2.2]; exact b4.2⟩, ⟨by rw [hA.2.1 2 (by omega), g2.1]; exact b5.1, by rw [hA.2.1 3 (by omega), g2.2]; exact b5.2.1, h4⟩, fun q hq => ?_⟩
    rw [hA1.2.2.1, b6 q hq, g3 q hq]
  · rw [hsh, htg _ (by omega)]; exact tgs.1
  · rw [hin, htg _ (by omega)]; exact tgs.2
  · rw [g2.1] at hk
    obtain ⟨p, t1, t2⟩ := pls k hk
    obtain ⟨q1, q2, q3⟩ := hpl k hk
    obtain ⟨o1, o2, o3⟩ := hP k hk
    obtain ⟨x1, x2, x3, x4, x5⟩ := g4 k hk
    obtain ⟨p1, p2, p3, p4, p5, p6, p7⟩ := p
    have lf := (gi.fv hi hk).2
    have wf := gi.pw lf
    have lw := (gi.at hi).2.2.2.2.2.2.1 k hk
    have pl5 := pc_le wf
    rw [hin, q1, q2, q3]
    refine ⟨⟨by rw [hA2.2.2.2]; exact p1, ⟨p2.1, by omega, by rw [o1.1]; exact p2.2.2⟩, ⟨?_, by rw [o1.2.2.2]; exact p3.2.1, by rw [o1.2.2.2]; exact p3.2.2⟩, ⟨p4.1, by omega, by rw [o2.1]; exact p4.2.2.1, ?_⟩, ⟨p5.1, by omega, by rw [o3.1]; exact p5.2.2⟩, fun q hq => ?_, ?_⟩, by rw [htg _ (by omega)]; exact t1, by rw [htg _ (by omega)]; exact t2⟩
    · rw [o1.2.2.2, efo k hk, hsh2 k hk]; exact p3.1
    · rw [o2.2.1, efo k hk, pc_congr x5 wf.1]; exact p4.2.2.2
    · rw [efo k hk, pc_congr x5 wf.1] at hq
      rw [o2.2.2.1, p6 q hq, x4 q (by omega)]
    · rw [o3.2.1, x2]
      refine ⟨fun z => by rw [o3.2.2.1]; exact p7.1 z, fun z => ⟨(p7.2 z).1, fun t ht => ?_⟩⟩
      rw [o3.2.2.1, (p7.2 z).2 t ht, x3 t (by omega)]
