/-! PHASE 2: the pure fact. The cells that the two constructors and the law lay are the first 39. -/
noncomputable def pre0 (k : Nat → Nat → Nat → AS → Option RS) (S : AS) : Option RS :=
  (nO S 6).bind fun S1 =>
  cN (f_X5_init (some (hn S)) S1) fun S2 =>
  (nO S2 7).bind fun S4 =>
  cN (f_X6_init (some (hn S2)) S4) fun S5 =>
  (nA S5 13 1).bind fun S7 =>
  k (hn S) (hn S2) (hn S5) S7
theorem law_pre (L : Nat) (xs : Nat → Int32) (S : AS) : f_L_law L xs S = pre0 (fun a b c S7 => f_L_law_23 L xs FU (some a) (some b) (some c) 0 S7) S := rfl
def S00 : AS := (0, 0, (fun _ => 0), (fun _ => 0), (fun _ _ => 0), (fun _ _ => none))
noncomputable def SIo : Option (Nat × Nat × Nat × AS) :=
  (nO S00 6).bind fun S1 =>
  (f_X5_init (some 0) S1).bind fun q2 =>
  (nO q2.2 7).bind fun S4 =>
  (f_X6_init (some (hn q2.2)) S4).bind fun q5 =>
  (nA q5.2 13 1).bind fun S7 => some (q2.1.1 + q5.1.1, hn q2.2, hn q5.2, S7)
theorem SIo_some : SIo.isSome = true := by decide +kernel
noncomputable def SI : AS := (SIo.get SIo_some).2.2.2
def kT : Nat → Nat := fun a => match a with
  | 0 => 6
  | 1 => 11
  | 2 => 3
  | 3 => 11
  | 4 => 9
  | 5 => 2
  | 6 => 8
  | 7 => 8
  | 8 => 10
  | 9 => 8
  | 10 => 12
  | 11 => 8
  | 12 => 8
  | 13 => 8
  | 14 => 7
  | 15 => 8
  | 16 => 8
  | 17 => 9
  | 18 => 8
  | 19 => 8
  | 20 => 8
  | 21 => 8
  | 22 => 8
  | 23 => 8
  | 24 => 8
  | 25 => 8
  | 26 => 8
  | 27 => 8
  | 28 => 8
  | 29 => 8
  | 30 => 8
  | 31 => 8
  | 32 => 8
  | 33 => 8
  | 34 => 8
  | 35 => 9
  | 36 => 8
  | 37 => 8
  | 38 => 13
  | _ => 0
def lT : Nat → Nat := fun a => match a with
  | 0 => 0
  | 1 => 24
  | 2 => 0
  | 3 => 24
  | 4 => 24
  | 5 => 0
  | 6 => 3000
  | 7 => 24
  | 8 => 64
  | 9 => 64
  | 10 => 64
  | 11 => 24
  | 12 => 128
  | 13 => 128
  | 14 => 0
  | 15 => 24
  | 16 => 384
  | 17 => 384
  | 18 => 24
  | 19 => 1536
  | 20 => 24
  | 21 => 24
  | 22 => 199680
  | 23 => 1536
  | 24 => 36864
  | 25 => 2000
  | 26 => 2000
  | 27 => 2000
  | 28 => 2001
  | 29 => 65
  | 30 => 65
  | 31 => 30
  | 32 => 30
  | 33 => 3001
  | 34 => 3001
  | 35 => 576
  | 36 => 24
  | 37 => 24
  | 38 => 1
  | _ => 0
def rT : List (Nat × Nat × Nat) := [(0, 0, 1), (0, 2, 2), (0, 3, 5), (0, 4, 11), (0, 5, 12), (0, 6, 13), (2, 0, 3), (2, 1, 4), (5, 0, 6), (5, 1, 7), (5, 2, 8), (5, 3, 9), (5, 4, 10), (14, 2, 15), (14, 3, 16), (14, 4, 17), (14, 5, 18), (14, 6, 19), (14, 7, 20), (14, 8, 21), (14, 10, 22), (14, 11, 23), (14, 12, 24), (14, 14, 25), (14, 15, 26), (14, 16, 27), (14, 17, 28), (14, 19, 29), (14, 20, 30), (14, 21, 31), (14, 22, 32), (14, 23, 33), (14, 24, 34), (14, 25, 35), (14, 26, 36), (14, 27, 37)]
/-- the fixed cells: kinds, lengths, and the references between them -/
def Fix (S : AS) : Prop := (∀ a, a < 39 → hk S a = kT a ∧ hl S a = lT a) ∧ ∀ r ∈ rT, hR S r.1 r.2.1 = some r.2.2
theorem SI_fix : Fix SI := ⟨by decide +kernel, by decide +kernel⟩
theorem SI_hn : hn SI = 39 := by decide +kernel
theorem SI_hu : hu SI = 258911 := by decide +kernel
theorem SI_at : (SIo.get SIo_some).1 = 0 ∧ (SIo.get SIo_some).2.1 = 14 ∧ (SIo.get SIo_some).2.2.1 = 38 := by decide +kernel
theorem SI_int : hI SI 0 1 = 0 ∧ hI SI 14 1 = 0 ∧ hI SI 14 9 = 0 := by decide +kernel
theorem pre_SI (k : Nat → Nat → Nat → AS → Option RS) : pre0 k S00 = k 0 14 38 SI := by
  have h := Option.some_get SIo_some
  generalize hq : SIo.get SIo_some = q at h
  have e1 : SI = q.2.2.2 := by unfold SI; rw [hq]
  have e2 := SI_at
  rw [hq] at e2
  unfold SIo at h
  obtain ⟨S1, g1, h⟩ := bd h.symm
  obtain ⟨q2, g2, h⟩ := bd h
  obtain ⟨S4, g3, h⟩ := bd h
  obtain ⟨q5, g4, h⟩ := bd h
  obtain ⟨S7, g5, h⟩ := bd h
  cases h
  obtain ⟨z1, z2, z3⟩ := e2
  have z1 : q2.1.1 + q5.1.1 = 0 := z1
  have z2 : hn q2.2 = 14 := z2
  have z3 : hn q5.2 = 38 := z3
  have y2 : q2.1.1 = 0 := by omega
  have y5 : q5.1.1 = 0 := by omega
  have z0 : hn S00 = 0 := rfl
  unfold pre0
  rw [g1, z0]
  simp only [Option.bind_some, cN, g2, y2, if_true, g3, g4, y5, g5]
  rw [e1, z2, z3]
