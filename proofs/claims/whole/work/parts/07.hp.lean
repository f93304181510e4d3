/-! THE PICTURE OF THE HEAP: addresses from the law's start on, counted from 0. A state of it: how many cells, how many slots, each cell's kind, its length, its ints, its references. -/
abbrev AS : Type := Nat × Nat × (Nat → Nat) × (Nat → Nat) × (Nat → Nat → Int) × (Nat → Nat → Option Nat)
abbrev RS : Type := (Nat × Int × Option Nat) × AS
def hn (S : AS) : Nat := S.1
def hu (S : AS) : Nat := S.2.1
def hk (S : AS) : Nat → Nat := S.2.2.1
def hl (S : AS) : Nat → Nat := S.2.2.2.1
def hI (S : AS) : Nat → Nat → Int := S.2.2.2.2.1
def hR (S : AS) : Nat → Nat → Option Nat := S.2.2.2.2.2
def CM : Nat := 601024
def UM : Nat := 7293034
abbrev inR (x : Int) : Prop := -2147483648 ≤ x ∧ x ≤ 2147483647
def iv (x : Int) : Value := .int (Int32.ofInt x)
def lvv (x : Int) : Value := .long (Int64.ofInt x)
def rf (b : Nat) (r : Option Nat) : Value := va_rf (r.map (b + ·))
/-- the types of the fields of class ci, and how many there are -/
def tyC (ci : Nat) : Nat → FieldType := match ci with
  | 0 => tyX0
  | 1 => tyX1
  | 2 => tyX2
  | 3 => tyX3
  | 4 => tyX4
  | 5 => tyX5
  | _ => tyX6
def NC (ci : Nat) : Nat := match ci with
  | 0 => 5
  | 1 => 7
  | 2 => 3
  | 3 => 3
  | 4 => 7
  | 5 => 7
  | _ => 28
def fv (b : Nat) (ty : FieldType) (i : Int) (r : Option Nat) : Value := match ty with
  | .int => iv i
  | .boolean => iv i
  | _ => rf b r
def fls (b ci : Nat) (I : Nat → Int) (R : Nat → Option Nat) : List Value := (List.range (NC ci)).map fun k => fv b (tyC ci k) (I k) (R k)
/-- kinds: 1 to 7 objects of class 0 to 6; 8 ints, 9 booleans, 10 Placements, 11 Shells, 12 rows of ints, 13 longs -/
def hp_e (b : Nat) (dA : Nat → ClassId) (kd len : Nat) (I : Nat → Int) (R : Nat → Option Nat) : va_E :=
  if kd ≤ 7 then .inr (kd - 1, fls b (kd - 1) I R)
  else if kd ≤ 9 then .inl (dA kd, len, .inl (fun j => Int32.ofInt (I j)))
  else if kd ≤ 12 then .inl (dA kd, len, .inr (.inr (.inr (.inr (fun j => (R j).map (b + ·))))))
  else .inl (dA kd, len, .inr (.inl (fun j => Int64.ofInt (I j))))
def hp_sum (b : Nat) (H : Heap) : Nat := ((H.toList.drop b).map (·.slots.size)).sum
def hp_R (b : Nat) (D : va_G) (dA : Nat → ClassId) (S : AS) (H : Heap) : Prop :=
  H.size = b + hn S ∧ hp_sum b H = hu S ∧ (∀ a, hk S a ≠ 0 → a < hn S ∧ hk S a ≤ 13 ∧ va_at D vwCl (b + a, hp_e b dA (hk S a) (hl S a) (hI S a) (hR S a)) H) ∧ (∀ a k, inR (hI S a k)) ∧ ∀ a k, hk S a = 9 → hI S a k = 0 ∨ hI S a k = 1
/-- the writes -/
def wI (S : AS) (a k : Nat) (v : Int) : AS := (hn S, hu S, hk S, hl S, (fun b j => if b = a ∧ j = k then v else hI S b j), hR S)
def wR (S : AS) (a k : Nat) (v : Option Nat) : AS := (hn S, hu S, hk S, hl S, hI S, (fun b j => if b = a ∧ j = k then v else hR S b j))
/-- a new cell of a kind, all of it 0 and null, and how many slots it takes -/
def wN (S : AS) (kd len sl : Nat) : AS := (hn S + 1, hu S + sl, (fun b => if b = hn S then kd else hk S b), (fun b => if b = hn S then len else hl S b), (fun b j => if b = hn S then 0 else hI S b j), (fun b j => if b = hn S then none else hR S b j))
/-- a new cell of which nothing is kept (an exception) -/
def wX (S : AS) : AS := (hn S + 1, hu S + 6, (fun b => if b = hn S then 0 else hk S b), hl S, hI S, hR S)
/-! the readers of the writes -/
theorem hn_wI (S : AS) (a k : Nat) (v : Int) : hn (wI S a k v) = hn S := rfl
theorem hu_wI (S : AS) (a k : Nat) (v : Int) : hu (wI S a k v) = hu S := rfl
theorem hk_wI (S : AS) (a k : Nat) (v : Int) : hk (wI S a k v) = hk S := rfl
theorem hl_wI (S : AS) (a k : Nat) (v : Int) : hl (wI S a k v) = hl S := rfl
theorem hR_wI (S : AS) (a k : Nat) (v : Int) : hR (wI S a k v) = hR S := rfl
theorem hI_wI (S : AS) (a k : Nat) (v : Int) (b j : Nat) : hI (wI S a k v) b j = if b = a ∧ j = k then v else hI S b j := rfl
theorem hn_wR (S : AS) (a k : Nat) (v : Option Nat) : hn (wR S a k v) = hn S := rfl
theorem hu_wR (S : AS) (a k : Nat) (v : Option Nat) : hu (wR S a k v) = hu S := rfl
theorem hk_wR (S : AS) (a k : Nat) (v : Option Nat) : hk (wR S a k v) = hk S := rfl
theorem hl_wR (S : AS) (a k : Nat) (v : Option Nat) : hl (wR S a k v) = hl S := rfl
theorem hI_wR (S : AS) (a k : Nat) (v : Option Nat) : hI (wR S a k v) = hI S := rfl
theorem hR_wR (S : AS) (a k : Nat) (v : Option Nat) (b j : Nat) : hR (wR S a k v) b j = if b = a ∧ j = k then v else hR S b j := rfl
theorem hn_wN (S : AS) (kd len sl : Nat) : hn (wN S kd len sl) = hn S + 1 := rfl
theorem hu_wN (S : AS) (kd len sl : Nat) : hu (wN S kd len sl) = hu S + sl := rfl
theorem hk_wN (S : AS) (kd len sl b : Nat) : hk (wN S kd len sl) b = if b = hn S then kd else hk S b := rfl
theorem hl_wN (S : AS) (kd len sl b : Nat) : hl (wN S kd len sl) b = if b = hn S then len else hl S b := rfl
theorem hI_wN (S : AS) (kd len sl b j : Nat) : hI (wN S kd len sl) b j = if b = hn S then 0 else hI S b j := rfl
theorem hR_wN (S : AS) (kd len sl b j : Nat) : hR (wN S kd len sl) b j = if b = hn S then none else hR S b j := rfl
theorem hn_wX (S : AS) : hn (wX S) = hn S + 1 := rfl
theorem hu_wX (S : AS) : hu (wX S) = hu S + 6 := rfl
theorem hk_wX (S : AS) (b : Nat) : hk (wX S) b = if b = hn S then 0 else hk S b := rfl
theorem hl_wX (S : AS) : hl (wX S) = hl S := rfl
theorem hI_wX (S : AS) : hI (wX S) = hI S := rfl
theorem hR_wX (S : AS) : hR (wX S) = hR S := rfl
/-! what an instruction does to the picture: none where the machine would not go through -/
def chk (x : Int) : Option Int := if inR x then some x else none
def isK (S : AS) (r : Option Nat) (kd : Nat) : Bool := match r with
  | some a => decide (hk S a = kd)
  | none => false
def gI (S : AS) (r : Option Nat) (kd k : Nat) : Option Int := match r with
  | some a => if hk S a = kd then some (hI S a k) else none
  | none => none
def gR (S : AS) (r : Option Nat) (kd k : Nat) : Option (Option Nat) := match r with
  | some a => if hk S a = kd then some (hR S a k) else none
  | none => none
def pI (S : AS) (r : Option Nat) (kd k : Nat) (v : Int) : Option AS := match r with
  | some a => if hk S a = kd then some (wI S a k v) else none
  | none => none
def pZ (S : AS) (r : Option Nat) (kd k : Nat) (v : Int) : Option AS := match r with
  | some a => if hk S a = kd ∧ (v = 0 ∨ v = 1) then some (wI S a k v) else none
  | none => none
def pR (S : AS) (r : Option Nat) (kd k : Nat) (v : Option Nat) : Option AS := match r with
  | some a => if hk S a = kd then some (wR S a k v) else none
  | none => none
def aI (S : AS) (r : Option Nat) (kd : Nat) (i : Int) : Option Int := match r with
  | some a => if hk S a = kd ∧ 0 ≤ i ∧ i < hl S a then some (hI S a i.toNat) else none
  | none => none
def aR (S : AS) (r : Option Nat) (kd : Nat) (i : Int) : Option (Option Nat) := match r with
  | some a => if hk S a = kd ∧ 0 ≤ i ∧ i < hl S a then some (hR S a i.toNat) else none
  | none => none
def sI (S : AS) (r : Option Nat) (kd : Nat) (i v : Int) : Option AS := match r with
  | some a => if hk S a = kd ∧ 0 ≤ i ∧ i < hl S a then some (wI S a i.toNat v) else none
  | none => none
def sZ (S : AS) (r : Option Nat) (i v : Int) : Option AS := match r with
  | some a => if hk S a = 9 ∧ 0 ≤ i ∧ i < hl S a ∧ (v = 0 ∨ v = 1) then some (wI S a i.toNat v) else none
  | none => none
def ek (kd : Nat) : Nat := if kd = 10 then 4 else if kd = 11 then 5 else 8
def sR (S : AS) (r : Option Nat) (kd : Nat) (i : Int) (v : Option Nat) : Option AS := match r, v with
  | some a, some w => if hk S a = kd ∧ 0 ≤ i ∧ i < hl S a ∧ hk S w = ek kd then some (wR S a i.toNat (some w)) else none
  | _, _ => none
def ln (S : AS) (r : Option Nat) (kd : Nat) : Option Int := match r with
  | some a => if hk S a = kd then some (hl S a : Int) else none
  | none => none
def nO (S : AS) (kd : Nat) : Option AS := if hn S < CM ∧ hu S + NC (kd - 1) ≤ UM then some (wN S kd 0 (NC (kd - 1))) else none
def nA (S : AS) (kd : Nat) (n : Int) : Option AS := if 0 ≤ n ∧ n ≤ 4000000 ∧ hn S < CM ∧ hu S + n.toNat ≤ UM then some (wN S kd n.toNat n.toNat) else none
/-- ends of a method, and calls -/
def rV (S : AS) : Option RS := some ((0, 0, none), S)
def rI (x : Int) (S : AS) : Option RS := some ((0, x, none), S)
def rR (r : Option Nat) (S : AS) : Option RS := some ((0, 0, r), S)
def rX (k : Nat) (S : AS) : Option RS := if hn S < CM ∧ hu S + 6 ≤ UM then some ((k, 0, none), wX S) else none
def cV (c : Option RS) (k : AS → Option RS) : Option RS := c.bind fun q => if q.1.1 = 0 then k q.2 else some q
def cI (c : Option RS) (k : Int → AS → Option RS) : Option RS := c.bind fun q => if q.1.1 = 0 then k q.1.2.1 q.2 else some q
def cR (c : Option RS) (k : Option Nat → AS → Option RS) : Option RS := c.bind fun q => if q.1.1 = 0 then k q.1.2.2 q.2 else some q
/-! rows on them -/
theorem gI_some {S : AS} {r : Option Nat} {kd k : Nat} {v : Int} (h : gI S r kd k = some v) : ∃ a, r = some a ∧ hk S a = kd ∧ v = hI S a k := by
  cases r with
  | none => simp [gI] at h
  | some a =>
    simp only [gI] at h
    split at h
    · exact ⟨a, rfl, by assumption, (Option.some.inj h).symm⟩
    · cases h
theorem gR_some {S : AS} {r : Option Nat} {kd k : Nat} {v : Option Nat} (h : gR S r kd k = some v) : ∃ a, r = some a ∧ hk S a = kd ∧ v = hR S a k := by
  cases r with
  | none => simp [gR] at h
  | some a =>
    simp only [gR] at h
    split at h
    · exact ⟨a, rfl, by assumption, (Option.some.inj h).symm⟩
    · cases h
theorem pI_some {S S' : AS} {r : Option Nat} {kd k : Nat} {v : Int} (h : pI S r kd k v = some S') : ∃ a, r = some a ∧ hk S a = kd ∧ S' = wI S a k v := by
  cases r with
  | none => simp [pI] at h
  | some a =>
    simp only [pI] at h
    split at h
    · exact ⟨a, rfl, by assumption, (Option.some.inj h).symm⟩
    · cases h
theorem pZ_some {S S' : AS} {r : Option Nat} {kd k : Nat} {v : Int} (h : pZ S r kd k v = some S') : ∃ a, r = some a ∧ hk S a = kd ∧ (v = 0 ∨ v = 1) ∧ S' = wI S a k v := by
  cases r with
  | none => simp [pZ] at h
  | some a =>
    simp only [pZ] at h
    split at h
    · rename_i q
      exact ⟨a, rfl, q.1, q.2, (Option.some.inj h).symm⟩
    · cases h
theorem pR_some {S S' : AS} {r : Option Nat} {kd k : Nat} {v : Option Nat} (h : pR S r kd k v = some S') : ∃ a, r = some a ∧ hk S a = kd ∧ S' = wR S a k v := by
  cases r with
  | none => simp [pR] at h
  | some a =>
    simp only [pR] at h
    split at h
    · exact ⟨a, rfl, by assumption, (Option.some.inj h).symm⟩
    · cases h
theorem aI_some {S : AS} {r : Option Nat} {kd : Nat} {i v : Int} (h : aI S r kd i = some v) : ∃ a, r = some a ∧ hk S a = kd ∧ 0 ≤ i ∧ i < hl S a ∧ v = hI S a i.toNat := by
  cases r with
  | none => simp [aI] at h
  | some a =>
    simp only [aI] at h
    split at h
    · rename_i q
      exact ⟨a, rfl, q.1, q.2.1, q.2.2, (Option.some.inj h).symm⟩
    · cases h
theorem aR_some {S : AS} {r : Option Nat} {kd : Nat} {i : Int} {v : Option Nat} (h : aR S r kd i = some v) : ∃ a, r = some a ∧ hk S a = kd ∧ 0 ≤ i ∧ i < hl S a ∧ v = hR S a i.toNat := by
  cases r with
  | none => simp [aR] at h
  | some a =>
    simp only [aR] at h
    split at h
    · rename_i q
      exact ⟨a, rfl, q.1, q.2.1, q.2.2, (Option.some.inj h).symm⟩
    · cases h
theorem sI_some {S S' : AS} {r : Option Nat} {kd : Nat} {i v : Int} (h : sI S r kd i v = some S') : ∃ a, r = some a ∧ hk S a = kd ∧ 0 ≤ i ∧ i < hl S a ∧ S' = wI S a i.toNat v := by
  cases r with
  | none => simp [sI] at h
  | some a =>
    simp only [sI] at h
    split at h
    · rename_i q
      exact ⟨a, rfl, q.1, q.2.1, q.2.2, (Option.some.inj h).symm⟩
    · cases h
theorem sZ_some {S S' : AS} {r : Option Nat} {i v : Int} (h : sZ S r i v = some S') : ∃ a, r = some a ∧ hk S a = 9 ∧ 0 ≤ i ∧ i < hl S a ∧ (v = 0 ∨ v = 1) ∧ S' = wI S a i.toNat v := by
  cases r with
  | none => simp [sZ] at h
  | some a =>
    simp only [sZ] at h
    split at h
    · rename_i q
      exact ⟨a, rfl, q.1, q.2.1, q.2.2.1, q.2.2.2, (Option.some.inj h).symm⟩
    · cases h
theorem sR_some {S S' : AS} {r v : Option Nat} {kd : Nat} {i : Int} (h : sR S r kd i v = some S') : ∃ a w, r = some a ∧ v = some w ∧ hk S a = kd ∧ 0 ≤ i ∧ i < hl S a ∧ hk S w = ek kd ∧ S' = wR S a i.toNat (some w) := by
  cases r with
  | none => simp [sR] at h
  | some a =>
    cases v with
    | none => simp [sR] at h
    | some w =>
      simp only [sR] at h
      split at h
      · rename_i q
        exact ⟨a, w, rfl, rfl, q.1, q.2.1, q.2.2.1, q.2.2.2, (Option.some.inj h).symm⟩
      · cases h
theorem ln_some {S : AS} {r : Option Nat} {kd : Nat} {v : Int} (h : ln S r kd = some v) : ∃ a, r = some a ∧ hk S a = kd ∧ v = (hl S a : Int) := by
  cases r with
  | none => simp [ln] at h
  | some a =>
    simp only [ln] at h
    split at h
    · exact ⟨a, rfl, by assumption, (Option.some.inj h).symm⟩
    · cases h
theorem chk_some {x z : Int} (h : chk x = some z) : z = x ∧ inR x := by
  unfold chk at h
  split at h
  · exact ⟨(Option.some.inj h).symm, by assumption⟩
  · cases h
theorem nO_some {S S' : AS} {kd : Nat} (h : nO S kd = some S') : hn S < CM ∧ hu S + NC (kd - 1) ≤ UM ∧ S' = wN S kd 0 (NC (kd - 1)) := by
  unfold nO at h
  split at h
  · rename_i q
    exact ⟨q.1, q.2, (Option.some.inj h).symm⟩
  · cases h
theorem nA_some {S S' : AS} {kd : Nat} {n : Int} (h : nA S kd n = some S') : 0 ≤ n ∧ n ≤ 4000000 ∧ hn S < CM ∧ hu S + n.toNat ≤ UM ∧ S' = wN S kd n.toNat n.toNat := by
  unfold nA at h
  split at h
  · rename_i q
    exact ⟨q.1, q.2.1, q.2.2.1, q.2.2.2, (Option.some.inj h).symm⟩
  · cases h
theorem rX_some {k : Nat} {S : AS} {q : RS} (h : rX k S = some q) : hn S < CM ∧ hu S + 6 ≤ UM ∧ q = ((k, 0, none), wX S) := by
  unfold rX at h
  split at h
  · rename_i g
    exact ⟨g.1, g.2, (Option.some.inj h).symm⟩
  · cases h
theorem isK_some {S : AS} {r : Option Nat} {kd : Nat} (h : isK S r kd = true) : ∃ a, r = some a ∧ hk S a = kd := by
  cases r with
  | none => simp [isK] at h
  | some a => exact ⟨a, rfl, by simpa [isK] using h⟩
theorem cV_some {c : Option RS} {k : AS → Option RS} {q : RS} (h : cV c k = some q) : (∃ S', ∃ x : Int × Option Nat, c = some ((0, x), S') ∧ k S' = some q) ∨ (c = some q ∧ q.1.1 ≠ 0) := by
  cases c with
  | none => simp [cV] at h
  | some y =>
    obtain ⟨⟨e, x⟩, S'⟩ := y
    simp only [cV, Option.bind_some] at h
    by_cases he : e = 0
    · subst he
      rw [if_pos rfl] at h
      exact Or.inl ⟨S', x, rfl, h⟩
    · rw [if_neg he] at h
      exact Or.inr ⟨h, by rw [← Option.some.inj h]; exact he⟩
theorem cI_some {c : Option RS} {k : Int → AS → Option RS} {q : RS} (h : cI c k = some q) : (∃ S' v r, c = some ((0, v, r), S') ∧ k v S' = some q) ∨ (c = some q ∧ q.1.1 ≠ 0) := by
  cases c with
  | none => simp [cI] at h
  | some y =>
    obtain ⟨⟨e, v, r⟩, S'⟩ := y
    simp only [cI, Option.bind_some] at h
    by_cases he : e = 0
    · subst he
      rw [if_pos rfl] at h
      exact Or.inl ⟨S', v, r, rfl, h⟩
    · rw [if_neg he] at h
      exact Or.inr ⟨h, by rw [← Option.some.inj h]; exact he⟩
theorem cR_some {c : Option RS} {k : Option Nat → AS → Option RS} {q : RS} (h : cR c k = some q) : (∃ S' v r, c = some ((0, v, r), S') ∧ k r S' = some q) ∨ (c = some q ∧ q.1.1 ≠ 0) := by
  cases c with
  | none => simp [cR] at h
  | some y =>
    obtain ⟨⟨e, v, r⟩, S'⟩ := y
    simp only [cR, Option.bind_some] at h
    by_cases he : e = 0
    · subst he
      rw [if_pos rfl] at h
      exact Or.inl ⟨S', v, r, rfl, h⟩
    · rw [if_neg he] at h
      exact Or.inr ⟨h, by rw [← Option.some.inj h]; exact he⟩
/-! numbers -/
theorem iv_toInt {x : Int} (h : inR x) : (Int32.ofInt x).toInt = x := Int32.toInt_ofInt_of_le (by omega) (by omega)
theorem iv_inj {x y : Int} (hx : inR x) (hy : inR y) : Int32.ofInt x = Int32.ofInt y ↔ x = y := ⟨fun h => by rw [← iv_toInt hx, ← iv_toInt hy, h], fun h => by rw [h]⟩
theorem iv_lt {x y : Int} (hx : inR x) (hy : inR y) : Int32.ofInt x < Int32.ofInt y ↔ x < y := by rw [Int32.lt_iff_toInt_lt, iv_toInt hx, iv_toInt hy]
theorem iv_le {x y : Int} (hx : inR x) (hy : inR y) : Int32.ofInt x ≤ Int32.ofInt y ↔ x ≤ y := by rw [Int32.le_iff_toInt_le, iv_toInt hx, iv_toInt hy]
theorem iv_clamp {x : Int} (h : inR x) : (Int32.ofInt x).toNatClampNeg = x.toNat := by
  show (Int32.ofInt x).toInt.toNat = x.toNat
  rw [iv_toInt h]
theorem iv_in {x : Int} {n : Nat} (h : inR x) (h0 : 0 ≤ x) (h1 : x < n) : vp_in (Int32.ofInt x) n := vp_in_iff.mpr (by rw [iv_toInt h]; exact ⟨h0, h1⟩)
theorem iv_z : (0 : Int32) = Int32.ofInt 0 := by decide
