/-! reading and writing the fixed cells -/
theorem chk_ok {x : Int} (h1 : -2147483648 ≤ x) (h2 : x ≤ 2147483647) : chk x = some x := by unfold chk; rw [if_pos ⟨h1, h2⟩]
theorem Fix.kd {S : AS} (h : Fix S) {a : Nat} (ha : a < 39) : hk S a = kT a := (h.1 a ha).1
theorem Fix.ln {S : AS} (h : Fix S) {a : Nat} (ha : a < 39) : hl S a = lT a := (h.1 a ha).2
theorem gR_at {S : AS} {a kd k : Nat} (h : hk S a = kd) : gR S (some a) kd k = some (hR S a k) := by simp [gR, h]
theorem gI_at {S : AS} {a kd k : Nat} (h : hk S a = kd) : gI S (some a) kd k = some (hI S a k) := by simp [gI, h]
theorem pI_at {S : AS} {a kd k : Nat} {v : Int} (h : hk S a = kd) : pI S (some a) kd k v = some (wI S a k v) := by simp [pI, h]
theorem pR_at {S : AS} {a kd k : Nat} {v : Option Nat} (h : hk S a = kd) : pR S (some a) kd k v = some (wR S a k v) := by simp [pR, h]
theorem pZ_at {S : AS} {a kd k : Nat} {v : Int} (h : hk S a = kd) (hv : v = 0 ∨ v = 1) : pZ S (some a) kd k v = some (wI S a k v) := by simp [pZ, h, hv]
theorem aI_at {S : AS} {a kd : Nat} {i : Int} (h : hk S a = kd) (h0 : 0 ≤ i) (h1 : i < hl S a) : aI S (some a) kd i = some (hI S a i.toNat) := by simp [aI, h, h0, h1]
theorem aR_at {S : AS} {a kd : Nat} {i : Int} (h : hk S a = kd) (h0 : 0 ≤ i) (h1 : i < hl S a) : aR S (some a) kd i = some (hR S a i.toNat) := by simp [aR, h, h0, h1]
theorem sI_at {S : AS} {a kd : Nat} {i v : Int} (h : hk S a = kd) (h0 : 0 ≤ i) (h1 : i < hl S a) : sI S (some a) kd i v = some (wI S a i.toNat v) := by simp [sI, h, h0, h1]
theorem sZ_at {S : AS} {a : Nat} {i v : Int} (h : hk S a = 9) (h0 : 0 ≤ i) (h1 : i < hl S a) (hv : v = 0 ∨ v = 1) : sZ S (some a) i v = some (wI S a i.toNat v) := by simp [sZ, h, h0, h1, hv]
theorem sR_at {S : AS} {a w kd : Nat} {i : Int} (h : hk S a = kd) (h0 : 0 ≤ i) (h1 : i < hl S a) (hw : hk S w = ek kd) : sR S (some a) kd i (some w) = some (wR S a i.toNat (some w)) := by simp [sR, h, h0, h1, hw]
theorem ln_at {S : AS} {a kd : Nat} (h : hk S a = kd) : ln S (some a) kd = some (hl S a : Int) := by simp [ln, h]
theorem isK_at {S : AS} {a kd : Nat} (h : hk S a = kd) : isK S (some a) kd = true := by simp [isK, h]
theorem Fix.wI {S : AS} (h : Fix S) (a k : Nat) (v : Int) : Fix (wI S a k v) := ⟨h.1, h.2⟩
theorem Fix.wC {S : AS} (h : Fix S) (a d x y z : Nat) : Fix (wC S a d x y z) := ⟨h.1, h.2⟩
theorem Fix.wR {S : AS} (h : Fix S) {a k : Nat} (v : Option Nat) (hn9 : ∀ r ∈ rT, r.1 ≠ a ∨ r.2.1 ≠ k) : Fix (wR S a k v) := ⟨h.1, fun r hr => by
  rw [hR_wR, if_neg (fun q => (hn9 r hr).elim (fun z => z q.1) (fun z => z q.2))]
  exact h.2 r hr⟩
theorem rd {x : Option RS} {q : RS} {f : RS → Option RS} (h : x = some q) : x.bind f = f q := by rw [h]; rfl
theorem cI_ok {c : Option RS} {k : Int → AS → Option RS} {v : Int} {r : Option Nat} {S : AS} (h : c = some ((0, v, r), S)) : cI c k = k v S := by rw [h]; simp [cI]
theorem cR_ok {c : Option RS} {k : Option Nat → AS → Option RS} {v : Int} {r : Option Nat} {S : AS} (h : c = some ((0, v, r), S)) : cR c k = k r S := by rw [h]; simp [cR]
theorem cV_ok {c : Option RS} {k : AS → Option RS} {v : Int} {r : Option Nat} {S : AS} (h : c = some ((0, v, r), S)) : cV c k = k S := by rw [h]; simp [cV]
theorem cI_th {c : Option RS} {k : Int → AS → Option RS} {q : RS} (h : c = some q) (h0 : q.1.1 ≠ 0) : cI c k = some q := by rw [h]; simp [cI, h0]
theorem cR_th {c : Option RS} {k : Option Nat → AS → Option RS} {q : RS} (h : c = some q) (h0 : q.1.1 ≠ 0) : cR c k = some q := by rw [h]; simp [cR, h0]
theorem cV_th {c : Option RS} {k : AS → Option RS} {q : RS} (h : c = some q) (h0 : q.1.1 ≠ 0) : cV c k = some q := by rw [h]; simp [cV, h0]
theorem gd_t {c : Bool} {x : Option RS} (h : c = true) : gd c x = x := by rw [h]; rfl
theorem rX_ok {S : AS} {k : Nat} (h1 : hn S < CM) (h2 : hu S + 6 ≤ UM) : rX k S = some ((k, 0, none), wX S) := by unfold rX; rw [if_pos ⟨h1, h2⟩]
theorem rZ_ok {x : Int} {S : AS} (h : x = 0 ∨ x = 1) : rZ x S = some ((0, x, none), S) := by unfold rZ; rw [if_pos h]
def Bo (p : Prop) [Decidable p] : Int := if p then 1 else 0
theorem Bo_t {p : Prop} [Decidable p] (h : p) : Bo p = 1 := if_pos h
theorem Bo_f {p : Prop} [Decidable p] (h : ¬ p) : Bo p = 0 := if_neg h
theorem Bo_01 (p : Prop) [Decidable p] : Bo p = 0 ∨ Bo p = 1 := by unfold Bo; split <;> simp
theorem fr_0_0 {S : AS} (h : Fix S) : gR S (some 0) 6 0 = some (some 1) := (gR_at (h.kd (by decide))).trans (congrArg some (h.2 (0, 0, 1) (by decide)))
theorem fr_0_2 {S : AS} (h : Fix S) : gR S (some 0) 6 2 = some (some 2) := (gR_at (h.kd (by decide))).trans (congrArg some (h.2 (0, 2, 2) (by decide)))
theorem fr_0_3 {S : AS} (h : Fix S) : gR S (some 0) 6 3 = some (some 5) := (gR_at (h.kd (by decide))).trans (congrArg some (h.2 (0, 3, 5) (by decide)))
theorem fr_0_4 {S : AS} (h : Fix S) : gR S (some 0) 6 4 = some (some 11) := (gR_at (h.kd (by decide))).trans (congrArg some (h.2 (0, 4, 11) (by decide)))
theorem fr_0_5 {S : AS} (h : Fix S) : gR S (some 0) 6 5 = some (some 12) := (gR_at (h.kd (by decide))).trans (congrArg some (h.2 (0, 5, 12) (by decide)))
theorem fr_0_6 {S : AS} (h : Fix S) : gR S (some 0) 6 6 = some (some 13) := (gR_at (h.kd (by decide))).trans (congrArg some (h.2 (0, 6, 13) (by decide)))
theorem fr_2_0 {S : AS} (h : Fix S) : gR S (some 2) 3 0 = some (some 3) := (gR_at (h.kd (by decide))).trans (congrArg some (h.2 (2, 0, 3) (by decide)))
theorem fr_2_1 {S : AS} (h : Fix S) : gR S (some 2) 3 1 = some (some 4) := (gR_at (h.kd (by decide))).trans (congrArg some (h.2 (2, 1, 4) (by decide)))
theorem fr_5_0 {S : AS} (h : Fix S) : gR S (some 5) 2 0 = some (some 6) := (gR_at (h.kd (by decide))).trans (congrArg some (h.2 (5, 0, 6) (by decide)))
theorem fr_5_1 {S : AS} (h : Fix S) : gR S (some 5) 2 1 = some (some 7) := (gR_at (h.kd (by decide))).trans (congrArg some (h.2 (5, 1, 7) (by decide)))
theorem fr_5_2 {S : AS} (h : Fix S) : gR S (some 5) 2 2 = some (some 8) := (gR_at (h.kd (by decide))).trans (congrArg some (h.2 (5, 2, 8) (by decide)))
theorem fr_5_3 {S : AS} (h : Fix S) : gR S (some 5) 2 3 = some (some 9) := (gR_at (h.kd (by decide))).trans (congrArg some (h.2 (5, 3, 9) (by decide)))
theorem fr_5_4 {S : AS} (h : Fix S) : gR S (some 5) 2 4 = some (some 10) := (gR_at (h.kd (by decide))).trans (congrArg some (h.2 (5, 4, 10) (by decide)))
theorem fr_14_2 {S : AS} (h : Fix S) : gR S (some 14) 7 2 = some (some 15) := (gR_at (h.kd (by decide))).trans (congrArg some (h.2 (14, 2, 15) (by decide)))
theorem fr_14_3 {S : AS} (h : Fix S) : gR S (some 14) 7 3 = some (some 16) := (gR_at (h.kd (by decide))).trans (congrArg some (h.2 (14, 3, 16) (by decide)))
theorem fr_14_4 {S : AS} (h : Fix S) : gR S (some 14) 7 4 = some (some 17) := (gR_at (h.kd (by decide))).trans (congrArg some (h.2 (14, 4, 17) (by decide)))
theorem fr_14_5 {S : AS} (h : Fix S) : gR S (some 14) 7 5 = some (some 18) := (gR_at (h.kd (by decide))).trans (congrArg some (h.2 (14, 5, 18) (by decide)))
theorem fr_14_6 {S : AS} (h : Fix S) : gR S (some 14) 7 6 = some (some 19) := (gR_at (h.kd (by decide))).trans (congrArg some (h.2 (14, 6, 19) (by decide)))
theorem fr_14_7 {S : AS} (h : Fix S) : gR S (some 14) 7 7 = some (some 20) := (gR_at (h.kd (by decide))).trans (congrArg some (h.2 (14, 7, 20) (by decide)))
theorem fr_14_8 {S : AS} (h : Fix S) : gR S (some 14) 7 8 = some (some 21) := (gR_at (h.kd (by decide))).trans (congrArg some (h.2 (14, 8, 21) (by decide)))
theorem fr_14_10 {S : AS} (h : Fix S) : gR S (some 14) 7 10 = some (some 22) := (gR_at (h.kd (by decide))).trans (congrArg some (h.2 (14, 10, 22) (by decide)))
theorem fr_14_11 {S : AS} (h : Fix S) : gR S (some 14) 7 11 = some (some 23) := (gR_at (h.kd (by decide))).trans (congrArg some (h.2 (14, 11, 23) (by decide)))
theorem fr_14_12 {S : AS} (h : Fix S) : gR S (some 14) 7 12 = some (some 24) := (gR_at (h.kd (by decide))).trans (congrArg some (h.2 (14, 12, 24) (by decide)))
theorem fr_14_14 {S : AS} (h : Fix S) : gR S (some 14) 7 14 = some (some 25) := (gR_at (h.kd (by decide))).trans (congrArg some (h.2 (14, 14, 25) (by decide)))
theorem fr_14_15 {S : AS} (h : Fix S) : gR S (some 14) 7 15 = some (some 26) := (gR_at (h.kd (by decide))).trans (congrArg some (h.2 (14, 15, 26) (by decide)))
theorem fr_14_16 {S : AS} (h : Fix S) : gR S (some 14) 7 16 = some (some 27) := (gR_at (h.kd (by decide))).trans (congrArg some (h.2 (14, 16, 27) (by decide)))
theorem fr_14_17 {S : AS} (h : Fix S) : gR S (some 14) 7 17 = some (some 28) := (gR_at (h.kd (by decide))).trans (congrArg some (h.2 (14, 17, 28) (by decide)))
theorem fr_14_19 {S : AS} (h : Fix S) : gR S (some 14) 7 19 = some (some 29) := (gR_at (h.kd (by decide))).trans (congrArg some (h.2 (14, 19, 29) (by decide)))
theorem fr_14_20 {S : AS} (h : Fix S) : gR S (some 14) 7 20 = some (some 30) := (gR_at (h.kd (by decide))).trans (congrArg some (h.2 (14, 20, 30) (by decide)))
theorem fr_14_21 {S : AS} (h : Fix S) : gR S (some 14) 7 21 = some (some 31) := (gR_at (h.kd (by decide))).trans (congrArg some (h.2 (14, 21, 31) (by decide)))
theorem fr_14_22 {S : AS} (h : Fix S) : gR S (some 14) 7 22 = some (some 32) := (gR_at (h.kd (by decide))).trans (congrArg some (h.2 (14, 22, 32) (by decide)))
theorem fr_14_23 {S : AS} (h : Fix S) : gR S (some 14) 7 23 = some (some 33) := (gR_at (h.kd (by decide))).trans (congrArg some (h.2 (14, 23, 33) (by decide)))
theorem fr_14_24 {S : AS} (h : Fix S) : gR S (some 14) 7 24 = some (some 34) := (gR_at (h.kd (by decide))).trans (congrArg some (h.2 (14, 24, 34) (by decide)))
theorem fr_14_25 {S : AS} (h : Fix S) : gR S (some 14) 7 25 = some (some 35) := (gR_at (h.kd (by decide))).trans (congrArg some (h.2 (14, 25, 35) (by decide)))
theorem fr_14_26 {S : AS} (h : Fix S) : gR S (some 14) 7 26 = some (some 36) := (gR_at (h.kd (by decide))).trans (congrArg some (h.2 (14, 26, 36) (by decide)))
theorem fr_14_27 {S : AS} (h : Fix S) : gR S (some 14) 7 27 = some (some 37) := (gR_at (h.kd (by decide))).trans (congrArg some (h.2 (14, 27, 37) (by decide)))
theorem fg_0 {S : AS} (h : Fix S) (k : Nat) : gI S (some 0) 6 k = some (hI S 0 k) := gI_at (h.kd (by decide))
theorem fp_0 {S : AS} (h : Fix S) (k : Nat) (v : Int) : pI S (some 0) 6 k v = some (wI S 0 k v) := pI_at (h.kd (by decide))
theorem fk_0 {S : AS} (h : Fix S) : isK S (some 0) 6 = true := isK_at (h.kd (by decide))
theorem fg_2 {S : AS} (h : Fix S) (k : Nat) : gI S (some 2) 3 k = some (hI S 2 k) := gI_at (h.kd (by decide))
theorem fp_2 {S : AS} (h : Fix S) (k : Nat) (v : Int) : pI S (some 2) 3 k v = some (wI S 2 k v) := pI_at (h.kd (by decide))
theorem fk_2 {S : AS} (h : Fix S) : isK S (some 2) 3 = true := isK_at (h.kd (by decide))
theorem fg_5 {S : AS} (h : Fix S) (k : Nat) : gI S (some 5) 2 k = some (hI S 5 k) := gI_at (h.kd (by decide))
theorem fp_5 {S : AS} (h : Fix S) (k : Nat) (v : Int) : pI S (some 5) 2 k v = some (wI S 5 k v) := pI_at (h.kd (by decide))
theorem fk_5 {S : AS} (h : Fix S) : isK S (some 5) 2 = true := isK_at (h.kd (by decide))
theorem fg_14 {S : AS} (h : Fix S) (k : Nat) : gI S (some 14) 7 k = some (hI S 14 k) := gI_at (h.kd (by decide))
theorem fp_14 {S : AS} (h : Fix S) (k : Nat) (v : Int) : pI S (some 14) 7 k v = some (wI S 14 k v) := pI_at (h.kd (by decide))
theorem fk_14 {S : AS} (h : Fix S) : isK S (some 14) 7 = true := isK_at (h.kd (by decide))
theorem fa_1 {S : AS} (h : Fix S) {i : Int} (h0 : 0 ≤ i) (h1 : i < 24) : aR S (some 1) 11 i = some (hR S 1 i.toNat) := aR_at (h.kd (by decide)) h0 (by rw [h.ln (by decide)]; exact h1)
theorem fs_1 {S : AS} (h : Fix S) {i : Int} {w : Nat} (h0 : 0 ≤ i) (h1 : i < 24) (hw : hk S w = ek 11) : sR S (some 1) 11 i (some w) = some (wR S 1 i.toNat (some w)) := sR_at (h.kd (by decide)) h0 (by rw [h.ln (by decide)]; exact h1) hw
theorem fa_3 {S : AS} (h : Fix S) {i : Int} (h0 : 0 ≤ i) (h1 : i < 24) : aR S (some 3) 11 i = some (hR S 3 i.toNat) := aR_at (h.kd (by decide)) h0 (by rw [h.ln (by decide)]; exact h1)
theorem fs_3 {S : AS} (h : Fix S) {i : Int} {w : Nat} (h0 : 0 ≤ i) (h1 : i < 24) (hw : hk S w = ek 11) : sR S (some 3) 11 i (some w) = some (wR S 3 i.toNat (some w)) := sR_at (h.kd (by decide)) h0 (by rw [h.ln (by decide)]; exact h1) hw
theorem fa_4 {S : AS} (h : Fix S) {i : Int} (h0 : 0 ≤ i) (h1 : i < 24) : aI S (some 4) 9 i = some (hI S 4 i.toNat) := aI_at (h.kd (by decide)) h0 (by rw [h.ln (by decide)]; exact h1)
theorem fs_4 {S : AS} (h : Fix S) {i v : Int} (hv : v = 0 ∨ v = 1) (h0 : 0 ≤ i) (h1 : i < 24) : sZ S (some 4) i v = some (wI S 4 i.toNat v) := sZ_at (h.kd (by decide)) h0 (by rw [h.ln (by decide)]; exact h1) hv
theorem fa_6 {S : AS} (h : Fix S) {i : Int} (h0 : 0 ≤ i) (h1 : i < 3000) : aI S (some 6) 8 i = some (hI S 6 i.toNat) := aI_at (h.kd (by decide)) h0 (by rw [h.ln (by decide)]; exact h1)
theorem fs_6 {S : AS} (h : Fix S) {i : Int} (v : Int) (h0 : 0 ≤ i) (h1 : i < 3000) : sI S (some 6) 8 i v = some (wI S 6 i.toNat v) := sI_at (h.kd (by decide)) h0 (by rw [h.ln (by decide)]; exact h1)
theorem fa_7 {S : AS} (h : Fix S) {i : Int} (h0 : 0 ≤ i) (h1 : i < 24) : aI S (some 7) 8 i = some (hI S 7 i.toNat) := aI_at (h.kd (by decide)) h0 (by rw [h.ln (by decide)]; exact h1)
theorem fs_7 {S : AS} (h : Fix S) {i : Int} (v : Int) (h0 : 0 ≤ i) (h1 : i < 24) : sI S (some 7) 8 i v = some (wI S 7 i.toNat v) := sI_at (h.kd (by decide)) h0 (by rw [h.ln (by decide)]; exact h1)
theorem fa_8 {S : AS} (h : Fix S) {i : Int} (h0 : 0 ≤ i) (h1 : i < 64) : aR S (some 8) 10 i = some (hR S 8 i.toNat) := aR_at (h.kd (by decide)) h0 (by rw [h.ln (by decide)]; exact h1)
theorem fs_8 {S : AS} (h : Fix S) {i : Int} {w : Nat} (h0 : 0 ≤ i) (h1 : i < 64) (hw : hk S w = ek 10) : sR S (some 8) 10 i (some w) = some (wR S 8 i.toNat (some w)) := sR_at (h.kd (by decide)) h0 (by rw [h.ln (by decide)]; exact h1) hw
theorem fa_9 {S : AS} (h : Fix S) {i : Int} (h0 : 0 ≤ i) (h1 : i < 64) : aI S (some 9) 8 i = some (hI S 9 i.toNat) := aI_at (h.kd (by decide)) h0 (by rw [h.ln (by decide)]; exact h1)
theorem fs_9 {S : AS} (h : Fix S) {i : Int} (v : Int) (h0 : 0 ≤ i) (h1 : i < 64) : sI S (some 9) 8 i v = some (wI S 9 i.toNat v) := sI_at (h.kd (by decide)) h0 (by rw [h.ln (by decide)]; exact h1)
theorem fa_10 {S : AS} (h : Fix S) {i : Int} (h0 : 0 ≤ i) (h1 : i < 64) : aR S (some 10) 12 i = some (hR S 10 i.toNat) := aR_at (h.kd (by decide)) h0 (by rw [h.ln (by decide)]; exact h1)
theorem fs_10 {S : AS} (h : Fix S) {i : Int} {w : Nat} (h0 : 0 ≤ i) (h1 : i < 64) (hw : hk S w = ek 12) : sR S (some 10) 12 i (some w) = some (wR S 10 i.toNat (some w)) := sR_at (h.kd (by decide)) h0 (by rw [h.ln (by decide)]; exact h1) hw
theorem fa_11 {S : AS} (h : Fix S) {i : Int} (h0 : 0 ≤ i) (h1 : i < 24) : aI S (some 11) 8 i = some (hI S 11 i.toNat) := aI_at (h.kd (by decide)) h0 (by rw [h.ln (by decide)]; exact h1)
theorem fs_11 {S : AS} (h : Fix S) {i : Int} (v : Int) (h0 : 0 ≤ i) (h1 : i < 24) : sI S (some 11) 8 i v = some (wI S 11 i.toNat v) := sI_at (h.kd (by decide)) h0 (by rw [h.ln (by decide)]; exact h1)
theorem fa_12 {S : AS} (h : Fix S) {i : Int} (h0 : 0 ≤ i) (h1 : i < 128) : aI S (some 12) 8 i = some (hI S 12 i.toNat) := aI_at (h.kd (by decide)) h0 (by rw [h.ln (by decide)]; exact h1)
theorem fs_12 {S : AS} (h : Fix S) {i : Int} (v : Int) (h0 : 0 ≤ i) (h1 : i < 128) : sI S (some 12) 8 i v = some (wI S 12 i.toNat v) := sI_at (h.kd (by decide)) h0 (by rw [h.ln (by decide)]; exact h1)
theorem fa_13 {S : AS} (h : Fix S) {i : Int} (h0 : 0 ≤ i) (h1 : i < 128) : aI S (some 13) 8 i = some (hI S 13 i.toNat) := aI_at (h.kd (by decide)) h0 (by rw [h.ln (by decide)]; exact h1)
theorem fs_13 {S : AS} (h : Fix S) {i : Int} (v : Int) (h0 : 0 ≤ i) (h1 : i < 128) : sI S (some 13) 8 i v = some (wI S 13 i.toNat v) := sI_at (h.kd (by decide)) h0 (by rw [h.ln (by decide)]; exact h1)
theorem fa_15 {S : AS} (h : Fix S) {i : Int} (h0 : 0 ≤ i) (h1 : i < 24) : aI S (some 15) 8 i = some (hI S 15 i.toNat) := aI_at (h.kd (by decide)) h0 (by rw [h.ln (by decide)]; exact h1)
theorem fs_15 {S : AS} (h : Fix S) {i : Int} (v : Int) (h0 : 0 ≤ i) (h1 : i < 24) : sI S (some 15) 8 i v = some (wI S 15 i.toNat v) := sI_at (h.kd (by decide)) h0 (by rw [h.ln (by decide)]; exact h1)
theorem fa_16 {S : AS} (h : Fix S) {i : Int} (h0 : 0 ≤ i) (h1 : i < 384) : aI S (some 16) 8 i = some (hI S 16 i.toNat) := aI_at (h.kd (by decide)) h0 (by rw [h.ln (by decide)]; exact h1)
theorem fs_16 {S : AS} (h : Fix S) {i : Int} (v : Int) (h0 : 0 ≤ i) (h1 : i < 384) : sI S (some 16) 8 i v = some (wI S 16 i.toNat v) := sI_at (h.kd (by decide)) h0 (by rw [h.ln (by decide)]; exact h1)
theorem fa_17 {S : AS} (h : Fix S) {i : Int} (h0 : 0 ≤ i) (h1 : i < 384) : aI S (some 17) 9 i = some (hI S 17 i.toNat) := aI_at (h.kd (by decide)) h0 (by rw [h.ln (by decide)]; exact h1)
theorem fs_17 {S : AS} (h : Fix S) {i v : Int} (hv : v = 0 ∨ v = 1) (h0 : 0 ≤ i) (h1 : i < 384) : sZ S (some 17) i v = some (wI S 17 i.toNat v) := sZ_at (h.kd (by decide)) h0 (by rw [h.ln (by decide)]; exact h1) hv
theorem fa_18 {S : AS} (h : Fix S) {i : Int} (h0 : 0 ≤ i) (h1 : i < 24) : aI S (some 18) 8 i = some (hI S 18 i.toNat) := aI_at (h.kd (by decide)) h0 (by rw [h.ln (by decide)]; exact h1)
theorem fs_18 {S : AS} (h : Fix S) {i : Int} (v : Int) (h0 : 0 ≤ i) (h1 : i < 24) : sI S (some 18) 8 i v = some (wI S 18 i.toNat v) := sI_at (h.kd (by decide)) h0 (by rw [h.ln (by decide)]; exact h1)
theorem fa_19 {S : AS} (h : Fix S) {i : Int} (h0 : 0 ≤ i) (h1 : i < 1536) : aI S (some 19) 8 i = some (hI S 19 i.toNat) := aI_at (h.kd (by decide)) h0 (by rw [h.ln (by decide)]; exact h1)
theorem fs_19 {S : AS} (h : Fix S) {i : Int} (v : Int) (h0 : 0 ≤ i) (h1 : i < 1536) : sI S (some 19) 8 i v = some (wI S 19 i.toNat v) := sI_at (h.kd (by decide)) h0 (by rw [h.ln (by decide)]; exact h1)
theorem fa_20 {S : AS} (h : Fix S) {i : Int} (h0 : 0 ≤ i) (h1 : i < 24) : aI S (some 20) 8 i = some (hI S 20 i.toNat) := aI_at (h.kd (by decide)) h0 (by rw [h.ln (by decide)]; exact h1)
theorem fs_20 {S : AS} (h : Fix S) {i : Int} (v : Int) (h0 : 0 ≤ i) (h1 : i < 24) : sI S (some 20) 8 i v = some (wI S 20 i.toNat v) := sI_at (h.kd (by decide)) h0 (by rw [h.ln (by decide)]; exact h1)
theorem fa_21 {S : AS} (h : Fix S) {i : Int} (h0 : 0 ≤ i) (h1 : i < 24) : aI S (some 21) 8 i = some (hI S 21 i.toNat) := aI_at (h.kd (by decide)) h0 (by rw [h.ln (by decide)]; exact h1)
theorem fs_21 {S : AS} (h : Fix S) {i : Int} (v : Int) (h0 : 0 ≤ i) (h1 : i < 24) : sI S (some 21) 8 i v = some (wI S 21 i.toNat v) := sI_at (h.kd (by decide)) h0 (by rw [h.ln (by decide)]; exact h1)
theorem fa_22 {S : AS} (h : Fix S) {i : Int} (h0 : 0 ≤ i) (h1 : i < 199680) : aI S (some 22) 8 i = some (hI S 22 i.toNat) := aI_at (h.kd (by decide)) h0 (by rw [h.ln (by decide)]; exact h1)
theorem fs_22 {S : AS} (h : Fix S) {i : Int} (v : Int) (h0 : 0 ≤ i) (h1 : i < 199680) : sI S (some 22) 8 i v = some (wI S 22 i.toNat v) := sI_at (h.kd (by decide)) h0 (by rw [h.ln (by decide)]; exact h1)
theorem fa_23 {S : AS} (h : Fix S) {i : Int} (h0 : 0 ≤ i) (h1 : i < 1536) : aI S (some 23) 8 i = some (hI S 23 i.toNat) := aI_at (h.kd (by decide)) h0 (by rw [h.ln (by decide)]; exact h1)
theorem fs_23 {S : AS} (h : Fix S) {i : Int} (v : Int) (h0 : 0 ≤ i) (h1 : i < 1536) : sI S (some 23) 8 i v = some (wI S 23 i.toNat v) := sI_at (h.kd (by decide)) h0 (by rw [h.ln (by decide)]; exact h1)
theorem fa_24 {S : AS} (h : Fix S) {i : Int} (h0 : 0 ≤ i) (h1 : i < 36864) : aI S (some 24) 8 i = some (hI S 24 i.toNat) := aI_at (h.kd (by decide)) h0 (by rw [h.ln (by decide)]; exact h1)
theorem fs_24 {S : AS} (h : Fix S) {i : Int} (v : Int) (h0 : 0 ≤ i) (h1 : i < 36864) : sI S (some 24) 8 i v = some (wI S 24 i.toNat v) := sI_at (h.kd (by decide)) h0 (by rw [h.ln (by decide)]; exact h1)
theorem fa_25 {S : AS} (h : Fix S) {i : Int} (h0 : 0 ≤ i) (h1 : i < 2000) : aI S (some 25) 8 i = some (hI S 25 i.toNat) := aI_at (h.kd (by decide)) h0 (by rw [h.ln (by decide)]; exact h1)
theorem fs_25 {S : AS} (h : Fix S) {i : Int} (v : Int) (h0 : 0 ≤ i) (h1 : i < 2000) : sI S (some 25) 8 i v = some (wI S 25 i.toNat v) := sI_at (h.kd (by decide)) h0 (by rw [h.ln (by decide)]; exact h1)
theorem fa_26 {S : AS} (h : Fix S) {i : Int} (h0 : 0 ≤ i) (h1 : i < 2000) : aI S (some 26) 8 i = some (hI S 26 i.toNat) := aI_at (h.kd (by decide)) h0 (by rw [h.ln (by decide)]; exact h1)
theorem fs_26 {S : AS} (h : Fix S) {i : Int} (v : Int) (h0 : 0 ≤ i) (h1 : i < 2000) : sI S (some 26) 8 i v = some (wI S 26 i.toNat v) := sI_at (h.kd (by decide)) h0 (by rw [h.ln (by decide)]; exact h1)
theorem fa_27 {S : AS} (h : Fix S) {i : Int} (h0 : 0 ≤ i) (h1 : i < 2000) : aI S (some 27) 8 i = some (hI S 27 i.toNat) := aI_at (h.kd (by decide)) h0 (by rw [h.ln (by decide)]; exact h1)
theorem fs_27 {S : AS} (h : Fix S) {i : Int} (v : Int) (h0 : 0 ≤ i) (h1 : i < 2000) : sI S (some 27) 8 i v = some (wI S 27 i.toNat v) := sI_at (h.kd (by decide)) h0 (by rw [h.ln (by decide)]; exact h1)
theorem fa_28 {S : AS} (h : Fix S) {i : Int} (h0 : 0 ≤ i) (h1 : i < 2001) : aI S (some 28) 8 i = some (hI S 28 i.toNat) := aI_at (h.kd (by decide)) h0 (by rw [h.ln (by decide)]; exact h1)
theorem fs_28 {S : AS} (h : Fix S) {i : Int} (v : Int) (h0 : 0 ≤ i) (h1 : i < 2001) : sI S (some 28) 8 i v = some (wI S 28 i.toNat v) := sI_at (h.kd (by decide)) h0 (by rw [h.ln (by decide)]; exact h1)
theorem fa_29 {S : AS} (h : Fix S) {i : Int} (h0 : 0 ≤ i) (h1 : i < 65) : aI S (some 29) 8 i = some (hI S 29 i.toNat) := aI_at (h.kd (by decide)) h0 (by rw [h.ln (by decide)]; exact h1)
theorem fs_29 {S : AS} (h : Fix S) {i : Int} (v : Int) (h0 : 0 ≤ i) (h1 : i < 65) : sI S (some 29) 8 i v = some (wI S 29 i.toNat v) := sI_at (h.kd (by decide)) h0 (by rw [h.ln (by decide)]; exact h1)
theorem fa_30 {S : AS} (h : Fix S) {i : Int} (h0 : 0 ≤ i) (h1 : i < 65) : aI S (some 30) 8 i = some (hI S 30 i.toNat) := aI_at (h.kd (by decide)) h0 (by rw [h.ln (by decide)]; exact h1)
theorem fs_30 {S : AS} (h : Fix S) {i : Int} (v : Int) (h0 : 0 ≤ i) (h1 : i < 65) : sI S (some 30) 8 i v = some (wI S 30 i.toNat v) := sI_at (h.kd (by decide)) h0 (by rw [h.ln (by decide)]; exact h1)
theorem fa_31 {S : AS} (h : Fix S) {i : Int} (h0 : 0 ≤ i) (h1 : i < 30) : aI S (some 31) 8 i = some (hI S 31 i.toNat) := aI_at (h.kd (by decide)) h0 (by rw [h.ln (by decide)]; exact h1)
theorem fs_31 {S : AS} (h : Fix S) {i : Int} (v : Int) (h0 : 0 ≤ i) (h1 : i < 30) : sI S (some 31) 8 i v = some (wI S 31 i.toNat v) := sI_at (h.kd (by decide)) h0 (by rw [h.ln (by decide)]; exact h1)
theorem fa_32 {S : AS} (h : Fix S) {i : Int} (h0 : 0 ≤ i) (h1 : i < 30) : aI S (some 32) 8 i = some (hI S 32 i.toNat) := aI_at (h.kd (by decide)) h0 (by rw [h.ln (by decide)]; exact h1)
theorem fs_32 {S : AS} (h : Fix S) {i : Int} (v : Int) (h0 : 0 ≤ i) (h1 : i < 30) : sI S (some 32) 8 i v = some (wI S 32 i.toNat v) := sI_at (h.kd (by decide)) h0 (by rw [h.ln (by decide)]; exact h1)
theorem fa_33 {S : AS} (h : Fix S) {i : Int} (h0 : 0 ≤ i) (h1 : i < 3001) : aI S (some 33) 8 i = some (hI S 33 i.toNat) := aI_at (h.kd (by decide)) h0 (by rw [h.ln (by decide)]; exact h1)
theorem fs_33 {S : AS} (h : Fix S) {i : Int} (v : Int) (h0 : 0 ≤ i) (h1 : i < 3001) : sI S (some 33) 8 i v = some (wI S 33 i.toNat v) := sI_at (h.kd (by decide)) h0 (by rw [h.ln (by decide)]; exact h1)
theorem fa_34 {S : AS} (h : Fix S) {i : Int} (h0 : 0 ≤ i) (h1 : i < 3001) : aI S (some 34) 8 i = some (hI S 34 i.toNat) := aI_at (h.kd (by decide)) h0 (by rw [h.ln (by decide)]; exact h1)
theorem fs_34 {S : AS} (h : Fix S) {i : Int} (v : Int) (h0 : 0 ≤ i) (h1 : i < 3001) : sI S (some 34) 8 i v = some (wI S 34 i.toNat v) := sI_at (h.kd (by decide)) h0 (by rw [h.ln (by decide)]; exact h1)
theorem fa_35 {S : AS} (h : Fix S) {i : Int} (h0 : 0 ≤ i) (h1 : i < 576) : aI S (some 35) 9 i = some (hI S 35 i.toNat) := aI_at (h.kd (by decide)) h0 (by rw [h.ln (by decide)]; exact h1)
theorem fs_35 {S : AS} (h : Fix S) {i v : Int} (hv : v = 0 ∨ v = 1) (h0 : 0 ≤ i) (h1 : i < 576) : sZ S (some 35) i v = some (wI S 35 i.toNat v) := sZ_at (h.kd (by decide)) h0 (by rw [h.ln (by decide)]; exact h1) hv
theorem fa_36 {S : AS} (h : Fix S) {i : Int} (h0 : 0 ≤ i) (h1 : i < 24) : aI S (some 36) 8 i = some (hI S 36 i.toNat) := aI_at (h.kd (by decide)) h0 (by rw [h.ln (by decide)]; exact h1)
theorem fs_36 {S : AS} (h : Fix S) {i : Int} (v : Int) (h0 : 0 ≤ i) (h1 : i < 24) : sI S (some 36) 8 i v = some (wI S 36 i.toNat v) := sI_at (h.kd (by decide)) h0 (by rw [h.ln (by decide)]; exact h1)
theorem fa_37 {S : AS} (h : Fix S) {i : Int} (h0 : 0 ≤ i) (h1 : i < 24) : aI S (some 37) 8 i = some (hI S 37 i.toNat) := aI_at (h.kd (by decide)) h0 (by rw [h.ln (by decide)]; exact h1)
theorem fs_37 {S : AS} (h : Fix S) {i : Int} (v : Int) (h0 : 0 ≤ i) (h1 : i < 24) : sI S (some 37) 8 i v = some (wI S 37 i.toNat v) := sI_at (h.kd (by decide)) h0 (by rw [h.ln (by decide)]; exact h1)
theorem fa_38 {S : AS} (h : Fix S) {i : Int} (h0 : 0 ≤ i) (h1 : i < 1) : aI S (some 38) 13 i = some (hI S 38 i.toNat) := aI_at (h.kd (by decide)) h0 (by rw [h.ln (by decide)]; exact h1)
theorem fs_38 {S : AS} (h : Fix S) {i : Int} (v : Int) (h0 : 0 ≤ i) (h1 : i < 1) : sI S (some 38) 13 i v = some (wI S 38 i.toNat v) := sI_at (h.kd (by decide)) h0 (by rw [h.ln (by decide)]; exact h1)
