/-! THE SHAPE of the class: 33 cells by roles: 0 the object, 1 its Shelves, 2 strips, 3 kept, 4 refusals, 5 bodies, 6 keys, 7 times, 8 rings, 9 the Reader, 10 the Leaves, 11 draft, 12 codes, 13 from, 14 counts, 15 placeOf, 16 leafAt, 17 + j a Shelf, 25 + j its cells -/
def cKD (i : Nat) : Nat := [11, 15, 16, 16, 13, 13, 13, 13, 13, 5, 3, 16, 13, 13, 13, 13, 13, 7, 7, 7, 7, 7, 7, 7, 7, 14, 14, 14, 14, 14, 14, 14, 14].getD i 0
def cLN (i : Nat) : Nat := [0, 8, 8, 8, 8, 20, 8192, 8192, 31, 0, 0, 8, 2100, 9, 9, 8, 8, 0, 0, 0, 0, 0, 0, 0, 0, 160, 160, 160, 160, 160, 160, 160, 160].getD i 0
def cPT : List (Nat × Nat × Nat) := [(1100, 0, 1), (1101, 0, 2), (1102, 0, 3), (1103, 0, 4), (1104, 0, 5), (1105, 0, 6), (1106, 0, 7), (1107, 0, 8), (1108, 0, 9), (1109, 0, 10), (500, 9, 11), (300, 10, 12), (301, 10, 13), (302, 10, 14), (303, 10, 15), (304, 10, 16)]
def ShC (S : zS) (r : Nat → Nat) : Prop := (∀ i j, i < 33 → j < 33 → r i = r j → i = j) ∧ (∀ i, i < 33 → r i ∈ zL S ∧ zK S (r i) = cKD i ∧ (12 < cKD i → zN S (r i) = cLN i)) ∧ (∀ k, k < 16 → ∀ t, cPT[k]? = some t → zQ S t.1 (r t.2.1) = some (r t.2.2)) ∧ (∀ j, j < 8 → zR S (r 1) j = some (r (17 + j)) ∧ zQ S 700 (r (17 + j)) = some (r (25 + j)))
theorem cL {S : zS} {r : Nat → Nat} (h : ShC S r) (i : Nat) (hi : i < 33 := by decide) : r i ∈ zL S := (h.2.1 i hi).1
theorem cK {S : zS} {r : Nat → Nat} (h : ShC S r) (i : Nat) (hi : i < 33 := by decide) : zK S (r i) = cKD i := (h.2.1 i hi).2.1
theorem cN {S : zS} {r : Nat → Nat} (h : ShC S r) (i : Nat) (hi : i < 33 := by decide) (hz : 12 < cKD i := by decide) : zN S (r i) = cLN i := (h.2.1 i hi).2.2 hz
theorem cPk {S : zS} {r : Nat → Nat} (h : ShC S r) (k : Nat) {t : Nat × Nat × Nat} (hk : k < 16) (ht : cPT[k]? = some t) : zQ S t.1 (r t.2.1) = some (r t.2.2) := h.2.2.1 k hk t ht
theorem cP {S : zS} {r : Nat → Nat} (h : ShC S r) (k : Nat) (hk : k < 16 := by decide) : zQ S (cPT.getD k (0, 0, 0)).1 (r (cPT.getD k (0, 0, 0)).2.1) = some (r (cPT.getD k (0, 0, 0)).2.2) := by
  have e : cPT[k]? = some (cPT.getD k (0, 0, 0)) := by
    have hl : k < cPT.length := hk
    rw [List.getD_eq_getElem?_getD, List.getElem?_eq_getElem hl]; rfl
  exact h.2.2.1 k hk _ e
theorem cSh {S : zS} {r : Nat → Nat} (h : ShC S r) (j : Nat) (hj : j < 8) : zR S (r 1) j = some (r (17 + j)) := (h.2.2.2 j hj).1
theorem cCe {S : zS} {r : Nat → Nat} (h : ShC S r) (j : Nat) (hj : j < 8) : zQ S 700 (r (17 + j)) = some (r (25 + j)) := (h.2.2.2 j hj).2
theorem cKs : ∀ j, j < 8 → cKD (17 + j) = 7 ∧ cKD (25 + j) = 14 ∧ cLN (25 + j) = 160 := by decide
theorem cKS {S : zS} {r : Nat → Nat} (h : ShC S r) (j : Nat) (hj : j < 8) : zK S (r (17 + j)) = 7 := (cK h (17 + j) (by omega)).trans (cKs j hj).1
theorem cKC {S : zS} {r : Nat → Nat} (h : ShC S r) (j : Nat) (hj : j < 8) : zK S (r (25 + j)) = 14 := (cK h (25 + j) (by omega)).trans (cKs j hj).2.1
theorem cNC {S : zS} {r : Nat → Nat} (h : ShC S r) (j : Nat) (hj : j < 8) : zN S (r (25 + j)) = 160 := (cN h (25 + j) (by omega) (by rw [(cKs j hj).2.1]; decide)).trans (cKs j hj).2.2
theorem cNe {S : zS} {r : Nat → Nat} (h : ShC S r) {i j : Nat} (hi : i < 33) (hj : j < 33) (n : i ≠ j) : r i ≠ r j := fun q => n (h.1 i j hi hj q)
/-- the class just made -/
def FrC (S : zS) (r : Nat → Nat) : Prop := zI S 1110 (r 0) = 0 ∧ zI S 1111 (r 0) = -1 ∧ zI S 1112 (r 0) = 0 ∧ (∀ j, j < 8 → zI S 701 (r (17 + j)) = 0 ∧ zI S 702 (r (17 + j)) = -1 ∧ zI S 703 (r (17 + j)) = -1) ∧ zI S 503 (r 9) = -1 ∧ zI S 305 (r 10) = 0 ∧ (∀ i, zA S (r 14) i = 0) ∧ (∀ i, zA S (r 4) i = 0) ∧ (∀ i, zR S (r 2) i = none)
/-! THE SHAPE of the model: 0 the object, f the array of its field f -/
def mF : List Nat := [0, 2, 3, 4, 5, 6, 7, 8, 9, 10, 11, 12, 13, 21, 22, 23, 24, 25, 26, 27, 28, 29, 30, 33, 34, 35, 36, 37, 38, 40, 41, 42, 43, 46, 47, 48, 51, 52, 53]
def mKD (i : Nat) : Nat := [12, 0, 13, 13, 13, 13, 14, 13, 13, 13, 13, 14, 14, 13, 0, 0, 0, 0, 0, 0, 0, 13, 13, 14, 14, 14, 14, 14, 14, 13, 13, 0, 0, 13, 13, 13, 13, 13, 13, 0, 13, 13, 13, 13, 0, 0, 13, 13, 13, 0, 0, 13, 13, 13].getD i 0
def mLN (i : Nat) : Nat := [0, 0, 8, 8, 8, 8, 8, 8, 8, 8, 8, 1280, 160, 19, 0, 0, 0, 0, 0, 0, 0, 25, 25, 8, 8, 41, 41, 41, 41, 41, 41, 0, 0, 4001, 4001, 4001, 4001, 16384, 16384, 0, 3721, 3721, 6, 6, 0, 0, 8, 8, 11136, 0, 0, 64, 64, 20].getD i 0
def ShM (S : zS) (r : Nat → Nat) : Prop := (∀ i j, i ∈ mF → j ∈ mF → r i = r j → i = j) ∧ (∀ i, i ∈ mF → r i ∈ zL S ∧ zK S (r i) = mKD i ∧ (i ≠ 0 → zN S (r i) = mLN i)) ∧ (∀ i, i ∈ mF → i ≠ 0 → zQ S (1200 + i) (r 0) = some (r i))
theorem mL {S : zS} {r : Nat → Nat} (h : ShM S r) (i : Nat) (hi : i ∈ mF := by decide) : r i ∈ zL S := (h.2.1 i hi).1
theorem mK {S : zS} {r : Nat → Nat} (h : ShM S r) (i : Nat) (hi : i ∈ mF := by decide) : zK S (r i) = mKD i := (h.2.1 i hi).2.1
theorem mN {S : zS} {r : Nat → Nat} (h : ShM S r) (i : Nat) (hi : i ∈ mF := by decide) (h0 : i ≠ 0 := by decide) : zN S (r i) = mLN i := (h.2.1 i hi).2.2 h0
theorem mP {S : zS} {r : Nat → Nat} (h : ShM S r) (i : Nat) (hi : i ∈ mF := by decide) (h0 : i ≠ 0 := by decide) : zQ S (1200 + i) (r 0) = some (r i) := h.2.2 i hi h0
theorem mNe {S : zS} {r : Nat → Nat} (h : ShM S r) {i j : Nat} (hi : i ∈ mF) (hj : j ∈ mF) (n : i ≠ j) : r i ≠ r j := fun q => n (h.1 i j hi hj q)
/-- the model just made -/
def FrM (S : zS) (r : Nat → Nat) : Prop := zI S 1200 (r 0) = 0 ∧ zI S 1201 (r 0) = -1 ∧ zI S 1249 (r 0) = 0 ∧ zI S 1254 (r 0) = 0 ∧ zI S 1255 (r 0) = 0 ∧ (∀ i, zA S (r 7) i = 0) ∧ (∀ i, zA S (r 2) i = 0)
theorem zsA_self (S : zS) (a : Nat) : zsA S a (zA S a) = S := by
  have : va_up (zA S) a (zA S a) = zA S := funext fun b => by by_cases h : b = a <;> simp [va_up, h]
  unfold zsA; rw [this]; rfl
section ZT
variable {p : Program} {l : Launch} {e : Env} {R : Room} {s : State} {m : MethodId} {args : Array Value} {below : List Frame} {meth : Method} {c : Code} {H : Heap} {locs : List Loc} {cells slots pc : Nat} {Q : State → Prop} {ls : Array Slot} {rest : List Value}
theorem z_topi {x y : Int32} (h : x = y) (k : W p l e R s m args below meth c H locs cells slots Q (F0 m pc ls (.int y :: rest))) : W p l e R s m args below meth c H locs cells slots Q (F0 m pc ls (.int x :: rest)) := h ▸ k
theorem z_topl {x y : Int64} (h : x = y) (k : W p l e R s m args below meth c H locs cells slots Q (F0 m pc ls (.long y :: rest))) : W p l e R s m args below meth c H locs cells slots Q (F0 m pc ls (.long x :: rest)) := h ▸ k
end ZT
theorem zx_lt (a b : Int32) : a < b ↔ a.toInt < b.toInt := Int32.lt_iff_toInt_lt
theorem zx_le (a b : Int32) : a ≤ b ↔ a.toInt ≤ b.toInt := Int32.le_iff_toInt_le
theorem zx_eq (a b : Int32) : a = b ↔ a.toInt = b.toInt := Int32.toInt_inj.symm
theorem zx_nlt {x : Int32} (h : ¬ x < 0) : 0 ≤ x := by rw [zx_lt] at h; rw [zx_le]; omega
theorem zx_nat {x : Int32} {n : Nat} (h0 : ¬ x < 0) (h : ¬ Int32.ofNat n ≤ x) (hn : n < 2147483648) : x.toNatClampNeg < n := by
  rw [zx_lt] at h0; rw [zx_le] at h
  have e : (Int32.ofNat n).toInt = n := nI_toInt hn
  rw [e] at h
  have z : (0 : Int32).toInt = 0 := rfl
  rw [z] at h0
  have q : x.toNatClampNeg = x.toInt.toNat := rfl
  omega
theorem zx_in {x : Int32} {n : Nat} (h0 : ¬ x < 0) (h : ¬ Int32.ofNat n ≤ x) (hn : n < 2147483648) : vp_in x n := fun q => q.elim h0 (fun q => by have := zx_nat h0 h hn; omega)
theorem zsB_self (S : zS) (a : Nat) : zsB S a (zB S a) = S := by
  have : va_up (zB S) a (zB S a) = zB S := funext fun b => by by_cases h : b = a <;> simp [va_up, h]
  unfold zsB; rw [this]; rfl
theorem va_up2 {α : Type} (f : Nat → α) (a : Nat) (v w : α) : va_up (va_up f a v) a w = va_up f a w := funext fun b => by by_cases h : b = a <;> simp [va_up, h]
theorem zsA_zsA (S : zS) (a : Nat) (f g : Nat → Int32) : zsA (zsA S a f) a g = zsA S a g := by
  show (zL S, zK S, zN S, zI S, zJ S, zQ S, va_up (va_up (zA S) a f) a g, zB S, zR S) = _
  rw [va_up2]; rfl
theorem zsB_zsB (S : zS) (a : Nat) (f g : Nat → Int64) : zsB (zsB S a f) a g = zsB S a g := by
  show (zL S, zK S, zN S, zI S, zJ S, zQ S, zA S, va_up (va_up (zB S) a f) a g, zR S) = _
  rw [va_up2]; rfl
theorem zsA_zsB (S : zS) (a b : Nat) (f : Nat → Int32) (g : Nat → Int64) : zsA (zsB S b g) a f = zsB (zsA S a f) b g := rfl
theorem zA_zsA (S : zS) (a : Nat) (f : Nat → Int32) : zA (zsA S a f) a = f := va_up_self _ _ _
theorem zB_zsB (S : zS) (a : Nat) (f : Nat → Int64) : zB (zsB S a f) a = f := va_up_self _ _ _
theorem zA_ne (S : zS) {a b : Nat} (f : Nat → Int32) (h : b ≠ a) : zA (zsA S a f) b = zA S b := va_up_ne _ _ h
theorem zB_ne (S : zS) {a b : Nat} (f : Nat → Int64) (h : b ≠ a) : zB (zsB S a f) b = zB S b := va_up_ne _ _ h
theorem zn_lt {i N : Int32} {j n : Nat} (ei : i = nI j) (eN : N = nI n) (hj : j < 2147483648) (h : ¬ N ≤ i) : j < n := by
  rcases Nat.lt_or_ge j n with q | q
  · exact q
  · exact absurd (by rw [ei, eN]; exact nI_le q hj) h
theorem zn_ge {i N : Int32} {j n : Nat} (ei : i = nI j) (eN : N = nI n) (hn : n < 2147483648) (h : N ≤ i) : n ≤ j := by
  rcases Nat.lt_or_ge j n with q | q
  · exact absurd (by rw [ei, eN] at h; exact h) (nI_ge q hn)
  · exact q
theorem st_in {x : Int32} (h : ¬ x < 11) (h2 : x ≤ 17) : vp_in (x - 10) 8 := by
  have e11 : (11 : Int32).toInt = 11 := by decide
  have e17 : (17 : Int32).toInt = 17 := by decide
  rw [zx_lt, e11] at h; rw [zx_le, e17] at h2
  have e : (x - 10).toInt = x.toInt - 10 := by
    rw [Int32.toInt_sub, show (10 : Int32).toInt = 10 by decide]
    exact Int.bmod_eq_of_le (by omega) (by omega)
  rw [vp_in_iff]; omega
