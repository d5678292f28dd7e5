/-! what orders and order answer, by what is asked; what is kept of the orders -/
def cdk (P : List Nat) : Nat → Int32
  | 0 => 0
  | k + 1 => cdk P k ||| (nI (P.getD k 0) <<< ((3 * nI k) &&& 31))
def cdI (P : List Nat) : Int32 := cdk P P.length
def q_orders (n : Int32) : Int32 := if n < 1 ∨ ¬ n ≤ 8 then -6 else nI (cG n.toNatClampNeg n.toNatClampNeg []).length
def q_order (n i p : Int32) : Int32 := if i < 0 ∨ p < 0 then -5 else if n < 1 ∨ ¬ n ≤ 8 then -6 else if p < n ∧ i < q_orders n then nI (((cG n.toNatClampNeg n.toNatClampNeg []).getD i.toNatClampNeg []).getD p.toNatClampNeg 0) else -5
def zqA (u : Int) : Int32 := Int32.ofInt (u % 4294967296 - 2147483648)
def zFn (t : Int) : Int :=
  if t % 4 = 2 then (q_orders (zqA (t / 4))).toInt
  else if t % 4 = 3 then (q_order (zqA (t / 4)) (zqA (t / 4 / 4294967296)) (zqA (t / 4 / 4294967296 / 4294967296))).toInt
  else 0
theorem zqA_of {x : Int} {r : Int} (h1 : -2147483648 ≤ x) (h2 : x ≤ 2147483647) : zqA (x + 2147483648 + 4294967296 * r) = Int32.ofInt x := by
  unfold zqA
  rw [show (x + 2147483648 + 4294967296 * r) % 4294967296 - 2147483648 = x by omega]
theorem zqD_of {x : Int} {r : Int} (h1 : -2147483648 ≤ x) (h2 : x ≤ 2147483647) : (x + 2147483648 + 4294967296 * r) / 4294967296 = r := by omega
def lGn (n : Nat) : Nat := (cG n n []).length
def ltm (f : Nat → Int) (k : Nat) : Int := if f k = 0 then 0 else (lGn k : Int)
def lSum (f : Nat → Int) : Nat → Int
  | 0 => 0
  | k + 1 => lSum f k + ltm f (k + 1)
/-- one side: of which numbers of leaves the orders are kept, from where on, which -/
def LIs (f fr cd : Nat → Int) (cc : Int) : Prop := cc = lSum f 8 ∧ ∀ n, 1 ≤ n → n ≤ 8 → f n = 0 ∨ (f n = (lGn n : Int) ∧ 0 ≤ fr n ∧ fr n + (lGn n : Int) ≤ cc ∧ ∀ i, i < lGn n → cd ((fr n).toNat + i) = (cdI ((cG n n []).getD i [])).toInt)
/-- the other side: of which number of leaves the orders stand there -/
def MIs (fo fm : Int) (fd : Nat → Int) : Prop := fo = 0 ∨ ∃ n : Nat, 1 ≤ n ∧ n ≤ 8 ∧ fo = (n : Int) ∧ fm = (lGn n : Int) ∧ ∀ i, i < lGn n → ∀ k, k < n → fd (8 * i + k) = ((((cG n n []).getD i []).getD k 0 : Nat) : Int)
theorem lSum_0 {f : Nat → Int} (h : ∀ n, f n = 0) : ∀ k, lSum f k = 0
  | 0 => rfl
  | k + 1 => by
    show lSum f k + ltm f (k + 1) = 0
    rw [lSum_0 h k]
    unfold ltm
    rw [if_pos (h _)]
    rfl
theorem ltm_b {f : Nat → Int} {k : Nat} : 0 ≤ ltm f k ∧ ltm f k ≤ (lGn k : Int) := by
  unfold ltm
  split <;> omega
theorem lSum_up {f f' : Nat → Int} {n : Nat} (ho : ∀ m, m ≠ n → f' m = f m) (h0 : f n = 0) (h1 : f' n ≠ 0) : ∀ k, lSum f' k = lSum f k + (if 1 ≤ n ∧ n ≤ k then (lGn n : Int) else 0)
  | 0 => by
    rw [if_neg (by omega)]
    rfl
  | k + 1 => by
    show lSum f' k + ltm f' (k + 1) = lSum f k + ltm f (k + 1) + _
    rw [lSum_up ho h0 h1 k]
    by_cases q : k + 1 = n
    · subst q
      have e1 : ltm f' (k + 1) = (lGn (k + 1) : Int) := if_neg h1
      have e2 : ltm f (k + 1) = 0 := if_pos h0
      rw [e1, e2, if_neg (by omega), if_pos (by omega)]
    · have e1 : ltm f' (k + 1) = ltm f (k + 1) := by
        unfold ltm
        rw [ho (k + 1) q]
      rw [e1]
      by_cases z : 1 ≤ n ∧ n ≤ k
      · rw [if_pos z, if_pos (by omega)]
        omega
      · rw [if_neg z, if_neg (by omega)]
        omega
