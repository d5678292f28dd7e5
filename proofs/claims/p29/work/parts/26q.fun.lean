/-! what page and ends answer, by what is asked; a number of its own for each question -/
def pop (k : Nat) : Nat := k % 2 + k / 2 % 2 + k / 4 % 2 + k / 8 % 2 + k / 16 % 2 + k / 32 % 2 + k / 64 % 2 + k / 128 % 2 + k / 256 % 2 + k / 512 % 2
def cE1 (ones k : Int32) (a : Int32 × Int32) : Int32 × Int32 := (a.1 - (if ones ≤ k then (-1) else 1) * a.2, a.2 + (if ones ≤ k then (-1) else 1) * a.1)
def cE (ones : Int32) : Nat → Int32 × Int32
  | 0 => (1, 0)
  | k + 1 => cE1 ones (nI k) (cE ones k)
def cB (f : Nat) (x y : Int32) (k : Nat) : Bool := decide (cE (nI k) f = (x, y))
def eS1 (p : Bool) (k : Nat) (r : Int32 × Int32) : Int32 × Int32 := if p then (r.1 + 1, if r.1 = 0 then nI k else r.2) else r
def eSt (P : Nat → Bool) : Nat → Int32 × Int32
  | 0 => (0, -1)
  | k + 1 => eS1 (P k) k (eSt P k)
def q_end2 (r : Int32 × Int32) (w : Int32) : Int32 := if w = 0 then r.1 else if r.2 = -1 then -5 else r.2
def q_ends (f x y w : Int32) : Int32 := if w < 0 ∨ ¬ w ≤ 1 then -5 else if f < 1 ∨ ¬ f ≤ 10 then -6 else q_end2 (eSt (fun k => cB f.toNatClampNeg x y (pop k)) (2 ^ f.toNatClampNeg)) w
def cPg : Nat → Int32 × Int32 × Int32 → Int32
  | 0, s => s.1
  | k + 1, s => if nI (2 ^ k) ≤ s.2.2 then cPg k (s.1, s.2.1 * 2, s.2.2 - nI (2 ^ k)) else cPg k (s.2.1 * 2 - 1 - s.1, s.2.1 * 2, nI (2 ^ k) - 1 - s.2.2)
def q_page (f p : Int32) : Int32 := if p < 0 then -5 else if f < 1 ∨ ¬ f ≤ 6 then -6 else if p < nI (2 ^ f.toNatClampNeg) then cPg f.toNatClampNeg (0, 1, p) else -5
def zqA (u : Int) : Int32 := Int32.ofInt (u % 4294967296 - 2147483648)
def zFn (t : Int) : Int :=
  if t % 4 = 0 then (q_page (zqA (t / 4)) (zqA (t / 4 / 4294967296))).toInt
  else if t % 4 = 1 then (q_ends (zqA (t / 4)) (zqA (t / 4 / 4294967296)) (zqA (t / 4 / 4294967296 / 4294967296)) (zqA (t / 4 / 4294967296 / 4294967296 / 4294967296))).toInt
  else 0
theorem zqA_of {x : Int} {r : Int} (h1 : -2147483648 ≤ x) (h2 : x ≤ 2147483647) : zqA (x + 2147483648 + 4294967296 * r) = Int32.ofInt x := by
  unfold zqA
  rw [show (x + 2147483648 + 4294967296 * r) % 4294967296 - 2147483648 = x by omega]
theorem zqD_of {x : Int} {r : Int} (h1 : -2147483648 ≤ x) (h2 : x ≤ 2147483647) : (x + 2147483648 + 4294967296 * r) / 4294967296 = r := by omega
