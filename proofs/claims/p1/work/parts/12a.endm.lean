
def zus (x y : Int32) : Int32 := (x.toUInt32 >>> (y.toUInt32 &&& Int32.toUInt32 31)).toInt32
def bc1 (x : Int32) : Int32 := x - (zus x 1 &&& 1431655765)
def bc2 (x : Int32) : Int32 := (x &&& 858993459) + (zus x 2 &&& 858993459)
def bc3 (x : Int32) : Int32 := (x + zus x 4) &&& 252645135
def bc4 (x : Int32) : Int32 := x + zus x 8
def bc5 (x : Int32) : Int32 := x + zus x 16
def bcM (x : Int32) : Int32 := bc5 (bc4 (bc3 (bc2 (bc1 x)))) &&& 63
def pop (k : Nat) : Nat := k % 2 + k / 2 % 2 + k / 4 % 2 + k / 8 % 2 + k / 16 % 2 + k / 32 % 2 + k / 64 % 2 + k / 128 % 2 + k / 256 % 2 + k / 512 % 2
theorem bcM_t : ∀ a, a < 32 → ∀ b, b < 32 → bcM (nI (32 * a + b)) = nI (pop (32 * a + b)) := by decide +kernel
theorem bcM_pop {k : Nat} (h : k < 1024) : bcM (nI k) = nI (pop k) := by
  have := bcM_t (k / 32) (by omega) (k % 32) (by omega)
  rwa [show 32 * (k / 32) + k % 32 = k by omega] at this
theorem pop_le {k f : Nat} (h : k < 2 ^ f) (hf : f ≤ 10) : pop k ≤ f := by
  unfold pop
  rcases (show f = 0 ∨ f = 1 ∨ f = 2 ∨ f = 3 ∨ f = 4 ∨ f = 5 ∨ f = 6 ∨ f = 7 ∨ f = 8 ∨ f = 9 ∨ f = 10 by omega) with rfl | rfl | rfl | rfl | rfl | rfl | rfl | rfl | rfl | rfl | rfl <;> omega
/-! the class: first all that turn one way, then all that turn the other -/
def cE1 (ones k : Int32) (a : Int32 × Int32) : Int32 × Int32 := (a.1 - (if ones ≤ k then (-1) else 1) * a.2, a.2 + (if ones ≤ k then (-1) else 1) * a.1)
def cE (ones : Int32) : Nat → Int32 × Int32
  | 0 => (1, 0)
  | k + 1 => cE1 ones (nI k) (cE ones k)
def cB (f : Nat) (x y : Int32) (k : Nat) : Bool := decide (cE (nI k) f = (x, y))
def cMk (b : Nat → Bool) : Nat → Int32
  | 0 => 0
  | k + 1 => if b k then cMk b k ||| (1 <<< (nI k &&& 31)) else cMk b k
def nMk (b : Nat → Bool) : Nat → Nat
  | 0 => 0
  | k + 1 => if b k then nMk b k + 2 ^ k else nMk b k
theorem nMk_lt (b : Nat → Bool) : ∀ k, nMk b k < 2 ^ k
  | 0 => by simp [nMk]
  | k + 1 => by
    have := nMk_lt b k
    simp only [nMk, Nat.pow_succ]
    split <;> omega
theorem cMk_a : ∀ k, k < 6 → ∀ m, m < 2 ^ k → nI m ||| (1 <<< (nI k &&& 31)) = nI (m + 2 ^ k) := by decide +kernel
theorem cMk_b : ∀ k, k < 5 → ∀ a, a < 2 ^ (k + 1) → ∀ m, m < 32 → nI (32 * a + m) ||| (1 <<< (nI (6 + k) &&& 31)) = nI (32 * a + m + 2 ^ (6 + k)) := by decide +kernel
theorem cMk_or {k m : Nat} (hk : k < 11) (h : m < 2 ^ k) : nI m ||| (1 <<< (nI k &&& 31)) = nI (m + 2 ^ k) := by
  rcases Nat.lt_or_ge k 6 with q | q
  · exact cMk_a k q m h
  · obtain ⟨j, rfl⟩ : ∃ j, k = 6 + j := ⟨k - 6, by omega⟩
    have e : 2 ^ (6 + j) = 32 * 2 ^ (j + 1) := by rw [show 6 + j = 5 + (j + 1) by omega, Nat.pow_add]
    have := cMk_b j (by omega) (m / 32) (by rw [e] at h; omega) (m % 32) (by omega)
    rwa [show 32 * (m / 32) + m % 32 = m by omega] at this
theorem cMk_n {b : Nat → Bool} : ∀ {n : Nat}, n ≤ 11 → cMk b n = nI (nMk b n)
  | 0, _ => by simp [cMk, nMk, nI_0]
  | n + 1, h => by
    have e := cMk_n (b := b) (n := n) (by omega)
    simp only [cMk, nMk]
    split
    · rw [e, cMk_or (by omega) (nMk_lt b n)]
    · exact e
def nbit (m k : Nat) : Bool := m / 2 ^ k % 2 == 1
theorem sm_t : ∀ k, k < 11 → (((nI k &&& 31) : Int32).toBitVec.smod 32).toNat = k := by decide +kernel
theorem nbit_m {k m : Nat} (hk : k < 11) (h : m < 2048) : ((nI m >>> (nI k &&& 31)) &&& 1 = 1) ↔ nbit m k = true := by
  have hq : m / 2 ^ k < 2048 := Nat.lt_of_le_of_lt (Nat.div_le_self _ _) h
  have e1 : (nI m >>> (nI k &&& 31)) &&& 1 = nI (m / 2 ^ k % 2 ^ 1) := by
    rw [pk_shrN (by omega) _ k (sm_t k hk)]
    exact pk_andN (by omega) 1 (by decide)
  rw [e1]
  unfold nbit
  rw [beq_iff_eq, show (1 : Int32) = nI 1 from rfl, nI_eq (by omega) (by omega)]
theorem nbit_lo {m k : Nat} (h : m < 2 ^ k) : nbit m k = false ∧ nbit (m + 2 ^ k) k = true := by
  unfold nbit
  rw [Nat.div_eq_of_lt h, Nat.add_div_right _ (Nat.two_pow_pos k), Nat.div_eq_of_lt h]
  exact ⟨rfl, rfl⟩
theorem nbit_hi {m k j : Nat} (h : j < k) : nbit (m + 2 ^ k) j = nbit m j := by
  unfold nbit
  obtain ⟨d, rfl⟩ : ∃ d, k = j + (d + 1) := ⟨k - j - 1, by omega⟩
  have e : (m + 2 ^ (j + (d + 1))) / 2 ^ j = m / 2 ^ j + 2 * 2 ^ d := by
    rw [Nat.pow_add, Nat.mul_comm (2 ^ j), Nat.add_mul_div_right _ _ (Nat.two_pow_pos j), Nat.pow_succ, Nat.mul_comm (2 ^ d)]
  rw [e, Nat.add_mul_mod_self_left]
theorem nMk_bit (b : Nat → Bool) : ∀ n k, k < n → nbit (nMk b n) k = b k
  | 0, k, h => absurd h (Nat.not_lt_zero k)
  | n + 1, k, h => by
    have hl := nMk_lt b n
    simp only [nMk]
    rcases Nat.lt_or_ge k n with q | q
    · have := nMk_bit b n k q
      split
      · rw [nbit_hi q]; exact this
      · exact this
    · obtain rfl : k = n := by omega
      split
      · rename_i hb; rw [(nbit_lo hl).2, hb]
      · rename_i hb; rw [(nbit_lo hl).1]; simpa using hb
theorem cMk_bit {b : Nat → Bool} {n k : Nat} (hn : n ≤ 11) (hk : k < n) : ((cMk b n >>> (nI k &&& 31)) &&& 1 = 1) ↔ b k = true := by
  have hl := nMk_lt b n
  have : nMk b n < 2048 := Nat.lt_of_lt_of_le hl (Nat.pow_le_pow_right (n := 2) (by decide) hn)
  rw [cMk_n hn, nbit_m (by omega) this, nMk_bit b n k hk]
theorem cMk_t {b : Nat → Bool} {k : Nat} (h : b k = true) : cMk b (k + 1) = cMk b k ||| (1 <<< (nI k &&& 31)) := by simp only [cMk, h, if_true]
theorem cMk_f {b : Nat → Bool} {k : Nat} (h : ¬ b k = true) : cMk b (k + 1) = cMk b k := by simp only [cMk, if_neg h]
/-! how many, and the first -/
def eS1 (p : Bool) (k : Nat) (r : Int32 × Int32) : Int32 × Int32 := if p then (r.1 + 1, if r.1 = 0 then nI k else r.2) else r
def eSt (P : Nat → Bool) : Nat → Int32 × Int32
  | 0 => (0, -1)
  | k + 1 => eS1 (P k) k (eSt P k)
def q_end2 (r : Int32 × Int32) (w : Int32) : Int32 := if w = 0 then r.1 else if r.2 = -1 then -5 else r.2
def q_ends (f x y w : Int32) : Int32 := if w < 0 ∨ ¬ w ≤ 1 then -5 else if f < 1 ∨ ¬ f ≤ 10 then -6 else q_end2 (eSt (fun k => cB f.toNatClampNeg x y (pop k)) (2 ^ f.toNatClampNeg)) w
theorem q_ends_in {f x y w : Int32} {f0 : Nat} (h1 : ¬ w < 0) (h2 : w ≤ 1) (h3 : ¬ f < 1) (h4 : f ≤ 10) (ef : f = nI f0) (h5 : f0 ≤ 10) : q_ends f x y w = q_end2 (eSt (fun k => cB f0 x y (pop k)) (2 ^ f0)) w := by
  have : f.toNatClampNeg = f0 := by rw [ef]; exact nI_clamp (by omega)
  unfold q_ends
  rw [if_neg (by simp [h1, h2]), if_neg (by simp [h3, h4]), this]
theorem zx_of {x : Int32} {a b : Nat} (h1 : ¬ x < nI a) (h2 : x ≤ nI b) (hb : b < 2 ^ 31) (hab : a < 2 ^ 31) : ∃ j : Nat, a ≤ j ∧ j ≤ b ∧ x = nI j := by
  rw [zx_lt, nI_toInt hab] at h1; rw [zx_le, nI_toInt hb] at h2
  obtain ⟨j, hj, e⟩ := nI_of (x := x) (by rw [zx_lt]; show ¬ x.toInt < 0; omega)
  have := nI_toInt hj
  rw [← e] at this
  exact ⟨j, by omega, by omega, e⟩
theorem shl1 : ∀ f, f < 11 → (1 : Int32) <<< (nI f &&& 31) = nI (2 ^ f) := by decide +kernel
theorem p2_le : ∀ f, f < 11 → 2 ^ f ≤ 1024 := by decide


def tX (x y : Int64) (q : Int32) : Int64 := if q &&& 3 = 0 then x else if q &&& 3 = 1 then -y else if q &&& 3 = 2 then -x else y
def tY (x y : Int64) (q : Int32) : Int64 := if q &&& 3 = 0 then y else if q &&& 3 = 1 then x else if q &&& 3 = 2 then -y else -x
def mT (s k : Int32) : Int32 := if (s >>> (k &&& 31)) &&& 1 = 1 then 1 else -1
def mE1 (t : Int32) (a : Int64 × Int64 × Int64 × Int64 × Int32 × Int32) : Int64 × Int64 × Int64 × Int64 × Int32 × Int32 :=
  (a.1 + tX a.2.2.1 a.2.2.2.1 (a.2.2.2.2.1 + t), a.2.1 + tY a.2.2.1 a.2.2.2.1 (a.2.2.2.2.1 + t), a.1 + tX a.2.2.1 a.2.2.2.1 (a.2.2.2.2.1 - t), a.2.1 + tY a.2.2.1 a.2.2.2.1 (a.2.2.2.2.1 - t), a.2.2.2.2.1 + t + a.2.2.2.2.2, a.2.2.2.2.1 - t + a.2.2.2.2.2)
def mE (s : Int32) : Nat → Int64 × Int64 × Int64 × Int64 × Int32 × Int32
  | 0 => (1, 0, 1, 0, 0, 0)
  | k + 1 => mE1 (mT s (nI k)) (mE s k)


theorem i2l_inj {a b : Int32} : a.toInt64 = b.toInt64 ↔ a = b := by
  rw [← Int64.toInt_inj, ← Int32.toInt_inj, Int32.toInt_toInt64, Int32.toInt_toInt64]
theorem tX0 (x y : Int64) : tX x y 0 = x := by unfold tX; rw [if_pos (by decide)]
theorem tY0 (x y : Int64) : tY x y 0 = y := by unfold tY; rw [if_pos (by decide)]
theorem tX1 (x y : Int64) : tX x y 1 = -y := by unfold tX; rw [if_neg (by decide), if_pos (by decide)]
theorem tY1 (x y : Int64) : tY x y 1 = x := by unfold tY; rw [if_neg (by decide), if_pos (by decide)]
theorem tX2 (x y : Int64) : tX x y 2 = -x := by unfold tX; rw [if_neg (by decide), if_neg (by decide), if_pos (by decide)]
theorem tY2 (x y : Int64) : tY x y 2 = -y := by unfold tY; rw [if_neg (by decide), if_neg (by decide), if_pos (by decide)]
theorem tXm (x y : Int64) : tX x y (-1) = y := by unfold tX; rw [if_neg (by decide), if_neg (by decide), if_neg (by decide)]
theorem tYm (x y : Int64) : tY x y (-1) = -x := by unfold tY; rw [if_neg (by decide), if_neg (by decide), if_neg (by decide)]
theorem tXm2 (x y : Int64) : tX x y (-2) = -x := by unfold tX; rw [if_neg (by decide), if_neg (by decide), if_pos (by decide)]
theorem tYm2 (x y : Int64) : tY x y (-2) = -y := by unfold tY; rw [if_neg (by decide), if_neg (by decide), if_pos (by decide)]
theorem mI_lit {t a : Int32} (ht : t = 1 ∨ t = -1) (ha : a = 0 ∨ a = 1 ∨ a = -1) : a + t + -a = t ∧ a - t + -a = -t := by
  rcases ha with rfl | rfl | rfl <;> rcases ht with rfl | rfl <;> decide
/-- a side's two halves: as the whole turns, so does the half -/
theorem mI_step {t a : Int32} {x y u v : Int64} (ht : t = 1 ∨ t = -1) (ha : a = 0 ∨ a = 1 ∨ a = -1) (h1 : tX u v a = x) (h2 : tY u v a = y) :
    (a + t + -a = t ∧ a - t + -a = -t) ∧ tX (x + tX u v (a - t)) (y + tY u v (a - t)) t = x + tX u v (a + t) ∧ tY (x + tX u v (a - t)) (y + tY u v (a - t)) t = y + tY u v (a + t) ∧ tX u v (a + t) = tX x y t ∧ tY u v (a + t) = tY x y t := by
  subst h1
  subst h2
  have k1 : (0 : Int32) + 1 = 1 := by decide
  have k2 : (0 : Int32) + -1 = -1 := by decide
  have k3 : (1 : Int32) + 1 = 2 := by decide
  have k4 : (1 : Int32) + -1 = 0 := by decide
  have k5 : (-1 : Int32) + 1 = 0 := by decide
  have k6 : (-1 : Int32) + -1 = -2 := by decide
  have j1 : (0 : Int32) - 1 = -1 := by decide
  have j2 : (0 : Int32) - -1 = 1 := by decide
  have j3 : (1 : Int32) - 1 = 0 := by decide
  have j4 : (1 : Int32) - -1 = 2 := by decide
  have j5 : (-1 : Int32) - 1 = -2 := by decide
  have j6 : (-1 : Int32) - -1 = 0 := by decide
  refine ⟨mI_lit ht ha, ?_⟩
  rcases ha with rfl | rfl | rfl <;> rcases ht with rfl | rfl
  · rw [k1, j1]; refine ⟨?_, ?_, ?_, ?_⟩ <;> (try simp only [tX0, tY0, tX1, tY1, tXm, tYm]) <;> (try grind)
  · rw [k2, j2]; refine ⟨?_, ?_, ?_, ?_⟩ <;> (try simp only [tX0, tY0, tX1, tY1, tXm, tYm]) <;> (try grind)
  · rw [k3, j3]; refine ⟨?_, ?_, ?_, ?_⟩ <;> (try simp only [tX0, tY0, tX1, tY1, tX2, tY2]) <;> (try grind)
  · rw [k4, j4]; refine ⟨?_, ?_, ?_, ?_⟩ <;> (try simp only [tX0, tY0, tX1, tY1, tX2, tY2, tXm, tYm]) <;> (try grind)
  · rw [k5, j5]; refine ⟨?_, ?_, ?_, ?_⟩ <;> (try simp only [tX0, tY0, tX1, tY1, tXm2, tYm2, tXm, tYm]) <;> (try grind)
  · rw [k6, j6]; refine ⟨?_, ?_, ?_, ?_⟩ <;> (try simp only [tX0, tY0, tXm2, tYm2, tXm, tYm]) <;> (try grind)
def rP (q : Int64 × Int64) : Int64 × Int64 := (q.1 + -q.2, q.2 + q.1)
def rM (q : Int64 × Int64) : Int64 × Int64 := (q.1 + q.2, q.2 + -q.1)
theorem rPM (q : Int64 × Int64) : rP (rM q) = rM (rP q) := by
  obtain ⟨x, y⟩ := q
  have e1 : (x + y) + -(y + -x) = (x + -y) + (y + x) := by grind
  have e2 : (y + -x) + (x + y) = (y + x) + -(x + -y) := by grind
  exact Prod.ext e1 e2
def gP : Nat → Int64 × Int64
  | 0 => (1, 0)
  | p + 1 => rP (gP p)
def gE (p : Nat) : Nat → Int64 × Int64
  | 0 => gP p
  | z + 1 => rM (gE p z)
theorem gE_p (p : Nat) : ∀ z, rP (gE p z) = gE (p + 1) z
  | 0 => rfl
  | z + 1 => by
    show rP (rM (gE p z)) = rM (gE (p + 1) z)
    rw [rPM, gE_p p z]
theorem gE_t : ∀ p, p < 11 → ∀ z, z < 11 → p + z < 11 → ((cE (nI p) (p + z)).1.toInt64, (cE (nI p) (p + z)).2.toInt64) = gE p z := by decide +kernel
def ct (s : Nat) : Nat → Nat
  | 0 => 0
  | k + 1 => ct s k + s / 2 ^ k % 2
theorem ct_le (s : Nat) : ∀ k, ct s k ≤ k
  | 0 => Nat.le_refl _
  | k + 1 => by
    have := ct_le s k
    have h2 : s / 2 ^ k % 2 < 2 := Nat.mod_lt _ (by decide)
    show ct s k + s / 2 ^ k % 2 ≤ k + 1
    omega
theorem ct_hi {s f : Nat} (hs : s < 2 ^ f) : ∀ k, ct s (f + k) = ct s f
  | 0 => rfl
  | k + 1 => by
    show ct s (f + k) + s / 2 ^ (f + k) % 2 = _
    rw [ct_hi hs k, Nat.div_eq_of_lt (Nat.lt_of_lt_of_le hs (Nat.pow_le_pow_right (by decide) (Nat.le_add_right f k))), Nat.zero_mod]
    rfl
theorem ct_pop (s : Nat) : ct s 10 = pop s := by simp [ct, pop]
theorem mE_inv {s : Nat} (hs : s < 1024) : ∀ k, k ≤ 10 → ∃ (a : Int32) (x y u v : Int64), mE (nI s) k = (x, y, u, v, a, -a) ∧ (a = 0 ∨ a = 1 ∨ a = -1) ∧ tX u v a = x ∧ tY u v a = y ∧ (x, y) = gE (ct s k) (k - ct s k)
  | 0, _ => ⟨0, 1, 0, 1, 0, rfl, Or.inl rfl, tX0 _ _, tY0 _ _, rfl⟩
  | k + 1, hk => by
    obtain ⟨a, x, y, u, v, e, ha, h1, h2, hg⟩ := mE_inv hs k (by omega)
    have hc := ct_le s k
    have hm : ∀ t : Int32, mT (nI s) (nI k) = t → mE (nI s) (k + 1) = (x + tX u v (a + t), y + tY u v (a + t), x + tX u v (a - t), y + tY u v (a - t), a + t + -a, a - t + -a) := fun t et => by
      show mE1 (mT (nI s) (nI k)) (mE (nI s) k) = _
      rw [et, e]; rfl
    have hb : ct s (k + 1) = ct s k + s / 2 ^ k % 2 := rfl
    by_cases q : s / 2 ^ k % 2 = 1
    · have ht : mT (nI s) (nI k) = 1 := by
        unfold mT
        exact if_pos ((nbit_m (by omega) (by omega)).mpr (by unfold nbit; rw [q]; rfl))
      have m := mI_step (Or.inl rfl) ha h1 h2 (t := 1)
      refine ⟨1, _, _, _, _, (hm 1 ht).trans (by rw [m.1.1, m.1.2]), Or.inr (Or.inl rfl), m.2.1, m.2.2.1, ?_⟩
      rw [hb, q, show k + 1 - (ct s k + 1) = k - ct s k by omega, ← gE_p, ← hg, m.2.2.2.1, m.2.2.2.2, tX1, tY1]
      rfl
    · have q0 : s / 2 ^ k % 2 = 0 := by have : s / 2 ^ k % 2 < 2 := Nat.mod_lt _ (by decide); omega
      have ht : mT (nI s) (nI k) = -1 := by
        unfold mT
        exact if_neg (fun z => by have z2 := (nbit_m (by omega) (by omega)).mp z; unfold nbit at z2; rw [q0] at z2; exact absurd z2 (by decide))
      have m := mI_step (Or.inr rfl) ha h1 h2 (t := -1)
      refine ⟨-1, _, _, _, _, (hm (-1) ht).trans (by rw [m.1.1, m.1.2]), Or.inr (Or.inr rfl), m.2.1, m.2.2.1, ?_⟩
      rw [hb, q0, Nat.add_zero, show k + 1 - ct s k = (k - ct s k) + 1 by omega]
      show _ = rM (gE (ct s k) (k - ct s k))
      rw [← hg, m.2.2.2.1, m.2.2.2.2, tXm, tYm]
      rfl
theorem mB_eq {f s : Nat} {x y : Int32} (hf : f ≤ 10) (hs : s < 2 ^ f) : ((mE (nI s) f).1 = x.toInt64 ∧ (mE (nI s) f).2.1 = y.toInt64) ↔ cB f x y (pop s) = true := by
  have h10 : s < 1024 := Nat.lt_of_lt_of_le hs (Nat.pow_le_pow_right (n := 2) (by decide) hf)
  obtain ⟨a, x1, y1, u, v, e, -, -, -, hg⟩ := mE_inv h10 f hf
  have hc := ct_le s f
  have hp : pop s = ct s f := by rw [← ct_pop, ← ct_hi hs (10 - f), show f + (10 - f) = 10 by omega]
  have ht := gE_t (ct s f) (by omega) (f - ct s f) (by omega) (by omega)
  rw [show ct s f + (f - ct s f) = f by omega, ← hg] at ht
  have e1 : x1 = (cE (nI (ct s f)) f).1.toInt64 := (congrArg Prod.fst ht).symm
  have e2 : y1 = (cE (nI (ct s f)) f).2.toInt64 := (congrArg Prod.snd ht).symm
  rw [e]
  show (x1 = x.toInt64 ∧ y1 = y.toInt64) ↔ _
  rw [e1, e2, i2l_inj, i2l_inj, hp, cB, decide_eq_true_eq]
  exact ⟨fun q => Prod.ext q.1 q.2, fun q => ⟨congrArg Prod.fst q, congrArg Prod.snd q⟩⟩
def eM1 (p : Bool) (k : Nat) (r : Int32 × Int32) : Int32 × Int32 := if p then (r.1 + 1, if r.2 = -1 then nI k else r.2) else r
theorem nI_n1 {k : Nat} (h : k < 2 ^ 31) : ¬ nI k = -1 := fun e => by
  have := congrArg Int32.toInt e
  rw [nI_toInt h, show (-1 : Int32).toInt = -1 by decide] at this
  omega
/-- the first is known as the count is -/
theorem eSt_inv {P : Nat → Bool} : ∀ {n : Nat}, n ≤ 2 ^ 30 → ∃ c, c ≤ n ∧ (eSt P n).1 = nI c ∧ ((eSt P n).2 = -1 ↔ c = 0)
  | 0, _ => ⟨0, Nat.le_refl _, rfl, by simp [eSt]⟩
  | n + 1, h => by
    obtain ⟨c, hc, e1, e2⟩ := eSt_inv (P := P) (n := n) (by omega)
    by_cases hp : P n = true
    · refine ⟨c + 1, by omega, ?_, ?_⟩
      · simp only [eSt, eS1, if_pos hp, e1, nI_1]
      · simp only [eSt, eS1, if_pos hp]
        constructor
        · intro q
          by_cases h0 : (eSt P n).1 = 0
          · rw [if_pos h0] at q; exact absurd q (nI_n1 (by omega))
          · rw [if_neg h0] at q
            exact absurd (by rw [e1, e2.1 q]; exact nI_0) h0
        · intro q; omega
    · exact ⟨c, by omega, by simp only [eSt, eS1, if_neg hp, e1], by simp only [eSt, eS1, if_neg hp]; exact e2⟩
theorem eM_eS {P : Nat → Bool} {n : Nat} (h : n ≤ 2 ^ 30) (p : Bool) : eM1 p n (eSt P n) = eS1 p n (eSt P n) := by
  obtain ⟨c, hc, e1, e2⟩ := eSt_inv (P := P) h
  have : (eSt P n).2 = -1 ↔ (eSt P n).1 = 0 := by
    rw [e2, e1]
    constructor
    · rintro rfl; exact nI_0
    · intro q; exact Classical.byContradiction fun z => nI_ne0 (by omega) (by omega) q
  unfold eM1 eS1
  simp only [this]

theorem zsJ_ov {S : zS} {i j a : Nat} {u v w1 w2 : Int64} (h : i ≠ j) : zsJ (zsJ (zsJ (zsJ S i a u) j a v) i a w1) j a w2 = zsJ (zsJ S i a w1) j a w2 := by
  have this : zu2 (zu2 (zu2 (zu2 (zJ S) i a u) j a v) i a w1) j a w2 = zu2 (zu2 (zJ S) i a w1) j a w2 := funext fun k => funext fun b => by
    unfold zu2
    by_cases h1 : k = j
    · subst h1; by_cases h3 : b = a <;> simp [h3, Ne.symm h]
    · by_cases h2 : k = i
      · subst h2; by_cases h3 : b = a <;> simp [h3, h]
      · simp [h1, h2]
  show (zL S, zK S, zN S, zI S, zu2 (zu2 (zu2 (zu2 (zJ S) i a u) j a v) i a w1) j a w2, zQ S, zA S, zB S, zR S) = (zL S, zK S, zN S, zI S, zu2 (zu2 (zJ S) i a w1) j a w2, zQ S, zA S, zB S, zR S)
  rw [this]
theorem zJ_ne {S : zS} {i j a b : Nat} {v : Int64} (h : j ≠ i) : zJ (zsJ S i a v) j b = zJ S j b := zu2_ne (Or.inr h)
theorem zJ_self {S : zS} {i a : Nat} {v : Int64} : zJ (zsJ S i a v) i a = v := zu2_self
theorem zsJ_self {S : zS} {i a : Nat} : zsJ S i a (zJ S i a) = S := by
  have : zu2 (zJ S) i a (zJ S i a) = zJ S := funext fun j => funext fun b => by by_cases h : j = i <;> by_cases h2 : b = a <;> simp [zu2, h, h2]
  unfold zsJ; rw [this]; rfl