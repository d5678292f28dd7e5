/-! by hand: ends, by what is asked alone -/
def zus (x y : Int32) : Int32 := (x.toUInt32 >>> (y.toUInt32 &&& Int32.toUInt32 31)).toInt32
def bc1 (x : Int32) : Int32 := x - (zus x 1 &&& 1431655765)
def bc2 (x : Int32) : Int32 := (x &&& 858993459) + (zus x 2 &&& 858993459)
def bc3 (x : Int32) : Int32 := (x + zus x 4) &&& 252645135
def bc4 (x : Int32) : Int32 := x + zus x 8
def bc5 (x : Int32) : Int32 := x + zus x 16
def bcM (x : Int32) : Int32 := bc5 (bc4 (bc3 (bc2 (bc1 x)))) &&& 63
theorem bcM_t : ∀ a, a < 32 → ∀ b, b < 32 → bcM (nI (32 * a + b)) = nI (pop (32 * a + b)) := by decide +kernel
theorem bcM_pop {k : Nat} (h : k < 1024) : bcM (nI k) = nI (pop k) := by
  have := bcM_t (k / 32) (by omega) (k % 32) (by omega)
  rwa [show 32 * (k / 32) + k % 32 = k by omega] at this
theorem pop_le {k f : Nat} (h : k < 2 ^ f) (hf : f ≤ 10) : pop k ≤ f := by
  unfold pop
  rcases (show f = 0 ∨ f = 1 ∨ f = 2 ∨ f = 3 ∨ f = 4 ∨ f = 5 ∨ f = 6 ∨ f = 7 ∨ f = 8 ∨ f = 9 ∨ f = 10 by omega) with rfl | rfl | rfl | rfl | rfl | rfl | rfl | rfl | rfl | rfl | rfl <;> omega
def cMk (b : Nat → Bool) : Nat → Int32
  | 0 => 0
  | k + 1 => if b k then cMk b k ||| (1 <<< (nI k &&& 31)) else cMk b k
def nMk (b : Nat → Bool) : Nat → Nat
  | 0 => 0
  | k + 1 => if b k then nMk b k + 2 ^ k else nMk b k
theorem nMk_lt (b : Nat → Bool) : ∀ k, nMk b k < 2 ^ k
  | 0 => by simp [nMk]
  | k + 1 => by
    have := nMk_lt b k
    simp only [nMk, Nat.pow_succ]
    split <;> omega
theorem cMk_a : ∀ k, k < 6 → ∀ m, m < 2 ^ k → nI m ||| (1 <<< (nI k &&& 31)) = nI (m + 2 ^ k) := by decide +kernel
theorem cMk_b : ∀ k, k < 5 → ∀ a, a < 2 ^ (k + 1) → ∀ m, m < 32 → nI (32 * a + m) ||| (1 <<< (nI (6 + k) &&& 31)) = nI (32 * a + m + 2 ^ (6 + k)) := by decide +kernel
theorem cMk_or {k m : Nat} (hk : k < 11) (h : m < 2 ^ k) : nI m ||| (1 <<< (nI k &&& 31)) = nI (m + 2 ^ k) := by
  rcases Nat.lt_or_ge k 6 with q | q
  · exact cMk_a k q m h
  · obtain ⟨j, rfl⟩ : ∃ j, k = 6 + j := ⟨k - 6, by omega⟩
    have e : 2 ^ (6 + j) = 32 * 2 ^ (j + 1) := by rw [show 6 + j = 5 + (j + 1) by omega, Nat.pow_add]
    have := cMk_b j (by omega) (m / 32) (by rw [e] at h; omega) (m % 32) (by omega)
    rwa [show 32 * (m / 32) + m % 32 = m by omega] at this
theorem cMk_n {b : Nat → Bool} : ∀ {n : Nat}, n ≤ 11 → cMk b n = nI (nMk b n)
  | 0, _ => by simp [cMk, nMk, nI_0]
  | n + 1, h => by
    have e := cMk_n (b := b) (n := n) (by omega)
    simp only [cMk, nMk]
    split
    · rw [e, cMk_or (by omega) (nMk_lt b n)]
    · exact e
theorem sm_t : ∀ k, k < 11 → (((nI k &&& 31) : Int32).toBitVec.smod 32).toNat = k := by decide +kernel
theorem nbit_m {k m : Nat} (hk : k < 11) (h : m < 2048) : ((nI m >>> (nI k &&& 31)) &&& 1 = 1) ↔ nbit m k = true := by
  have hq : m / 2 ^ k < 2048 := Nat.lt_of_le_of_lt (Nat.div_le_self _ _) h
  have e1 : (nI m >>> (nI k &&& 31)) &&& 1 = nI (m / 2 ^ k % 2 ^ 1) := by
    rw [pk_shrN (by omega) _ k (sm_t k hk)]
    exact pk_andN (by omega) 1 (by decide)
  rw [e1]
  unfold nbit
  rw [beq_iff_eq, show (1 : Int32) = nI 1 from rfl, nI_eq (by omega) (by omega)]
theorem nbit_lo {m k : Nat} (h : m < 2 ^ k) : nbit m k = false ∧ nbit (m + 2 ^ k) k = true := by
  unfold nbit
  rw [Nat.div_eq_of_lt h, Nat.add_div_right _ (Nat.two_pow_pos k), Nat.div_eq_of_lt h]
  exact ⟨rfl, rfl⟩
theorem nbit_hi {m k j : Nat} (h : j < k) : nbit (m + 2 ^ k) j = nbit m j := by
  unfold nbit
  obtain ⟨d, rfl⟩ : ∃ d, k = j + (d + 1) := ⟨k - j - 1, by omega⟩
  have e : (m + 2 ^ (j + (d + 1))) / 2 ^ j = m / 2 ^ j + 2 * 2 ^ d := by
    rw [Nat.pow_add, Nat.mul_comm (2 ^ j), Nat.add_mul_div_right _ _ (Nat.two_pow_pos j), Nat.pow_succ, Nat.mul_comm (2 ^ d)]
  rw [e, Nat.add_mul_mod_self_left]
theorem nMk_bit (b : Nat → Bool) : ∀ n k, k < n → nbit (nMk b n) k = b k
  | 0, k, h => absurd h (Nat.not_lt_zero k)
  | n + 1, k, h => by
    have hl := nMk_lt b n
    simp only [nMk]
    rcases Nat.lt_or_ge k n with q | q
    · have := nMk_bit b n k q
      split
      · rw [nbit_hi q]; exact this
      · exact this
    · obtain rfl : k = n := by omega
      split
      · rename_i hb; rw [(nbit_lo hl).2, hb]
      · rename_i hb; rw [(nbit_lo hl).1]; simpa using hb
theorem cMk_bit {b : Nat → Bool} {n k : Nat} (hn : n ≤ 11) (hk : k < n) : ((cMk b n >>> (nI k &&& 31)) &&& 1 = 1) ↔ b k = true := by
  have hl := nMk_lt b n
  have : nMk b n < 2048 := Nat.lt_of_lt_of_le hl (Nat.pow_le_pow_right (n := 2) (by decide) hn)
  rw [cMk_n hn, nbit_m (by omega) this, nMk_bit b n k hk]
theorem cMk_t {b : Nat → Bool} {k : Nat} (h : b k = true) : cMk b (k + 1) = cMk b k ||| (1 <<< (nI k &&& 31)) := by simp only [cMk, h, if_true]
theorem cMk_f {b : Nat → Bool} {k : Nat} (h : ¬ b k = true) : cMk b (k + 1) = cMk b k := by simp only [cMk, if_neg h]
theorem q_ends_in {f x y w : Int32} {f0 : Nat} (h1 : ¬ w < 0) (h2 : w ≤ 1) (h3 : ¬ f < 1) (h4 : f ≤ 10) (ef : f = nI f0) (h5 : f0 ≤ 10) : q_ends f x y w = q_end2 (eSt (fun k => cB f0 x y (pop k)) (2 ^ f0)) w := by
  have : f.toNatClampNeg = f0 := by rw [ef]; exact nI_clamp (by omega)
  unfold q_ends
  rw [if_neg (by simp [h1, h2]), if_neg (by simp [h3, h4]), this]
theorem p2_le : ∀ f, f < 11 → 2 ^ f ≤ 1024 := by decide
def tX (x y : Int64) (q : Int32) : Int64 := if q &&& 3 = 0 then x else if q &&& 3 = 1 then -y else if q &&& 3 = 2 then -x else y
def tY (x y : Int64) (q : Int32) : Int64 := if q &&& 3 = 0 then y else if q &&& 3 = 1 then x else if q &&& 3 = 2 then -y else -x
def mT (s k : Int32) : Int32 := if (s >>> (k &&& 31)) &&& 1 = 1 then 1 else -1
def mE1 (t : Int32) (a : Int64 × Int64 × Int64 × Int64 × Int32 × Int32) : Int64 × Int64 × Int64 × Int64 × Int32 × Int32 :=
  (a.1 + tX a.2.2.1 a.2.2.2.1 (a.2.2.2.2.1 + t), a.2.1 + tY a.2.2.1 a.2.2.2.1 (a.2.2.2.2.1 + t), a.1 + tX a.2.2.1 a.2.2.2.1 (a.2.2.2.2.1 - t), a.2.1 + tY a.2.2.1 a.2.2.2.1 (a.2.2.2.2.1 - t), a.2.2.2.2.1 + t + a.2.2.2.2.2, a.2.2.2.2.1 - t + a.2.2.2.2.2)
def mE (s : Int32) : Nat → Int64 × Int64 × Int64 × Int64 × Int32 × Int32
  | 0 => (1, 0, 1, 0, 0, 0)
  | k + 1 => mE1 (mT s (nI k)) (mE s k)
theorem i2l_inj {a b : Int32} : a.toInt64 = b.toInt64 ↔ a = b := by
  rw [← Int64.toInt_inj, ← Int32.toInt_inj, Int32.toInt_toInt64, Int32.toInt_toInt64]
theorem tX0 (x y : Int64) : tX x y 0 = x := by unfold tX; rw [if_pos (by decide)]
theorem tY0 (x y : Int64) : tY x y 0 = y := by unfold tY; rw [if_pos (by decide)]
theorem tX1 (x y : Int64) : tX x y 1 = -y := by unfold tX; rw [if_neg (by decide), if_pos (by decide)]
theorem tY1 (x y : Int64) : tY x y 1 = x := by unfold tY; rw [if_neg (by decide), if_pos (by decide)]
theorem tX2 (x y : Int64) : tX x y 2 = -x := by unfold tX; rw [if_neg (by decide), if_neg (by decide), if_pos (by decide)]
theorem tY2 (x y : Int64) : tY x y 2 = -y := by unfold tY; rw [if_neg (by decide), if_neg (by decide), if_pos (by decide)]
theorem tXm (x y : Int64) : tX x y (-1) = y := by unfold tX; rw [if_neg (by decide), if_neg (by decide), if_neg (by decide)]
theorem tYm (x y : Int64) : tY x y (-1) = -x := by unfold tY; rw [if_neg (by decide), if_neg (by decide), if_neg (by decide)]
theorem tXm2 (x y : Int64) : tX x y (-2) = -x := by unfold tX; rw [if_neg (by decide), if_neg (by decide), if_pos (by decide)]
theorem tYm2 (x y : Int64) : tY x y (-2) = -y := by unfold tY; rw [if_neg (by decide), if_neg (by decide), if_pos (by decide)]
theorem mI_lit {t a : Int32} (ht : t = 1 ∨ t = -1) (ha : a = 0 ∨ a = 1 ∨ a = -1) : a + t + -a = t ∧ a - t + -a = -t := by
  rcases ha with rfl | rfl | rfl <;> rcases ht with rfl | rfl <;> decide
/-- a side's two halves: as the whole turns, so does the half -/
theorem mI_step {t a : Int32} {x y u v : Int64} (ht : t = 1 ∨ t = -1) (ha : a = 0 ∨ a = 1 ∨ a = -1) (h1 : tX u v a = x) (h2 : tY u v a = y) :
    (a + t + -a = t ∧ a - t + -a = -t) ∧ tX (x + tX u v (a - t)) (y + tY u v (a - t)) t = x + tX u v (a + t) ∧ tY (x + tX u v (a - t)) (y + tY u v (a - t)) t = y + tY u v (a + t) ∧ tX u v (a + t) = tX x y t ∧ tY u v (a + t) = tY x y t := by
  subst h1
  subst h2
  have k1 : (0 : Int32) + 1 = 1 := by decide
  have k2 : (0 : Int32) + -1 = -1 := by decide
  have k3 : (1 : Int32) + 1 = 2 := by decide
  have k4 : (1 : Int32) + -1 = 0 := by decide
  have k5 : (-1 : Int32) + 1 = 0 := by decide
  have k6 : (-1 : Int32) + -1 = -2 := by decide
  have j1 : (0 : Int32) - 1 = -1 := by decide
  have j2 : (0 : Int32) - -1 = 1 := by decide
  have j3 : (1 : Int32) - 1 = 0 := by decide
  have j4 : (1 : Int32) - -1 = 2 := by decide
  have j5 : (-1 : Int32) - 1 = -2 := by decide
  have j6 : (-1 : Int32) - -1 = 0 := by decide
  refine ⟨mI_lit ht ha, ?_⟩
  rcases ha with rfl | rfl | rfl <;> rcases ht with rfl | rfl
  · rw [k1, j1]; refine ⟨?_, ?_, ?_, ?_⟩ <;> (try simp only [tX0, tY0, tX1, tY1, tXm, tYm]) <;> (try grind)
  · rw [k2, j2]; refine ⟨?_, ?_, ?_, ?_⟩ <;> (try simp only [tX0, tY0, tX1, tY1, tXm, tYm]) <;> (try grind)
  · rw [k3, j3]; refine ⟨?_, ?_, ?_, ?_⟩ <;> (try simp only [tX0, tY0, tX1, tY1, tX2, tY2]) <;> (try grind)
  · rw [k4, j4]; refine ⟨?_, ?_, ?_, ?_⟩ <;> (try simp only [tX0, tY0, tX1, tY1, tX2, tY2, tXm, tYm]) <;> (try grind)
  · rw [k5, j5]; refine ⟨?_, ?_, ?_, ?_⟩ <;> (try simp only [tX0, tY0, tX1, tY1, tXm2, tYm2, tXm, tYm]) <;> (try grind)
  · rw [k6, j6]; refine ⟨?_, ?_, ?_, ?_⟩ <;> (try simp only [tX0, tY0, tXm2, tYm2, tXm, tYm]) <;> (try grind)
def rP (q : Int64 × Int64) : Int64 × Int64 := (q.1 + -q.2, q.2 + q.1)
def rM (q : Int64 × Int64) : Int64 × Int64 := (q.1 + q.2, q.2 + -q.1)
theorem rPM (q : Int64 × Int64) : rP (rM q) = rM (rP q) := by
  obtain ⟨x, y⟩ := q
  have e1 : (x + y) + -(y + -x) = (x + -y) + (y + x) := by grind
  have e2 : (y + -x) + (x + y) = (y + x) + -(x + -y) := by grind
  exact Prod.ext e1 e2
def gP : Nat → Int64 × Int64
  | 0 => (1, 0)
  | p + 1 => rP (gP p)
def gE (p : Nat) : Nat → Int64 × Int64
  | 0 => gP p
  | z + 1 => rM (gE p z)
theorem gE_p (p : Nat) : ∀ z, rP (gE p z) = gE (p + 1) z
  | 0 => rfl
  | z + 1 => by
    show rP (rM (gE p z)) = rM (gE (p + 1) z)
    rw [rPM, gE_p p z]
theorem gE_t : ∀ p, p < 11 → ∀ z, z < 11 → p + z < 11 → ((cE (nI p) (p + z)).1.toInt64, (cE (nI p) (p + z)).2.toInt64) = gE p z := by decide +kernel
def ct (s : Nat) : Nat → Nat
  | 0 => 0
  | k + 1 => ct s k + s / 2 ^ k % 2
theorem ct_le (s : Nat) : ∀ k, ct s k ≤ k
  | 0 => Nat.le_refl _
  | k + 1 => by
    have := ct_le s k
    have h2 : s / 2 ^ k % 2 < 2 := Nat.mod_lt _ (by decide)
    show ct s k + s / 2 ^ k % 2 ≤ k + 1
    omega
theorem ct_hi {s f : Nat} (hs : s < 2 ^ f) : ∀ k, ct s (f + k) = ct s f
  | 0 => rfl
  | k + 1 => by
    show ct s (f + k) + s / 2 ^ (f + k) % 2 = _
    rw [ct_hi hs k, Nat.div_eq_of_lt (Nat.lt_of_lt_of_le hs (Nat.pow_le_pow_right (by decide) (Nat.le_add_right f k))), Nat.zero_mod]
    rfl
theorem ct_pop (s : Nat) : ct s 10 = pop s := by simp [ct, pop]
theorem mE_inv {s : Nat} (hs : s < 1024) : ∀ k, k ≤ 10 → ∃ (a : Int32) (x y u v : Int64), mE (nI s) k = (x, y, u, v, a, -a) ∧ (a = 0 ∨ a = 1 ∨ a = -1) ∧ tX u v a = x ∧ tY u v a = y ∧ (x, y) = gE (ct s k) (k - ct s k)
  | 0, _ => ⟨0, 1, 0, 1, 0, rfl, Or.inl rfl, tX0 _ _, tY0 _ _, rfl⟩
  | k + 1, hk => by
    obtain ⟨a, x, y, u, v, e, ha, h1, h2, hg⟩ := mE_inv hs k (by omega)
    have hc := ct_le s k
    have hm : ∀ t : Int32, mT (nI s) (nI k) = t → mE (nI s) (k + 1) = (x + tX u v (a + t), y + tY u v (a + t), x + tX u v (a - t), y + tY u v (a - t), a + t + -a, a - t + -a) := fun t et => by
      show mE1 (mT (nI s) (nI k)) (mE (nI s) k) = _
      rw [et, e]; rfl
    have hb : ct s (k + 1) = ct s k + s / 2 ^ k % 2 := rfl
    by_cases q : s / 2 ^ k % 2 = 1
    · have ht : mT (nI s) (nI k) = 1 := by
        unfold mT
        exact if_pos ((nbit_m (by omega) (by omega)).mpr (by unfold nbit; rw [q]; rfl))
      have m := mI_step (Or.inl rfl) ha h1 h2 (t := 1)
      refine ⟨1, _, _, _, _, (hm 1 ht).trans (by rw [m.1.1, m.1.2]), Or.inr (Or.inl rfl), m.2.1, m.2.2.1, ?_⟩
      rw [hb, q, show k + 1 - (ct s k + 1) = k - ct s k by omega, ← gE_p, ← hg, m.2.2.2.1, m.2.2.2.2, tX1, tY1]
      rfl
    · have q0 : s / 2 ^ k % 2 = 0 := by have : s / 2 ^ k % 2 < 2 := Nat.mod_lt _ (by decide); omega
      have ht : mT (nI s) (nI k) = -1 := by
        unfold mT
        exact if_neg (fun z => by have z2 := (nbit_m (by omega) (by omega)).mp z; unfold nbit at z2; rw [q0] at z2; exact absurd z2 (by decide))
      have m := mI_step (Or.inr rfl) ha h1 h2 (t := -1)
      refine ⟨-1, _, _, _, _, (hm (-1) ht).trans (by rw [m.1.1, m.1.2]), Or.inr (Or.inr rfl), m.2.1, m.2.2.1, ?_⟩
      rw [hb, q0, Nat.add_zero, show k + 1 - ct s k = (k - ct s k) + 1 by omega]
      show _ = rM (gE (ct s k) (k - ct s k))
      rw [← hg, m.2.2.2.1, m.2.2.2.2, tXm, tYm]
      rfl
theorem mB_eq {f s : Nat} {x y : Int32} (hf : f ≤ 10) (hs : s < 2 ^ f) : ((mE (nI s) f).1 = x.toInt64 ∧ (mE (nI s) f).2.1 = y.toInt64) ↔ cB f x y (pop s) = true := by
  have h10 : s < 1024 := Nat.lt_of_lt_of_le hs (Nat.pow_le_pow_right (n := 2) (by decide) hf)
  obtain ⟨a, x1, y1, u, v, e, -, -, -, hg⟩ := mE_inv h10 f hf
  have hc := ct_le s f
  have hp : pop s = ct s f := by rw [← ct_pop, ← ct_hi hs (10 - f), show f + (10 - f) = 10 by omega]
  have ht := gE_t (ct s f) (by omega) (f - ct s f) (by omega) (by omega)
  rw [show ct s f + (f - ct s f) = f by omega, ← hg] at ht
  have e1 : x1 = (cE (nI (ct s f)) f).1.toInt64 := (congrArg Prod.fst ht).symm
  have e2 : y1 = (cE (nI (ct s f)) f).2.toInt64 := (congrArg Prod.snd ht).symm
  rw [e]
  show (x1 = x.toInt64 ∧ y1 = y.toInt64) ↔ _
  rw [e1, e2, i2l_inj, i2l_inj, hp, cB, decide_eq_true_eq]
  exact ⟨fun q => Prod.ext q.1 q.2, fun q => ⟨congrArg Prod.fst q, congrArg Prod.snd q⟩⟩
def eM1 (p : Bool) (k : Nat) (r : Int32 × Int32) : Int32 × Int32 := if p then (r.1 + 1, if r.2 = -1 then nI k else r.2) else r
theorem nI_n1 {k : Nat} (h : k < 2 ^ 31) : ¬ nI k = -1 := fun e => by
  have := congrArg Int32.toInt e
  rw [nI_toInt h, show (-1 : Int32).toInt = -1 by decide] at this
  omega
/-- the first is known as the count is -/
theorem eSt_inv {P : Nat → Bool} : ∀ {n : Nat}, n ≤ 2 ^ 30 → ∃ c, c ≤ n ∧ (eSt P n).1 = nI c ∧ ((eSt P n).2 = -1 ↔ c = 0)
  | 0, _ => ⟨0, Nat.le_refl _, rfl, by simp [eSt]⟩
  | n + 1, h => by
    obtain ⟨c, hc, e1, e2⟩ := eSt_inv (P := P) (n := n) (by omega)
    by_cases hp : P n = true
    · refine ⟨c + 1, by omega, ?_, ?_⟩
      · simp only [eSt, eS1, if_pos hp, e1, nI_1]
      · simp only [eSt, eS1, if_pos hp]
        constructor
        · intro q
          by_cases h0 : (eSt P n).1 = 0
          · rw [if_pos h0] at q; exact absurd q (nI_n1 (by omega))
          · rw [if_neg h0] at q
            exact absurd (by rw [e1, e2.1 q]; exact nI_0) h0
        · intro q; omega
    · exact ⟨c, by omega, by simp only [eSt, eS1, if_neg hp, e1], by simp only [eSt, eS1, if_neg hp]; exact e2⟩
theorem eM_eS {P : Nat → Bool} {n : Nat} (h : n ≤ 2 ^ 30) (p : Bool) : eM1 p n (eSt P n) = eS1 p n (eSt P n) := by
  obtain ⟨c, hc, e1, e2⟩ := eSt_inv (P := P) h
  have : (eSt P n).2 = -1 ↔ (eSt P n).1 = 0 := by
    rw [e2, e1]
    constructor
    · rintro rfl; exact nI_0
    · intro q; exact Classical.byContradiction fun z => nI_ne0 (by omega) (by omega) q
  unfold eM1 eS1
  simp only [this]
theorem zsJ_ov {S : zS} {i j a : Nat} {u v w1 w2 : Int64} (h : i ≠ j) : zsJ (zsJ (zsJ (zsJ S i a u) j a v) i a w1) j a w2 = zsJ (zsJ S i a w1) j a w2 := by
  have this : zu2 (zu2 (zu2 (zu2 (zJ S) i a u) j a v) i a w1) j a w2 = zu2 (zu2 (zJ S) i a w1) j a w2 := funext fun k => funext fun b => by
    unfold zu2
    by_cases h1 : k = j
    · subst h1; by_cases h3 : b = a <;> simp [h3, Ne.symm h]
    · by_cases h2 : k = i
      · subst h2; by_cases h3 : b = a <;> simp [h3, h]
      · simp [h1, h2]
  show (zL S, zK S, zN S, zI S, zu2 (zu2 (zu2 (zu2 (zJ S) i a u) j a v) i a w1) j a w2, zQ S, zA S, zB S, zR S) = (zL S, zK S, zN S, zI S, zu2 (zu2 (zJ S) i a w1) j a w2, zQ S, zA S, zB S, zR S)
  rw [this]
theorem zJ_ne {S : zS} {i j a b : Nat} {v : Int64} (h : j ≠ i) : zJ (zsJ S i a v) j b = zJ S j b := zu2_ne (Or.inr h)
theorem zJ_self {S : zS} {i a : Nat} {v : Int64} : zJ (zsJ S i a v) i a = v := zu2_self
theorem zsJ_self {S : zS} {i a : Nat} : zsJ S i a (zJ S i a) = S := by
  have : zu2 (zJ S) i a (zJ S i a) = zJ S := funext fun j => funext fun b => by by_cases h : j = i <;> by_cases h2 : b = a <;> simp [zu2, h, h2]
  unfold zsJ; rw [this]; rfl
theorem dJ6_bitCount_0f7a4_0 : decode cJ6_bitCount_0f7a4 0 = .ok (.iload_n 0, 1) := by decide +kernel
theorem dJ6_bitCount_0f7a4_1 : decode cJ6_bitCount_0f7a4 1 = .ok (.iload_n 0, 1) := by decide +kernel
theorem dJ6_bitCount_0f7a4_2 : decode cJ6_bitCount_0f7a4 2 = .ok (.iconst 1, 1) := by decide +kernel
theorem dJ6_bitCount_0f7a4_3 : decode cJ6_bitCount_0f7a4 3 = .ok (.iushr, 1) := by decide +kernel
theorem dJ6_bitCount_0f7a4_4 : decode cJ6_bitCount_0f7a4 4 = .ok (.ldc_w 265, 3) := by decide +kernel
theorem dJ6_bitCount_0f7a4_7 : decode cJ6_bitCount_0f7a4 7 = .ok (.iand, 1) := by decide +kernel
theorem dJ6_bitCount_0f7a4_8 : decode cJ6_bitCount_0f7a4 8 = .ok (.isub, 1) := by decide +kernel
theorem dJ6_bitCount_0f7a4_9 : decode cJ6_bitCount_0f7a4 9 = .ok (.istore_n 0, 1) := by decide +kernel
theorem dJ6_bitCount_0f7a4_10 : decode cJ6_bitCount_0f7a4 10 = .ok (.iload_n 0, 1) := by decide +kernel
theorem dJ6_bitCount_0f7a4_11 : decode cJ6_bitCount_0f7a4 11 = .ok (.ldc_w 266, 3) := by decide +kernel
theorem dJ6_bitCount_0f7a4_14 : decode cJ6_bitCount_0f7a4 14 = .ok (.iand, 1) := by decide +kernel
theorem dJ6_bitCount_0f7a4_15 : decode cJ6_bitCount_0f7a4 15 = .ok (.iload_n 0, 1) := by decide +kernel
theorem dJ6_bitCount_0f7a4_16 : decode cJ6_bitCount_0f7a4 16 = .ok (.iconst 2, 1) := by decide +kernel
theorem dJ6_bitCount_0f7a4_17 : decode cJ6_bitCount_0f7a4 17 = .ok (.iushr, 1) := by decide +kernel
theorem dJ6_bitCount_0f7a4_18 : decode cJ6_bitCount_0f7a4 18 = .ok (.ldc_w 266, 3) := by decide +kernel
theorem dJ6_bitCount_0f7a4_21 : decode cJ6_bitCount_0f7a4 21 = .ok (.iand, 1) := by decide +kernel
theorem dJ6_bitCount_0f7a4_22 : decode cJ6_bitCount_0f7a4 22 = .ok (.iadd, 1) := by decide +kernel
theorem dJ6_bitCount_0f7a4_23 : decode cJ6_bitCount_0f7a4 23 = .ok (.istore_n 0, 1) := by decide +kernel
theorem dJ6_bitCount_0f7a4_24 : decode cJ6_bitCount_0f7a4 24 = .ok (.iload_n 0, 1) := by decide +kernel
theorem dJ6_bitCount_0f7a4_25 : decode cJ6_bitCount_0f7a4 25 = .ok (.iload_n 0, 1) := by decide +kernel
theorem dJ6_bitCount_0f7a4_26 : decode cJ6_bitCount_0f7a4 26 = .ok (.iconst 4, 1) := by decide +kernel
theorem dJ6_bitCount_0f7a4_27 : decode cJ6_bitCount_0f7a4 27 = .ok (.iushr, 1) := by decide +kernel
theorem dJ6_bitCount_0f7a4_28 : decode cJ6_bitCount_0f7a4 28 = .ok (.iadd, 1) := by decide +kernel
theorem dJ6_bitCount_0f7a4_29 : decode cJ6_bitCount_0f7a4 29 = .ok (.ldc_w 267, 3) := by decide +kernel
theorem dJ6_bitCount_0f7a4_32 : decode cJ6_bitCount_0f7a4 32 = .ok (.iand, 1) := by decide +kernel
theorem dJ6_bitCount_0f7a4_33 : decode cJ6_bitCount_0f7a4 33 = .ok (.istore_n 0, 1) := by decide +kernel
theorem dJ6_bitCount_0f7a4_34 : decode cJ6_bitCount_0f7a4 34 = .ok (.iload_n 0, 1) := by decide +kernel
theorem dJ6_bitCount_0f7a4_35 : decode cJ6_bitCount_0f7a4 35 = .ok (.iload_n 0, 1) := by decide +kernel
theorem dJ6_bitCount_0f7a4_36 : decode cJ6_bitCount_0f7a4 36 = .ok (.bipush 8, 2) := by decide +kernel
theorem dJ6_bitCount_0f7a4_38 : decode cJ6_bitCount_0f7a4 38 = .ok (.iushr, 1) := by decide +kernel
theorem dJ6_bitCount_0f7a4_39 : decode cJ6_bitCount_0f7a4 39 = .ok (.iadd, 1) := by decide +kernel
theorem dJ6_bitCount_0f7a4_40 : decode cJ6_bitCount_0f7a4 40 = .ok (.istore_n 0, 1) := by decide +kernel
theorem dJ6_bitCount_0f7a4_41 : decode cJ6_bitCount_0f7a4 41 = .ok (.iload_n 0, 1) := by decide +kernel
theorem dJ6_bitCount_0f7a4_42 : decode cJ6_bitCount_0f7a4 42 = .ok (.iload_n 0, 1) := by decide +kernel
theorem dJ6_bitCount_0f7a4_43 : decode cJ6_bitCount_0f7a4 43 = .ok (.bipush 16, 2) := by decide +kernel
theorem dJ6_bitCount_0f7a4_45 : decode cJ6_bitCount_0f7a4 45 = .ok (.iushr, 1) := by decide +kernel
theorem dJ6_bitCount_0f7a4_46 : decode cJ6_bitCount_0f7a4 46 = .ok (.iadd, 1) := by decide +kernel
theorem dJ6_bitCount_0f7a4_47 : decode cJ6_bitCount_0f7a4 47 = .ok (.istore_n 0, 1) := by decide +kernel
theorem dJ6_bitCount_0f7a4_48 : decode cJ6_bitCount_0f7a4 48 = .ok (.iload_n 0, 1) := by decide +kernel
theorem dJ6_bitCount_0f7a4_49 : decode cJ6_bitCount_0f7a4 49 = .ok (.bipush 63, 2) := by decide +kernel
theorem dJ6_bitCount_0f7a4_51 : decode cJ6_bitCount_0f7a4 51 = .ok (.iand, 1) := by decide +kernel
theorem dJ6_bitCount_0f7a4_52 : decode cJ6_bitCount_0f7a4 52 = .ok (.ireturn, 1) := by decide +kernel
theorem dX11_endsAt_0 : decode cX11_endsAt 0 = .ok (.iconst 1, 1) := by decide +kernel
theorem dX11_endsAt_1 : decode cX11_endsAt 1 = .ok (.istore 4, 2) := by decide +kernel
theorem dX11_endsAt_3 : decode cX11_endsAt 3 = .ok (.iconst 0, 1) := by decide +kernel
theorem dX11_endsAt_4 : decode cX11_endsAt 4 = .ok (.istore 5, 2) := by decide +kernel
theorem dX11_endsAt_6 : decode cX11_endsAt 6 = .ok (.iconst 0, 1) := by decide +kernel
theorem dX11_endsAt_7 : decode cX11_endsAt 7 = .ok (.istore 6, 2) := by decide +kernel
theorem dX11_endsAt_9 : decode cX11_endsAt 9 = .ok (.iload 6, 2) := by decide +kernel
theorem dX11_endsAt_11 : decode cX11_endsAt 11 = .ok (.iload_n 0, 1) := by decide +kernel
theorem dX11_endsAt_12 : decode cX11_endsAt 12 = .ok (.if_icmp .ge 46, 3) := by decide +kernel
theorem dX11_endsAt_15 : decode cX11_endsAt 15 = .ok (.iload 6, 2) := by decide +kernel
theorem dX11_endsAt_17 : decode cX11_endsAt 17 = .ok (.iload_n 1, 1) := by decide +kernel
theorem dX11_endsAt_18 : decode cX11_endsAt 18 = .ok (.if_icmp .ge 7, 3) := by decide +kernel
theorem dX11_endsAt_21 : decode cX11_endsAt 21 = .ok (.iconst 1, 1) := by decide +kernel
theorem dX11_endsAt_22 : decode cX11_endsAt 22 = .ok (.goto 4, 3) := by decide +kernel
theorem dX11_endsAt_25 : decode cX11_endsAt 25 = .ok (.iconst (-1), 1) := by decide +kernel
theorem dX11_endsAt_26 : decode cX11_endsAt 26 = .ok (.istore 7, 2) := by decide +kernel
theorem dX11_endsAt_28 : decode cX11_endsAt 28 = .ok (.iload 4, 2) := by decide +kernel
theorem dX11_endsAt_30 : decode cX11_endsAt 30 = .ok (.iload 7, 2) := by decide +kernel
theorem dX11_endsAt_32 : decode cX11_endsAt 32 = .ok (.iload 5, 2) := by decide +kernel
theorem dX11_endsAt_34 : decode cX11_endsAt 34 = .ok (.imul, 1) := by decide +kernel
theorem dX11_endsAt_35 : decode cX11_endsAt 35 = .ok (.isub, 1) := by decide +kernel
theorem dX11_endsAt_36 : decode cX11_endsAt 36 = .ok (.istore 8, 2) := by decide +kernel
theorem dX11_endsAt_38 : decode cX11_endsAt 38 = .ok (.iload 5, 2) := by decide +kernel
theorem dX11_endsAt_40 : decode cX11_endsAt 40 = .ok (.iload 7, 2) := by decide +kernel
theorem dX11_endsAt_42 : decode cX11_endsAt 42 = .ok (.iload 4, 2) := by decide +kernel
theorem dX11_endsAt_44 : decode cX11_endsAt 44 = .ok (.imul, 1) := by decide +kernel
theorem dX11_endsAt_45 : decode cX11_endsAt 45 = .ok (.iadd, 1) := by decide +kernel
theorem dX11_endsAt_46 : decode cX11_endsAt 46 = .ok (.istore 5, 2) := by decide +kernel
theorem dX11_endsAt_48 : decode cX11_endsAt 48 = .ok (.iload 8, 2) := by decide +kernel
theorem dX11_endsAt_50 : decode cX11_endsAt 50 = .ok (.istore 4, 2) := by decide +kernel
theorem dX11_endsAt_52 : decode cX11_endsAt 52 = .ok (.iinc 6 1, 3) := by decide +kernel
theorem dX11_endsAt_55 : decode cX11_endsAt 55 = .ok (.goto (-46), 3) := by decide +kernel
theorem dX11_endsAt_58 : decode cX11_endsAt 58 = .ok (.iload 4, 2) := by decide +kernel
theorem dX11_endsAt_60 : decode cX11_endsAt 60 = .ok (.iload_n 2, 1) := by decide +kernel
theorem dX11_endsAt_61 : decode cX11_endsAt 61 = .ok (.if_icmp .ne 13, 3) := by decide +kernel
theorem dX11_endsAt_64 : decode cX11_endsAt 64 = .ok (.iload 5, 2) := by decide +kernel
theorem dX11_endsAt_66 : decode cX11_endsAt 66 = .ok (.iload_n 3, 1) := by decide +kernel
theorem dX11_endsAt_67 : decode cX11_endsAt 67 = .ok (.if_icmp .ne 7, 3) := by decide +kernel
theorem dX11_endsAt_70 : decode cX11_endsAt 70 = .ok (.iconst 1, 1) := by decide +kernel
theorem dX11_endsAt_71 : decode cX11_endsAt 71 = .ok (.goto 4, 3) := by decide +kernel
theorem dX11_endsAt_74 : decode cX11_endsAt 74 = .ok (.iconst 0, 1) := by decide +kernel
theorem dX11_endsAt_75 : decode cX11_endsAt 75 = .ok (.ireturn, 1) := by decide +kernel
theorem dX11_ends_0 : decode cX11_ends 0 = .ok (.iload 4, 2) := by decide +kernel
theorem dX11_ends_2 : decode cX11_ends 2 = .ok (.ifCond .lt 9, 3) := by decide +kernel
theorem dX11_ends_5 : decode cX11_ends 5 = .ok (.iload 4, 2) := by decide +kernel
theorem dX11_ends_7 : decode cX11_ends 7 = .ok (.iconst 1, 1) := by decide +kernel
theorem dX11_ends_8 : decode cX11_ends 8 = .ok (.if_icmp .le 10, 3) := by decide +kernel
theorem dX11_ends_11 : decode cX11_ends 11 = .ok (.aload_n 0, 1) := by decide +kernel
theorem dX11_ends_12 : decode cX11_ends 12 = .ok (.bipush (-5), 2) := by decide +kernel
theorem dX11_ends_14 : decode cX11_ends 14 = .ok (.invokevirtual 65, 3) := by decide +kernel
theorem dX11_ends_17 : decode cX11_ends 17 = .ok (.ireturn, 1) := by decide +kernel
theorem dX11_ends_18 : decode cX11_ends 18 = .ok (.iload_n 1, 1) := by decide +kernel
theorem dX11_ends_19 : decode cX11_ends 19 = .ok (.iconst 1, 1) := by decide +kernel
theorem dX11_ends_20 : decode cX11_ends 20 = .ok (.if_icmp .lt 9, 3) := by decide +kernel
theorem dX11_ends_23 : decode cX11_ends 23 = .ok (.iload_n 1, 1) := by decide +kernel
theorem dX11_ends_24 : decode cX11_ends 24 = .ok (.bipush 10, 2) := by decide +kernel
theorem dX11_ends_26 : decode cX11_ends 26 = .ok (.if_icmp .le 10, 3) := by decide +kernel
theorem dX11_ends_29 : decode cX11_ends 29 = .ok (.aload_n 0, 1) := by decide +kernel
theorem dX11_ends_30 : decode cX11_ends 30 = .ok (.bipush (-6), 2) := by decide +kernel
theorem dX11_ends_32 : decode cX11_ends 32 = .ok (.invokevirtual 65, 3) := by decide +kernel
theorem dX11_ends_35 : decode cX11_ends 35 = .ok (.ireturn, 1) := by decide +kernel
theorem dX11_ends_36 : decode cX11_ends 36 = .ok (.iconst 0, 1) := by decide +kernel
theorem dX11_ends_37 : decode cX11_ends 37 = .ok (.istore 5, 2) := by decide +kernel
theorem dX11_ends_39 : decode cX11_ends 39 = .ok (.iconst 0, 1) := by decide +kernel
theorem dX11_ends_40 : decode cX11_ends 40 = .ok (.istore 6, 2) := by decide +kernel
theorem dX11_ends_42 : decode cX11_ends 42 = .ok (.iload 6, 2) := by decide +kernel
theorem dX11_ends_44 : decode cX11_ends 44 = .ok (.iload_n 1, 1) := by decide +kernel
theorem dX11_ends_45 : decode cX11_ends 45 = .ok (.if_icmp .gt 29, 3) := by decide +kernel
theorem dX11_ends_48 : decode cX11_ends 48 = .ok (.iload_n 1, 1) := by decide +kernel
theorem dX11_ends_49 : decode cX11_ends 49 = .ok (.iload 6, 2) := by decide +kernel
theorem dX11_ends_51 : decode cX11_ends 51 = .ok (.iload_n 2, 1) := by decide +kernel
theorem dX11_ends_52 : decode cX11_ends 52 = .ok (.iload_n 3, 1) := by decide +kernel
theorem dX11_ends_53 : decode cX11_ends 53 = .ok (.invokestatic 328, 3) := by decide +kernel
theorem dX11_ends_56 : decode cX11_ends 56 = .ok (.ifCond .eq 12, 3) := by decide +kernel
theorem dX11_ends_59 : decode cX11_ends 59 = .ok (.iload 5, 2) := by decide +kernel
theorem dX11_ends_61 : decode cX11_ends 61 = .ok (.iconst 1, 1) := by decide +kernel
theorem dX11_ends_62 : decode cX11_ends 62 = .ok (.iload 6, 2) := by decide +kernel
theorem dX11_ends_64 : decode cX11_ends 64 = .ok (.ishl, 1) := by decide +kernel
theorem dX11_ends_65 : decode cX11_ends 65 = .ok (.ior, 1) := by decide +kernel
theorem dX11_ends_66 : decode cX11_ends 66 = .ok (.istore 5, 2) := by decide +kernel
theorem dX11_ends_68 : decode cX11_ends 68 = .ok (.iinc 6 1, 3) := by decide +kernel
theorem dX11_ends_71 : decode cX11_ends 71 = .ok (.goto (-29), 3) := by decide +kernel
theorem dX11_ends_74 : decode cX11_ends 74 = .ok (.iconst 0, 1) := by decide +kernel
theorem dX11_ends_75 : decode cX11_ends 75 = .ok (.istore 6, 2) := by decide +kernel
theorem dX11_ends_77 : decode cX11_ends 77 = .ok (.iconst (-1), 1) := by decide +kernel
theorem dX11_ends_78 : decode cX11_ends 78 = .ok (.istore 7, 2) := by decide +kernel
theorem dX11_ends_80 : decode cX11_ends 80 = .ok (.iconst 0, 1) := by decide +kernel
theorem dX11_ends_81 : decode cX11_ends 81 = .ok (.istore 8, 2) := by decide +kernel
theorem dX11_ends_83 : decode cX11_ends 83 = .ok (.iload 8, 2) := by decide +kernel
theorem dX11_ends_85 : decode cX11_ends 85 = .ok (.iconst 1, 1) := by decide +kernel
theorem dX11_ends_86 : decode cX11_ends 86 = .ok (.iload_n 1, 1) := by decide +kernel
theorem dX11_ends_87 : decode cX11_ends 87 = .ok (.ishl, 1) := by decide +kernel
theorem dX11_ends_88 : decode cX11_ends 88 = .ok (.if_icmp .ge 40, 3) := by decide +kernel
theorem dX11_ends_91 : decode cX11_ends 91 = .ok (.iload 5, 2) := by decide +kernel
theorem dX11_ends_93 : decode cX11_ends 93 = .ok (.iload 8, 2) := by decide +kernel
theorem dX11_ends_95 : decode cX11_ends 95 = .ok (.invokestatic 332, 3) := by decide +kernel
theorem dX11_ends_98 : decode cX11_ends 98 = .ok (.ishr, 1) := by decide +kernel
theorem dX11_ends_99 : decode cX11_ends 99 = .ok (.iconst 1, 1) := by decide +kernel
theorem dX11_ends_100 : decode cX11_ends 100 = .ok (.iand, 1) := by decide +kernel
theorem dX11_ends_101 : decode cX11_ends 101 = .ok (.iconst 1, 1) := by decide +kernel
theorem dX11_ends_102 : decode cX11_ends 102 = .ok (.if_icmp .ne 20, 3) := by decide +kernel
theorem dX11_ends_105 : decode cX11_ends 105 = .ok (.iload 6, 2) := by decide +kernel
theorem dX11_ends_107 : decode cX11_ends 107 = .ok (.ifCond .ne 8, 3) := by decide +kernel
theorem dX11_ends_110 : decode cX11_ends 110 = .ok (.iload 8, 2) := by decide +kernel
theorem dX11_ends_112 : decode cX11_ends 112 = .ok (.goto 5, 3) := by decide +kernel
theorem dX11_ends_115 : decode cX11_ends 115 = .ok (.iload 7, 2) := by decide +kernel
theorem dX11_ends_117 : decode cX11_ends 117 = .ok (.istore 7, 2) := by decide +kernel
theorem dX11_ends_119 : decode cX11_ends 119 = .ok (.iinc 6 1, 3) := by decide +kernel
theorem dX11_ends_122 : decode cX11_ends 122 = .ok (.iinc 8 1, 3) := by decide +kernel
theorem dX11_ends_125 : decode cX11_ends 125 = .ok (.goto (-42), 3) := by decide +kernel
theorem dX11_ends_128 : decode cX11_ends 128 = .ok (.iload 4, 2) := by decide +kernel
theorem dX11_ends_130 : decode cX11_ends 130 = .ok (.ifCond .ne 6, 3) := by decide +kernel
theorem dX11_ends_133 : decode cX11_ends 133 = .ok (.iload 6, 2) := by decide +kernel
theorem dX11_ends_135 : decode cX11_ends 135 = .ok (.ireturn, 1) := by decide +kernel
theorem dX11_ends_136 : decode cX11_ends 136 = .ok (.iload 7, 2) := by decide +kernel
theorem dX11_ends_138 : decode cX11_ends 138 = .ok (.iconst (-1), 1) := by decide +kernel
theorem dX11_ends_139 : decode cX11_ends 139 = .ok (.if_icmp .ne 12, 3) := by decide +kernel
theorem dX11_ends_142 : decode cX11_ends 142 = .ok (.aload_n 0, 1) := by decide +kernel
theorem dX11_ends_143 : decode cX11_ends 143 = .ok (.bipush (-5), 2) := by decide +kernel
theorem dX11_ends_145 : decode cX11_ends 145 = .ok (.invokevirtual 65, 3) := by decide +kernel
theorem dX11_ends_148 : decode cX11_ends 148 = .ok (.goto 5, 3) := by decide +kernel
theorem dX11_ends_151 : decode cX11_ends 151 = .ok (.iload 7, 2) := by decide +kernel
theorem dX11_ends_153 : decode cX11_ends 153 = .ok (.ireturn, 1) := by decide +kernel
theorem dX12_turnX_0 : decode cX12_turnX 0 = .ok (.iload 5, 2) := by decide +kernel
theorem dX12_turnX_2 : decode cX12_turnX 2 = .ok (.iconst 3, 1) := by decide +kernel
theorem dX12_turnX_3 : decode cX12_turnX 3 = .ok (.iand, 1) := by decide +kernel
theorem dX12_turnX_4 : decode cX12_turnX 4 = .ok (.istore 6, 2) := by decide +kernel
theorem dX12_turnX_6 : decode cX12_turnX 6 = .ok (.iload 6, 2) := by decide +kernel
theorem dX12_turnX_8 : decode cX12_turnX 8 = .ok (.ifCond .ne 7, 3) := by decide +kernel
theorem dX12_turnX_11 : decode cX12_turnX 11 = .ok (.lload_n 1, 1) := by decide +kernel
theorem dX12_turnX_12 : decode cX12_turnX 12 = .ok (.goto 26, 3) := by decide +kernel
theorem dX12_turnX_15 : decode cX12_turnX 15 = .ok (.iload 6, 2) := by decide +kernel
theorem dX12_turnX_17 : decode cX12_turnX 17 = .ok (.iconst 1, 1) := by decide +kernel
theorem dX12_turnX_18 : decode cX12_turnX 18 = .ok (.if_icmp .ne 8, 3) := by decide +kernel
theorem dX12_turnX_21 : decode cX12_turnX 21 = .ok (.lload_n 3, 1) := by decide +kernel
theorem dX12_turnX_22 : decode cX12_turnX 22 = .ok (.lneg, 1) := by decide +kernel
theorem dX12_turnX_23 : decode cX12_turnX 23 = .ok (.goto 15, 3) := by decide +kernel
theorem dX12_turnX_26 : decode cX12_turnX 26 = .ok (.iload 6, 2) := by decide +kernel
theorem dX12_turnX_28 : decode cX12_turnX 28 = .ok (.iconst 2, 1) := by decide +kernel
theorem dX12_turnX_29 : decode cX12_turnX 29 = .ok (.if_icmp .ne 8, 3) := by decide +kernel
theorem dX12_turnX_32 : decode cX12_turnX 32 = .ok (.lload_n 1, 1) := by decide +kernel
theorem dX12_turnX_33 : decode cX12_turnX 33 = .ok (.lneg, 1) := by decide +kernel
theorem dX12_turnX_34 : decode cX12_turnX 34 = .ok (.goto 4, 3) := by decide +kernel
theorem dX12_turnX_37 : decode cX12_turnX 37 = .ok (.lload_n 3, 1) := by decide +kernel
theorem dX12_turnX_38 : decode cX12_turnX 38 = .ok (.lreturn, 1) := by decide +kernel
theorem dX12_turnY_0 : decode cX12_turnY 0 = .ok (.iload 5, 2) := by decide +kernel
theorem dX12_turnY_2 : decode cX12_turnY 2 = .ok (.iconst 3, 1) := by decide +kernel
theorem dX12_turnY_3 : decode cX12_turnY 3 = .ok (.iand, 1) := by decide +kernel
theorem dX12_turnY_4 : decode cX12_turnY 4 = .ok (.istore 6, 2) := by decide +kernel
theorem dX12_turnY_6 : decode cX12_turnY 6 = .ok (.iload 6, 2) := by decide +kernel
theorem dX12_turnY_8 : decode cX12_turnY 8 = .ok (.ifCond .ne 7, 3) := by decide +kernel
theorem dX12_turnY_11 : decode cX12_turnY 11 = .ok (.lload_n 3, 1) := by decide +kernel
theorem dX12_turnY_12 : decode cX12_turnY 12 = .ok (.goto 26, 3) := by decide +kernel
theorem dX12_turnY_15 : decode cX12_turnY 15 = .ok (.iload 6, 2) := by decide +kernel
theorem dX12_turnY_17 : decode cX12_turnY 17 = .ok (.iconst 1, 1) := by decide +kernel
theorem dX12_turnY_18 : decode cX12_turnY 18 = .ok (.if_icmp .ne 7, 3) := by decide +kernel
theorem dX12_turnY_21 : decode cX12_turnY 21 = .ok (.lload_n 1, 1) := by decide +kernel
theorem dX12_turnY_22 : decode cX12_turnY 22 = .ok (.goto 16, 3) := by decide +kernel
theorem dX12_turnY_25 : decode cX12_turnY 25 = .ok (.iload 6, 2) := by decide +kernel
theorem dX12_turnY_27 : decode cX12_turnY 27 = .ok (.iconst 2, 1) := by decide +kernel
theorem dX12_turnY_28 : decode cX12_turnY 28 = .ok (.if_icmp .ne 8, 3) := by decide +kernel
theorem dX12_turnY_31 : decode cX12_turnY 31 = .ok (.lload_n 3, 1) := by decide +kernel
theorem dX12_turnY_32 : decode cX12_turnY 32 = .ok (.lneg, 1) := by decide +kernel
theorem dX12_turnY_33 : decode cX12_turnY 33 = .ok (.goto 5, 3) := by decide +kernel
theorem dX12_turnY_36 : decode cX12_turnY 36 = .ok (.lload_n 1, 1) := by decide +kernel
theorem dX12_turnY_37 : decode cX12_turnY 37 = .ok (.lneg, 1) := by decide +kernel
theorem dX12_turnY_38 : decode cX12_turnY 38 = .ok (.lreturn, 1) := by decide +kernel
theorem dX12_endOf_0 : decode cX12_endOf 0 = .ok (.lconst 1, 1) := by decide +kernel
theorem dX12_endOf_1 : decode cX12_endOf 1 = .ok (.lstore_n 3, 1) := by decide +kernel
theorem dX12_endOf_2 : decode cX12_endOf 2 = .ok (.lconst 0, 1) := by decide +kernel
theorem dX12_endOf_3 : decode cX12_endOf 3 = .ok (.lstore 5, 2) := by decide +kernel
theorem dX12_endOf_5 : decode cX12_endOf 5 = .ok (.lconst 1, 1) := by decide +kernel
theorem dX12_endOf_6 : decode cX12_endOf 6 = .ok (.lstore 7, 2) := by decide +kernel
theorem dX12_endOf_8 : decode cX12_endOf 8 = .ok (.lconst 0, 1) := by decide +kernel
theorem dX12_endOf_9 : decode cX12_endOf 9 = .ok (.lstore 9, 2) := by decide +kernel
theorem dX12_endOf_11 : decode cX12_endOf 11 = .ok (.iconst 0, 1) := by decide +kernel
theorem dX12_endOf_12 : decode cX12_endOf 12 = .ok (.istore 11, 2) := by decide +kernel
theorem dX12_endOf_14 : decode cX12_endOf 14 = .ok (.iconst 0, 1) := by decide +kernel
theorem dX12_endOf_15 : decode cX12_endOf 15 = .ok (.istore 12, 2) := by decide +kernel
theorem dX12_endOf_17 : decode cX12_endOf 17 = .ok (.iconst 0, 1) := by decide +kernel
theorem dX12_endOf_18 : decode cX12_endOf 18 = .ok (.istore 13, 2) := by decide +kernel
theorem dX12_endOf_20 : decode cX12_endOf 20 = .ok (.iload 13, 2) := by decide +kernel
theorem dX12_endOf_22 : decode cX12_endOf 22 = .ok (.iload_n 1, 1) := by decide +kernel
theorem dX12_endOf_23 : decode cX12_endOf 23 = .ok (.if_icmp .ge 127, 3) := by decide +kernel
theorem dX12_endOf_26 : decode cX12_endOf 26 = .ok (.iload_n 2, 1) := by decide +kernel
theorem dX12_endOf_27 : decode cX12_endOf 27 = .ok (.iload 13, 2) := by decide +kernel
theorem dX12_endOf_29 : decode cX12_endOf 29 = .ok (.ishr, 1) := by decide +kernel
theorem dX12_endOf_30 : decode cX12_endOf 30 = .ok (.iconst 1, 1) := by decide +kernel
theorem dX12_endOf_31 : decode cX12_endOf 31 = .ok (.iand, 1) := by decide +kernel
theorem dX12_endOf_32 : decode cX12_endOf 32 = .ok (.iconst 1, 1) := by decide +kernel
theorem dX12_endOf_33 : decode cX12_endOf 33 = .ok (.if_icmp .ne 7, 3) := by decide +kernel
theorem dX12_endOf_36 : decode cX12_endOf 36 = .ok (.iconst 1, 1) := by decide +kernel
theorem dX12_endOf_37 : decode cX12_endOf 37 = .ok (.goto 4, 3) := by decide +kernel
theorem dX12_endOf_40 : decode cX12_endOf 40 = .ok (.iconst (-1), 1) := by decide +kernel
theorem dX12_endOf_41 : decode cX12_endOf 41 = .ok (.istore 14, 2) := by decide +kernel
theorem dX12_endOf_43 : decode cX12_endOf 43 = .ok (.iload 11, 2) := by decide +kernel
theorem dX12_endOf_45 : decode cX12_endOf 45 = .ok (.iload 14, 2) := by decide +kernel
theorem dX12_endOf_47 : decode cX12_endOf 47 = .ok (.iadd, 1) := by decide +kernel
theorem dX12_endOf_48 : decode cX12_endOf 48 = .ok (.istore 15, 2) := by decide +kernel
theorem dX12_endOf_50 : decode cX12_endOf 50 = .ok (.iload 11, 2) := by decide +kernel
theorem dX12_endOf_52 : decode cX12_endOf 52 = .ok (.iload 14, 2) := by decide +kernel
theorem dX12_endOf_54 : decode cX12_endOf 54 = .ok (.isub, 1) := by decide +kernel
theorem dX12_endOf_55 : decode cX12_endOf 55 = .ok (.istore 16, 2) := by decide +kernel
theorem dX12_endOf_57 : decode cX12_endOf 57 = .ok (.lload_n 3, 1) := by decide +kernel
theorem dX12_endOf_58 : decode cX12_endOf 58 = .ok (.aload_n 0, 1) := by decide +kernel
theorem dX12_endOf_59 : decode cX12_endOf 59 = .ok (.lload 7, 2) := by decide +kernel
theorem dX12_endOf_61 : decode cX12_endOf 61 = .ok (.lload 9, 2) := by decide +kernel
theorem dX12_endOf_63 : decode cX12_endOf 63 = .ok (.iload 15, 2) := by decide +kernel
theorem dX12_endOf_65 : decode cX12_endOf 65 = .ok (.invokevirtual 248, 3) := by decide +kernel
theorem dX12_endOf_68 : decode cX12_endOf 68 = .ok (.ladd, 1) := by decide +kernel
theorem dX12_endOf_69 : decode cX12_endOf 69 = .ok (.lstore 17, 2) := by decide +kernel
theorem dX12_endOf_71 : decode cX12_endOf 71 = .ok (.lload 5, 2) := by decide +kernel
theorem dX12_endOf_73 : decode cX12_endOf 73 = .ok (.aload_n 0, 1) := by decide +kernel
theorem dX12_endOf_74 : decode cX12_endOf 74 = .ok (.lload 7, 2) := by decide +kernel
theorem dX12_endOf_76 : decode cX12_endOf 76 = .ok (.lload 9, 2) := by decide +kernel
theorem dX12_endOf_78 : decode cX12_endOf 78 = .ok (.iload 15, 2) := by decide +kernel
theorem dX12_endOf_80 : decode cX12_endOf 80 = .ok (.invokevirtual 252, 3) := by decide +kernel
theorem dX12_endOf_83 : decode cX12_endOf 83 = .ok (.ladd, 1) := by decide +kernel
theorem dX12_endOf_84 : decode cX12_endOf 84 = .ok (.lstore 19, 2) := by decide +kernel
theorem dX12_endOf_86 : decode cX12_endOf 86 = .ok (.lload_n 3, 1) := by decide +kernel
theorem dX12_endOf_87 : decode cX12_endOf 87 = .ok (.aload_n 0, 1) := by decide +kernel
theorem dX12_endOf_88 : decode cX12_endOf 88 = .ok (.lload 7, 2) := by decide +kernel
theorem dX12_endOf_90 : decode cX12_endOf 90 = .ok (.lload 9, 2) := by decide +kernel
theorem dX12_endOf_92 : decode cX12_endOf 92 = .ok (.iload 16, 2) := by decide +kernel
theorem dX12_endOf_94 : decode cX12_endOf 94 = .ok (.invokevirtual 248, 3) := by decide +kernel
theorem dX12_endOf_97 : decode cX12_endOf 97 = .ok (.ladd, 1) := by decide +kernel
theorem dX12_endOf_98 : decode cX12_endOf 98 = .ok (.lstore 21, 2) := by decide +kernel
theorem dX12_endOf_100 : decode cX12_endOf 100 = .ok (.lload 5, 2) := by decide +kernel
theorem dX12_endOf_102 : decode cX12_endOf 102 = .ok (.aload_n 0, 1) := by decide +kernel
theorem dX12_endOf_103 : decode cX12_endOf 103 = .ok (.lload 7, 2) := by decide +kernel
theorem dX12_endOf_105 : decode cX12_endOf 105 = .ok (.lload 9, 2) := by decide +kernel
theorem dX12_endOf_107 : decode cX12_endOf 107 = .ok (.iload 16, 2) := by decide +kernel
theorem dX12_endOf_109 : decode cX12_endOf 109 = .ok (.invokevirtual 252, 3) := by decide +kernel
theorem dX12_endOf_112 : decode cX12_endOf 112 = .ok (.ladd, 1) := by decide +kernel
theorem dX12_endOf_113 : decode cX12_endOf 113 = .ok (.lstore 23, 2) := by decide +kernel
theorem dX12_endOf_115 : decode cX12_endOf 115 = .ok (.iload 15, 2) := by decide +kernel
theorem dX12_endOf_117 : decode cX12_endOf 117 = .ok (.iload 12, 2) := by decide +kernel
theorem dX12_endOf_119 : decode cX12_endOf 119 = .ok (.iadd, 1) := by decide +kernel
theorem dX12_endOf_120 : decode cX12_endOf 120 = .ok (.istore 11, 2) := by decide +kernel
theorem dX12_endOf_122 : decode cX12_endOf 122 = .ok (.iload 16, 2) := by decide +kernel
theorem dX12_endOf_124 : decode cX12_endOf 124 = .ok (.iload 12, 2) := by decide +kernel
theorem dX12_endOf_126 : decode cX12_endOf 126 = .ok (.iadd, 1) := by decide +kernel
theorem dX12_endOf_127 : decode cX12_endOf 127 = .ok (.istore 12, 2) := by decide +kernel
theorem dX12_endOf_129 : decode cX12_endOf 129 = .ok (.lload 17, 2) := by decide +kernel
theorem dX12_endOf_131 : decode cX12_endOf 131 = .ok (.lstore_n 3, 1) := by decide +kernel
theorem dX12_endOf_132 : decode cX12_endOf 132 = .ok (.lload 19, 2) := by decide +kernel
theorem dX12_endOf_134 : decode cX12_endOf 134 = .ok (.lstore 5, 2) := by decide +kernel
theorem dX12_endOf_136 : decode cX12_endOf 136 = .ok (.lload 21, 2) := by decide +kernel
theorem dX12_endOf_138 : decode cX12_endOf 138 = .ok (.lstore 7, 2) := by decide +kernel
theorem dX12_endOf_140 : decode cX12_endOf 140 = .ok (.lload 23, 2) := by decide +kernel
theorem dX12_endOf_142 : decode cX12_endOf 142 = .ok (.lstore 9, 2) := by decide +kernel
theorem dX12_endOf_144 : decode cX12_endOf 144 = .ok (.iinc 13 1, 3) := by decide +kernel
theorem dX12_endOf_147 : decode cX12_endOf 147 = .ok (.goto (-127), 3) := by decide +kernel
theorem dX12_endOf_150 : decode cX12_endOf 150 = .ok (.aload_n 0, 1) := by decide +kernel
theorem dX12_endOf_151 : decode cX12_endOf 151 = .ok (.lload_n 3, 1) := by decide +kernel
theorem dX12_endOf_152 : decode cX12_endOf 152 = .ok (.putfield 259, 3) := by decide +kernel
theorem dX12_endOf_155 : decode cX12_endOf 155 = .ok (.aload_n 0, 1) := by decide +kernel
theorem dX12_endOf_156 : decode cX12_endOf 156 = .ok (.lload 5, 2) := by decide +kernel
theorem dX12_endOf_158 : decode cX12_endOf 158 = .ok (.putfield 262, 3) := by decide +kernel
theorem dX12_endOf_161 : decode cX12_endOf 161 = .ok (.return_, 1) := by decide +kernel
theorem dX12_ends_0 : decode cX12_ends 0 = .ok (.iload 4, 2) := by decide +kernel
theorem dX12_ends_2 : decode cX12_ends 2 = .ok (.ifCond .lt 9, 3) := by decide +kernel
theorem dX12_ends_5 : decode cX12_ends 5 = .ok (.iload 4, 2) := by decide +kernel
theorem dX12_ends_7 : decode cX12_ends 7 = .ok (.iconst 1, 1) := by decide +kernel
theorem dX12_ends_8 : decode cX12_ends 8 = .ok (.if_icmp .le 10, 3) := by decide +kernel
theorem dX12_ends_11 : decode cX12_ends 11 = .ok (.aload_n 0, 1) := by decide +kernel
theorem dX12_ends_12 : decode cX12_ends 12 = .ok (.bipush (-5), 2) := by decide +kernel
theorem dX12_ends_14 : decode cX12_ends 14 = .ok (.invokevirtual 136, 3) := by decide +kernel
theorem dX12_ends_17 : decode cX12_ends 17 = .ok (.ireturn, 1) := by decide +kernel
theorem dX12_ends_18 : decode cX12_ends 18 = .ok (.iload_n 1, 1) := by decide +kernel
theorem dX12_ends_19 : decode cX12_ends 19 = .ok (.iconst 1, 1) := by decide +kernel
theorem dX12_ends_20 : decode cX12_ends 20 = .ok (.if_icmp .lt 9, 3) := by decide +kernel
theorem dX12_ends_23 : decode cX12_ends 23 = .ok (.iload_n 1, 1) := by decide +kernel
theorem dX12_ends_24 : decode cX12_ends 24 = .ok (.bipush 10, 2) := by decide +kernel
theorem dX12_ends_26 : decode cX12_ends 26 = .ok (.if_icmp .le 10, 3) := by decide +kernel
theorem dX12_ends_29 : decode cX12_ends 29 = .ok (.aload_n 0, 1) := by decide +kernel
theorem dX12_ends_30 : decode cX12_ends 30 = .ok (.bipush (-6), 2) := by decide +kernel
theorem dX12_ends_32 : decode cX12_ends 32 = .ok (.invokevirtual 136, 3) := by decide +kernel
theorem dX12_ends_35 : decode cX12_ends 35 = .ok (.ireturn, 1) := by decide +kernel
theorem dX12_ends_36 : decode cX12_ends 36 = .ok (.iconst 0, 1) := by decide +kernel
theorem dX12_ends_37 : decode cX12_ends 37 = .ok (.istore 5, 2) := by decide +kernel
theorem dX12_ends_39 : decode cX12_ends 39 = .ok (.iconst (-1), 1) := by decide +kernel
theorem dX12_ends_40 : decode cX12_ends 40 = .ok (.istore 6, 2) := by decide +kernel
theorem dX12_ends_42 : decode cX12_ends 42 = .ok (.iconst 0, 1) := by decide +kernel
theorem dX12_ends_43 : decode cX12_ends 43 = .ok (.istore 7, 2) := by decide +kernel
theorem dX12_ends_45 : decode cX12_ends 45 = .ok (.iload 7, 2) := by decide +kernel
theorem dX12_ends_47 : decode cX12_ends 47 = .ok (.iconst 1, 1) := by decide +kernel
theorem dX12_ends_48 : decode cX12_ends 48 = .ok (.iload_n 1, 1) := by decide +kernel
theorem dX12_ends_49 : decode cX12_ends 49 = .ok (.ishl, 1) := by decide +kernel
theorem dX12_ends_50 : decode cX12_ends 50 = .ok (.if_icmp .ge 57, 3) := by decide +kernel
theorem dX12_ends_53 : decode cX12_ends 53 = .ok (.aload_n 0, 1) := by decide +kernel
theorem dX12_ends_54 : decode cX12_ends 54 = .ok (.iload_n 1, 1) := by decide +kernel
theorem dX12_ends_55 : decode cX12_ends 55 = .ok (.iload 7, 2) := by decide +kernel
theorem dX12_ends_57 : decode cX12_ends 57 = .ok (.invokevirtual 322, 3) := by decide +kernel
theorem dX12_ends_60 : decode cX12_ends 60 = .ok (.aload_n 0, 1) := by decide +kernel
theorem dX12_ends_61 : decode cX12_ends 61 = .ok (.getfield 259, 3) := by decide +kernel
theorem dX12_ends_64 : decode cX12_ends 64 = .ok (.iload_n 2, 1) := by decide +kernel
theorem dX12_ends_65 : decode cX12_ends 65 = .ok (.i2l, 1) := by decide +kernel
theorem dX12_ends_66 : decode cX12_ends 66 = .ok (.lcmp, 1) := by decide +kernel
theorem dX12_ends_67 : decode cX12_ends 67 = .ok (.ifCond .ne 34, 3) := by decide +kernel
theorem dX12_ends_70 : decode cX12_ends 70 = .ok (.aload_n 0, 1) := by decide +kernel
theorem dX12_ends_71 : decode cX12_ends 71 = .ok (.getfield 262, 3) := by decide +kernel
theorem dX12_ends_74 : decode cX12_ends 74 = .ok (.iload_n 3, 1) := by decide +kernel
theorem dX12_ends_75 : decode cX12_ends 75 = .ok (.i2l, 1) := by decide +kernel
theorem dX12_ends_76 : decode cX12_ends 76 = .ok (.lcmp, 1) := by decide +kernel
theorem dX12_ends_77 : decode cX12_ends 77 = .ok (.ifCond .eq 6, 3) := by decide +kernel
theorem dX12_ends_80 : decode cX12_ends 80 = .ok (.goto 21, 3) := by decide +kernel
theorem dX12_ends_83 : decode cX12_ends 83 = .ok (.iinc 5 1, 3) := by decide +kernel
theorem dX12_ends_86 : decode cX12_ends 86 = .ok (.iload 6, 2) := by decide +kernel
theorem dX12_ends_88 : decode cX12_ends 88 = .ok (.iconst (-1), 1) := by decide +kernel
theorem dX12_ends_89 : decode cX12_ends 89 = .ok (.if_icmp .ne 8, 3) := by decide +kernel
theorem dX12_ends_92 : decode cX12_ends 92 = .ok (.iload 7, 2) := by decide +kernel
theorem dX12_ends_94 : decode cX12_ends 94 = .ok (.goto 5, 3) := by decide +kernel
theorem dX12_ends_97 : decode cX12_ends 97 = .ok (.iload 6, 2) := by decide +kernel
theorem dX12_ends_99 : decode cX12_ends 99 = .ok (.istore 6, 2) := by decide +kernel
theorem dX12_ends_101 : decode cX12_ends 101 = .ok (.iinc 7 1, 3) := by decide +kernel
theorem dX12_ends_104 : decode cX12_ends 104 = .ok (.goto (-59), 3) := by decide +kernel
theorem dX12_ends_107 : decode cX12_ends 107 = .ok (.iload 4, 2) := by decide +kernel
theorem dX12_ends_109 : decode cX12_ends 109 = .ok (.ifCond .ne 6, 3) := by decide +kernel
theorem dX12_ends_112 : decode cX12_ends 112 = .ok (.iload 5, 2) := by decide +kernel
theorem dX12_ends_114 : decode cX12_ends 114 = .ok (.ireturn, 1) := by decide +kernel
theorem dX12_ends_115 : decode cX12_ends 115 = .ok (.iload 6, 2) := by decide +kernel
theorem dX12_ends_117 : decode cX12_ends 117 = .ok (.iconst (-1), 1) := by decide +kernel
theorem dX12_ends_118 : decode cX12_ends 118 = .ok (.if_icmp .ne 12, 3) := by decide +kernel
theorem dX12_ends_121 : decode cX12_ends 121 = .ok (.aload_n 0, 1) := by decide +kernel
theorem dX12_ends_122 : decode cX12_ends 122 = .ok (.bipush (-5), 2) := by decide +kernel
theorem dX12_ends_124 : decode cX12_ends 124 = .ok (.invokevirtual 136, 3) := by decide +kernel
theorem dX12_ends_127 : decode cX12_ends 127 = .ok (.goto 5, 3) := by decide +kernel
theorem dX12_ends_130 : decode cX12_ends 130 = .ok (.iload 6, 2) := by decide +kernel
theorem dX12_ends_132 : decode cX12_ends 132 = .ok (.ireturn, 1) := by decide +kernel
theorem rl_RX11_0_332_99 : RCall RX11 0 332 1 99 yJ6_bitCount_0f7a4 cJ6_bitCount_0f7a4 1 ((some .int)) := rc_S (n := 1) (tb_4 234 rfl rfl) (tb_4 235 rfl rfl) (tb_1 21 rfl rfl) (tb_4 236 rfl rfl) (by decide +kernel)
theorem rl_RX11_0_328_99 : RCall RX11 0 328 4 99 yX11_endsAt cX11_endsAt 9 ((some .boolean)) := rc_S (n := 4) (tb_4 231 rfl rfl) (tb_4 232 rfl rfl) (tb_1 1 rfl rfl) (tb_4 233 rfl rfl) (by decide +kernel)
theorem rl_RX12_2_322_12 : RCall RX12 2 322 3 12 yX12_endOf cX12_endOf 25 (none) := rc_V (n := 2) (tb_7 145 rfl rfl) (tb_7 147 rfl rfl) (TB_s 90 rfl rfl) (tb_1 5 rfl rfl) (tb_7 148 rfl rfl) (by decide +kernel) (by decide) rfl
theorem pl_31 {x : Int64} {ad xs : Nat → Nat} {cD : va_G} {cy : Nat → ClassId} {A : Nat → Prop} {S : zS} {ρ : Nat → Nat} {cc : ByteArray} {nL : Nat} {p : Program} {l : Launch} {e : Env} {R : Room} {s : State} {m : MethodId} {args : Array Value} {below : List Frame} {meth : Method} {c : Code} {Q : State → Prop} {Ts : List Cond} {cells slots pc : Nat} {H : Heap} {locs : List Loc} {ls : Array Slot} {rest : List Value} (hM : MX xs cD cy A p s m args c cc nL Ts RX12) (hT : Typed zT ad S ρ) (hw : zPw cD cy A s.heap S H locs) (hd : decode cc pc = .ok (.putfield 259, 3)) (k : ∀ (H1 : Heap) (locs1 : List Loc), zPw cD cy A s.heap (zsJ S 1231 (ad 17) x) H1 locs1 → W p l e R s m args below meth c H1 locs1 cells slots Q (F0 m (pc + 3) ls rest)) : W p l e R s m args below meth c H locs cells slots Q (F0 m pc ls (.long x :: .ref (ad 17) :: rest)) := by
  have c17 := ty_cel hT (r := 17) (by decide +kernel) rfl
  have P1 : RPutJ RX12 259 12 31 false := pf_RX12_259_12
  exact P1 p l e _ s m args below meth c H locs _ _ _ xs cD cy A cc nL _ S (ad 17) pc ls rest x hM (fun q => absurd q (by decide)) hw c17.1 c17.2.2.1 hd k
theorem pl_32 {x : Int64} {ad xs : Nat → Nat} {cD : va_G} {cy : Nat → ClassId} {A : Nat → Prop} {S : zS} {ρ : Nat → Nat} {cc : ByteArray} {nL : Nat} {p : Program} {l : Launch} {e : Env} {R : Room} {s : State} {m : MethodId} {args : Array Value} {below : List Frame} {meth : Method} {c : Code} {Q : State → Prop} {Ts : List Cond} {cells slots pc : Nat} {H : Heap} {locs : List Loc} {ls : Array Slot} {rest : List Value} (hM : MX xs cD cy A p s m args c cc nL Ts RX12) (hT : Typed zT ad S ρ) (hw : zPw cD cy A s.heap S H locs) (hd : decode cc pc = .ok (.putfield 262, 3)) (k : ∀ (H1 : Heap) (locs1 : List Loc), zPw cD cy A s.heap (zsJ S 1232 (ad 17) x) H1 locs1 → W p l e R s m args below meth c H1 locs1 cells slots Q (F0 m (pc + 3) ls rest)) : W p l e R s m args below meth c H locs cells slots Q (F0 m pc ls (.long x :: .ref (ad 17) :: rest)) := by
  have c17 := ty_cel hT (r := 17) (by decide +kernel) rfl
  have P1 : RPutJ RX12 262 12 32 false := pf_RX12_262_12
  exact P1 p l e _ s m args below meth c H locs _ _ _ xs cD cy A cc nL _ S (ad 17) pc ls rest x hM (fun q => absurd q (by decide)) hw c17.1 c17.2.2.1 hd k
theorem gl_31 {x : Int64} {ad xs : Nat → Nat} {cD : va_G} {cy : Nat → ClassId} {A : Nat → Prop} {S : zS} {ρ : Nat → Nat} {cc : ByteArray} {nL : Nat} {p : Program} {l : Launch} {e : Env} {R : Room} {s : State} {m : MethodId} {args : Array Value} {below : List Frame} {meth : Method} {c : Code} {Q : State → Prop} {Ts : List Cond} {cells slots pc : Nat} {H : Heap} {locs : List Loc} {ls : Array Slot} {rest : List Value} (hM : MX xs cD cy A p s m args c cc nL Ts RX12) (hT : Typed zT ad S ρ) (hw : zPw cD cy A s.heap S H locs) (hv : zJ S 1231 (ad 17) = x) (hd : decode cc pc = .ok (.getfield 259, 3)) (k : W p l e R s m args below meth c H locs cells slots Q (F0 m (pc + 3) ls (.long x :: rest))) : W p l e R s m args below meth c H locs cells slots Q (F0 m pc ls (.ref (ad 17) :: rest)) := by
  have c17 := ty_cel hT (r := 17) (by decide +kernel) rfl
  refine gf_RX12_259_12 p l e _ s m args below meth c H locs _ _ _ xs cD cy A cc nL _ S (ad 17) pc ls rest 1 hM hw c17.1 c17.2.2.1 hd rfl ?_
  have e1 : z_v S (ad 17) 1 (z_bs 12 + 31) = .long x := by
    show Value.long (zJ S 1231 (ad 17)) = _
    rw [hv]
  rw [e1]
  exact k
theorem gl_32 {x : Int64} {ad xs : Nat → Nat} {cD : va_G} {cy : Nat → ClassId} {A : Nat → Prop} {S : zS} {ρ : Nat → Nat} {cc : ByteArray} {nL : Nat} {p : Program} {l : Launch} {e : Env} {R : Room} {s : State} {m : MethodId} {args : Array Value} {below : List Frame} {meth : Method} {c : Code} {Q : State → Prop} {Ts : List Cond} {cells slots pc : Nat} {H : Heap} {locs : List Loc} {ls : Array Slot} {rest : List Value} (hM : MX xs cD cy A p s m args c cc nL Ts RX12) (hT : Typed zT ad S ρ) (hw : zPw cD cy A s.heap S H locs) (hv : zJ S 1232 (ad 17) = x) (hd : decode cc pc = .ok (.getfield 262, 3)) (k : W p l e R s m args below meth c H locs cells slots Q (F0 m (pc + 3) ls (.long x :: rest))) : W p l e R s m args below meth c H locs cells slots Q (F0 m pc ls (.ref (ad 17) :: rest)) := by
  have c17 := ty_cel hT (r := 17) (by decide +kernel) rfl
  refine gf_RX12_262_12 p l e _ s m args below meth c H locs _ _ _ xs cD cy A cc nL _ S (ad 17) pc ls rest 1 hM hw c17.1 c17.2.2.1 hd rfl ?_
  have e1 : z_v S (ad 17) 1 (z_bs 12 + 32) = .long x := by
    show Value.long (zJ S 1232 (ad 17)) = _
    rw [hv]
  rw [e1]
  exact k
set_option maxHeartbeats 1000000 in
set_option maxRecDepth 100000 in
theorem c_J6_bitCount_0f7a4 {xs : Nat → Nat} (l : Launch) (cD : va_G) (cy : Nat → ClassId) (sz_ : Nat) (S_ : zS) (x0 : Int32) : Met l yJ6_bitCount_0f7a4 (Cond.code yJ6_bitCount_0f7a4 cJ6_bitCount_0f7a4 1 (some .int) :: TB) ({ frames := 0, cells := 0, slots := 0, locals := 0 } : Room) (va_Pc [.int x0] (zPre xs cD cy S_ sz_)) (QX cD cy (PI (fun (v_ : Int32) (S1 : zS) => v_ = bcM x0 ∧ S_ = S1)) (zAd cy S_ sz_)) 0 0 (zAd cy S_ sz_) := by
  refine z_ofW (QQ := QX cD cy (PI (fun (v_ : Int32) (S1 : zS) => v_ = bcM x0 ∧ S_ = S1))) (own := RJ6) (by decide +kernel) rfl rfl (Nat.le_of_ble_eq_true rfl) ?_
  intro p_ e_ s_ m_ args_ below_ meth_ c_ A_ ls hcf hr hlk hnm hK_ hE hZ hw hA hl
  have hM : MX xs cD cy A_ p_ s_ m_ args_ c_ cJ6_bitCount_0f7a4 1 (Cond.code yJ6_bitCount_0f7a4 cJ6_bitCount_0f7a4 1 (some .int) :: TB) RJ6 := ⟨hcf, fun w hw => List.mem_cons_of_mem _ hw, hK_, hE, hZ, hA⟩
  obtain ⟨hx, hb_, hml, hown, hts⟩ := id hcf
  have hl : lv_has ls 1 [(0, .int x0)] := hl
  refine lv_iload_n hx hb_ dJ6_bitCount_0f7a4_0 rfl (lv_at hl 0 rfl) ?_
  refine lv_iload_n hx hb_ dJ6_bitCount_0f7a4_1 rfl (lv_at hl 0 rfl) ?_
  refine lv_iconst (v := 1) hx hb_ dJ6_bitCount_0f7a4_2 (by decide) ?_
  refine lv_iushr (v := ((x0 : Int32).toUInt32 >>> ((1 : Int32).toUInt32 &&& Int32.toUInt32 31)).toInt32) hx hb_ dJ6_bitCount_0f7a4_3 rfl ?_
  refine lv_ldcw (v := 1431655765) hx hb_ hown (hts _ (List.mem_cons_of_mem _ (tb_4 237 rfl rfl))) dJ6_bitCount_0f7a4_4 ?_
  refine lv_iand hx hb_ dJ6_bitCount_0f7a4_7 ?_
  refine lv_isub hx hb_ dJ6_bitCount_0f7a4_8 ?_
  refine lv_topi (fun x1 ex1 => ?_)
  refine lv_istore_n (lv' := [(0, .int x1)]) hx hb_ dJ6_bitCount_0f7a4_9 rfl hl (by decide) rfl (fun ls hl => ?_)
  refine lv_iload_n hx hb_ dJ6_bitCount_0f7a4_10 rfl (lv_at hl 0 rfl) ?_
  refine lv_ldcw (v := 858993459) hx hb_ hown (hts _ (List.mem_cons_of_mem _ (tb_4 238 rfl rfl))) dJ6_bitCount_0f7a4_11 ?_
  refine lv_iand hx hb_ dJ6_bitCount_0f7a4_14 ?_
  refine lv_iload_n hx hb_ dJ6_bitCount_0f7a4_15 rfl (lv_at hl 0 rfl) ?_
  refine lv_iconst (v := 2) hx hb_ dJ6_bitCount_0f7a4_16 (by decide) ?_
  refine lv_iushr (v := ((x1 : Int32).toUInt32 >>> ((2 : Int32).toUInt32 &&& Int32.toUInt32 31)).toInt32) hx hb_ dJ6_bitCount_0f7a4_17 rfl ?_
  refine lv_ldcw (v := 858993459) hx hb_ hown (hts _ (List.mem_cons_of_mem _ (tb_4 238 rfl rfl))) dJ6_bitCount_0f7a4_18 ?_
  refine lv_iand hx hb_ dJ6_bitCount_0f7a4_21 ?_
  refine lv_iadd hx hb_ dJ6_bitCount_0f7a4_22 ?_
  refine lv_topi (fun x2 ex2 => ?_)
  refine lv_istore_n (lv' := [(0, .int x2)]) hx hb_ dJ6_bitCount_0f7a4_23 rfl hl (by decide) rfl (fun ls hl => ?_)
  refine lv_iload_n hx hb_ dJ6_bitCount_0f7a4_24 rfl (lv_at hl 0 rfl) ?_
  refine lv_iload_n hx hb_ dJ6_bitCount_0f7a4_25 rfl (lv_at hl 0 rfl) ?_
  refine lv_iconst (v := 4) hx hb_ dJ6_bitCount_0f7a4_26 (by decide) ?_
  refine lv_iushr (v := ((x2 : Int32).toUInt32 >>> ((4 : Int32).toUInt32 &&& Int32.toUInt32 31)).toInt32) hx hb_ dJ6_bitCount_0f7a4_27 rfl ?_
  refine lv_iadd hx hb_ dJ6_bitCount_0f7a4_28 ?_
  refine lv_ldcw (v := 252645135) hx hb_ hown (hts _ (List.mem_cons_of_mem _ (tb_4 239 rfl rfl))) dJ6_bitCount_0f7a4_29 ?_
  refine lv_iand hx hb_ dJ6_bitCount_0f7a4_32 ?_
  refine lv_topi (fun x3 ex3 => ?_)
  refine lv_istore_n (lv' := [(0, .int x3)]) hx hb_ dJ6_bitCount_0f7a4_33 rfl hl (by decide) rfl (fun ls hl => ?_)
  refine lv_iload_n hx hb_ dJ6_bitCount_0f7a4_34 rfl (lv_at hl 0 rfl) ?_
  refine lv_iload_n hx hb_ dJ6_bitCount_0f7a4_35 rfl (lv_at hl 0 rfl) ?_
  refine lv_bipush (v := 8) hx hb_ dJ6_bitCount_0f7a4_36 (by decide) ?_
  refine lv_iushr (v := ((x3 : Int32).toUInt32 >>> ((8 : Int32).toUInt32 &&& Int32.toUInt32 31)).toInt32) hx hb_ dJ6_bitCount_0f7a4_38 rfl ?_
  refine lv_iadd hx hb_ dJ6_bitCount_0f7a4_39 ?_
  refine lv_topi (fun x4 ex4 => ?_)
  refine lv_istore_n (lv' := [(0, .int x4)]) hx hb_ dJ6_bitCount_0f7a4_40 rfl hl (by decide) rfl (fun ls hl => ?_)
  refine lv_iload_n hx hb_ dJ6_bitCount_0f7a4_41 rfl (lv_at hl 0 rfl) ?_
  refine lv_iload_n hx hb_ dJ6_bitCount_0f7a4_42 rfl (lv_at hl 0 rfl) ?_
  refine lv_bipush (v := 16) hx hb_ dJ6_bitCount_0f7a4_43 (by decide) ?_
  refine lv_iushr (v := ((x4 : Int32).toUInt32 >>> ((16 : Int32).toUInt32 &&& Int32.toUInt32 31)).toInt32) hx hb_ dJ6_bitCount_0f7a4_45 rfl ?_
  refine lv_iadd hx hb_ dJ6_bitCount_0f7a4_46 ?_
  refine lv_topi (fun x5 ex5 => ?_)
  refine lv_istore_n (lv' := [(0, .int x5)]) hx hb_ dJ6_bitCount_0f7a4_47 rfl hl (by decide) rfl (fun ls hl => ?_)
  refine lv_iload_n hx hb_ dJ6_bitCount_0f7a4_48 rfl (lv_at hl 0 rfl) ?_
  refine lv_bipush (v := 63) hx hb_ dJ6_bitCount_0f7a4_49 (by decide) ?_
  refine lv_iand hx hb_ dJ6_bitCount_0f7a4_51 ?_
  refine lv_topi (fun x6 ex6 => ?_)
  exact z_iretI (ty := .int) (v := x6) hcf hr rfl hlk hw (⟨by rw [ex6, show x5 = bc5 x4 from ex5, show x4 = bc4 x3 from ex4, show x3 = bc3 x2 from ex3, show x2 = bc2 x1 from ex2, show x1 = bc1 x0 from ex1]; rfl, rfl⟩) dJ6_bitCount_0f7a4_52
set_option maxHeartbeats 1000000 in
set_option maxRecDepth 100000 in
theorem c_X11_endsAt {xs : Nat → Nat} (l : Launch) (cD : va_G) (cy : Nat → ClassId) (sz_ : Nat) (S_ : zS) (f_ ones x_ y_ : Int32) (f0 : Nat) (ef : f_ = nI f0) (hf0 : f0 ≤ 10) : Met l yX11_endsAt (Cond.code yX11_endsAt cX11_endsAt 9 (some .boolean) :: TB) ({ frames := 0, cells := 0, slots := 0, locals := 0 } : Room) (va_Pc [.int f_, .int ones, .int x_, .int y_] (zPre xs cD cy S_ sz_)) (QX cD cy (PI (fun (v_ : Int32) (S1 : zS) => v_ = (if cE ones f0 = (x_, y_) then 1 else 0) ∧ S_ = S1)) (zAd cy S_ sz_)) 0 0 (zAd cy S_ sz_) := by
  refine z_ofW (QQ := QX cD cy (PI (fun (v_ : Int32) (S1 : zS) => v_ = (if cE ones f0 = (x_, y_) then 1 else 0) ∧ S_ = S1))) (own := RX11) (by decide +kernel) rfl rfl (Nat.le_of_ble_eq_true rfl) ?_
  intro p_ e_ s_ m_ args_ below_ meth_ c_ A_ ls hcf hr hlk hnm hK_ hE hZ hw hA hl
  have hM : MX xs cD cy A_ p_ s_ m_ args_ c_ cX11_endsAt 9 (Cond.code yX11_endsAt cX11_endsAt 9 (some .boolean) :: TB) RX11 := ⟨hcf, fun w hw => List.mem_cons_of_mem _ hw, hK_, hE, hZ, hA⟩
  obtain ⟨hx, hb_, hml, hown, hts⟩ := id hcf
  have hl : lv_has ls 9 [(0, .int f_), (1, .int ones), (2, .int x_), (3, .int y_)] := hl
  refine lv_iconst (v := 1) hx hb_ dX11_endsAt_0 (by decide) ?_
  refine lv_istore (lv' := [(4, .int 1), (0, .int f_), (1, .int ones), (2, .int x_), (3, .int y_)]) hx hb_ dX11_endsAt_1 hl (by decide) rfl (fun ls hl => ?_)
  refine lv_iconst (v := 0) hx hb_ dX11_endsAt_3 (by decide) ?_
  refine lv_istore (lv' := [(5, .int 0), (4, .int 1), (0, .int f_), (1, .int ones), (2, .int x_), (3, .int y_)]) hx hb_ dX11_endsAt_4 hl (by decide) rfl (fun ls hl => ?_)
  refine lv_iconst (v := 0) hx hb_ dX11_endsAt_6 (by decide) ?_
  refine lv_istore (lv' := [(6, .int 0), (5, .int 0), (4, .int 1), (0, .int f_), (1, .int ones), (2, .int x_), (3, .int y_)]) hx hb_ dX11_endsAt_7 hl (by decide) rfl (fun ls hl => ?_)
  have JA : ∀ (nA jA : Nat) (iA : Int32), iA = nI jA → jA ≤ f0 → f0 < jA + nA → ∀ (a_ b_ : Int32), (a_, b_) = cE ones jA →  ∀ (H_ : Heap) (locs_ : List Loc), zPw cD cy A_ s_.heap S_ H_ locs_ → ∀ ls : Array Slot, lv_has ls 9 [(0, .int f_), (1, .int ones), (2, .int x_), (3, .int y_), (4, .int a_), (5, .int b_), (6, .int iA)] → W p_ l e_ ({ frames := 0, cells := 0, slots := 0, locals := 0 } : Room) s_ m_ args_ below_ meth_ c_ H_ locs_ 0 0 (MQ below_ (QX cD cy (PI (fun (v_ : Int32) (S1 : zS) => v_ = (if cE ones f0 = (x_, y_) then 1 else 0) ∧ S_ = S1)) A_) args_ s_ 0 0 A_) (F0 m_ 9 ls []) := by
    intro nA
    induction nA with
    | zero => intro jA iA _ hjA h_; exact absurd h_ (by omega)
    | succ nA ihA =>
      intro jA iA eiA hjA hmA a_ b_ hab H_ locs_ hw ls hl
      refine lv_iload hx hb_ dX11_endsAt_9 (lv_at hl 6 rfl) ?_
      refine lv_iload_n hx hb_ dX11_endsAt_11 rfl (lv_at hl 0 rfl) ?_
      refine lv_icmp_ge (tgt := 58) hx hb_ dX11_endsAt_12 (by decide) (fun c_12 => ?_) (fun c_12 => ?_)
      · refine lv_iload hx hb_ dX11_endsAt_58 (lv_at hl 4 rfl) ?_
        refine lv_iload_n hx hb_ dX11_endsAt_60 rfl (lv_at hl 2 rfl) ?_
        refine lv_icmp_ne (tgt := 74) hx hb_ dX11_endsAt_61 (by decide) (fun c_61 => ?_) (fun c_61 => ?_)
        · refine lv_iconst (v := 0) hx hb_ dX11_endsAt_74 (by decide) ?_
          exact z_iretI (ty := .boolean) (v := 0) hcf hr rfl hlk hw (⟨by have hj : jA = f0 := (by have := zn_ge eiA ef (by omega) c_12; omega); rw [← hj, ← hab]; simp [c_61], rfl⟩) dX11_endsAt_75
        · refine lv_iload hx hb_ dX11_endsAt_64 (lv_at hl 5 rfl) ?_
          refine lv_iload_n hx hb_ dX11_endsAt_66 rfl (lv_at hl 3 rfl) ?_
          refine lv_icmp_ne (tgt := 74) hx hb_ dX11_endsAt_67 (by decide) (fun c_67 => ?_) (fun c_67 => ?_)
          · refine lv_iconst (v := 0) hx hb_ dX11_endsAt_74 (by decide) ?_
            exact z_iretI (ty := .boolean) (v := 0) hcf hr rfl hlk hw (⟨by have hj : jA = f0 := (by have := zn_ge eiA ef (by omega) c_12; omega); rw [← hj, ← hab]; simp [c_61, c_67], rfl⟩) dX11_endsAt_75
          · refine lv_iconst (v := 1) hx hb_ dX11_endsAt_70 (by decide) ?_
            refine lv_goto (tgt := 75) hx hb_ dX11_endsAt_71 (by decide) ?_
            exact z_iretI (ty := .boolean) (v := 1) hcf hr rfl hlk hw (⟨by have hj : jA = f0 := (by have := zn_ge eiA ef (by omega) c_12; omega); rw [← hj, ← hab]; simp [c_61, c_67], rfl⟩) dX11_endsAt_75
      · have hlt : jA < f0 := zn_lt eiA ef (by omega) c_12
        refine lv_iload hx hb_ dX11_endsAt_15 (lv_at hl 6 rfl) ?_
        refine lv_iload_n hx hb_ dX11_endsAt_17 rfl (lv_at hl 1 rfl) ?_
        refine lv_icmp_ge (tgt := 25) hx hb_ dX11_endsAt_18 (by decide) (fun c_18 => ?_) (fun c_18 => ?_)
        · refine lv_iconst (v := (-1)) hx hb_ dX11_endsAt_25 (by decide) ?_
          refine lv_istore (lv' := [(7, .int (-1)), (0, .int f_), (1, .int ones), (2, .int x_), (3, .int y_), (4, .int a_), (5, .int b_), (6, .int iA)]) hx hb_ dX11_endsAt_26 hl (by decide) rfl (fun ls hl => ?_)
          refine lv_iload hx hb_ dX11_endsAt_28 (lv_at hl 5 rfl) ?_
          refine lv_iload hx hb_ dX11_endsAt_30 (lv_at hl 0 rfl) ?_
          refine lv_iload hx hb_ dX11_endsAt_32 (lv_at hl 6 rfl) ?_
          refine lv_imul hx hb_ dX11_endsAt_34 ?_
          refine lv_isub hx hb_ dX11_endsAt_35 ?_
          refine lv_istore (lv' := [(8, .int (a_ - ((-1) * b_))), (7, .int (-1)), (0, .int f_), (1, .int ones), (2, .int x_), (3, .int y_), (4, .int a_), (5, .int b_), (6, .int iA)]) hx hb_ dX11_endsAt_36 hl (by decide) rfl (fun ls hl => ?_)
          refine lv_iload hx hb_ dX11_endsAt_38 (lv_at hl 7 rfl) ?_
          refine lv_iload hx hb_ dX11_endsAt_40 (lv_at hl 1 rfl) ?_
          refine lv_iload hx hb_ dX11_endsAt_42 (lv_at hl 6 rfl) ?_
          refine lv_imul hx hb_ dX11_endsAt_44 ?_
          refine lv_iadd hx hb_ dX11_endsAt_45 ?_
          refine lv_istore (lv' := [(5, .int (b_ + ((-1) * a_))), (8, .int (a_ - ((-1) * b_))), (7, .int (-1)), (0, .int f_), (1, .int ones), (2, .int x_), (3, .int y_), (4, .int a_), (6, .int iA)]) hx hb_ dX11_endsAt_46 hl (by decide) rfl (fun ls hl => ?_)
          refine lv_iload hx hb_ dX11_endsAt_48 (lv_at hl 1 rfl) ?_
          refine lv_istore (lv' := [(4, .int (a_ - ((-1) * b_))), (5, .int (b_ + ((-1) * a_))), (8, .int (a_ - ((-1) * b_))), (7, .int (-1)), (0, .int f_), (1, .int ones), (2, .int x_), (3, .int y_), (6, .int iA)]) hx hb_ dX11_endsAt_50 hl (by decide) rfl (fun ls hl => ?_)
          obtain ⟨i2_, ei2⟩ : ∃ y_ : Int32, y_ = iA + 1 := ⟨_, rfl⟩
          refine lv_iinc (v := i2_) (lv' := [(6, .int i2_), (4, .int (a_ - ((-1) * b_))), (5, .int (b_ + ((-1) * a_))), (8, .int (a_ - ((-1) * b_))), (7, .int (-1)), (0, .int f_), (1, .int ones), (2, .int x_), (3, .int y_)]) hx hb_ dX11_endsAt_52 hl (k := 8) rfl (by rw [ei2]; rfl) (by decide) rfl (fun ls hl => ?_)
          refine lv_goto (tgt := 9) hx hb_ dX11_endsAt_55 (by decide) ?_
          exact ihA (jA + 1) i2_ (by rw [ei2, eiA]; exact nI_1 jA) hlt (by omega) _ _ (by show _ = cE1 ones (nI jA) (cE ones jA); rw [← hab, ← eiA]; simp only [cE1, if_pos c_18]) _ _ hw ls (lv_sub hl [5, 6, 7, 8, 1, 2, 0] rfl)
        · refine lv_iconst (v := 1) hx hb_ dX11_endsAt_21 (by decide) ?_
          refine lv_goto (tgt := 26) hx hb_ dX11_endsAt_22 (by decide) ?_
          refine lv_istore (lv' := [(7, .int 1), (0, .int f_), (1, .int ones), (2, .int x_), (3, .int y_), (4, .int a_), (5, .int b_), (6, .int iA)]) hx hb_ dX11_endsAt_26 hl (by decide) rfl (fun ls hl => ?_)
          refine lv_iload hx hb_ dX11_endsAt_28 (lv_at hl 5 rfl) ?_
          refine lv_iload hx hb_ dX11_endsAt_30 (lv_at hl 0 rfl) ?_
          refine lv_iload hx hb_ dX11_endsAt_32 (lv_at hl 6 rfl) ?_
          refine lv_imul hx hb_ dX11_endsAt_34 ?_
          refine lv_isub hx hb_ dX11_endsAt_35 ?_
          refine lv_istore (lv' := [(8, .int (a_ - (1 * b_))), (7, .int 1), (0, .int f_), (1, .int ones), (2, .int x_), (3, .int y_), (4, .int a_), (5, .int b_), (6, .int iA)]) hx hb_ dX11_endsAt_36 hl (by decide) rfl (fun ls hl => ?_)
          refine lv_iload hx hb_ dX11_endsAt_38 (lv_at hl 7 rfl) ?_
          refine lv_iload hx hb_ dX11_endsAt_40 (lv_at hl 1 rfl) ?_
          refine lv_iload hx hb_ dX11_endsAt_42 (lv_at hl 6 rfl) ?_
          refine lv_imul hx hb_ dX11_endsAt_44 ?_
          refine lv_iadd hx hb_ dX11_endsAt_45 ?_
          refine lv_istore (lv' := [(5, .int (b_ + (1 * a_))), (8, .int (a_ - (1 * b_))), (7, .int 1), (0, .int f_), (1, .int ones), (2, .int x_), (3, .int y_), (4, .int a_), (6, .int iA)]) hx hb_ dX11_endsAt_46 hl (by decide) rfl (fun ls hl => ?_)
          refine lv_iload hx hb_ dX11_endsAt_48 (lv_at hl 1 rfl) ?_
          refine lv_istore (lv' := [(4, .int (a_ - (1 * b_))), (5, .int (b_ + (1 * a_))), (8, .int (a_ - (1 * b_))), (7, .int 1), (0, .int f_), (1, .int ones), (2, .int x_), (3, .int y_), (6, .int iA)]) hx hb_ dX11_endsAt_50 hl (by decide) rfl (fun ls hl => ?_)
          obtain ⟨i2_, ei2⟩ : ∃ y_ : Int32, y_ = iA + 1 := ⟨_, rfl⟩
          refine lv_iinc (v := i2_) (lv' := [(6, .int i2_), (4, .int (a_ - (1 * b_))), (5, .int (b_ + (1 * a_))), (8, .int (a_ - (1 * b_))), (7, .int 1), (0, .int f_), (1, .int ones), (2, .int x_), (3, .int y_)]) hx hb_ dX11_endsAt_52 hl (k := 8) rfl (by rw [ei2]; rfl) (by decide) rfl (fun ls hl => ?_)
          refine lv_goto (tgt := 9) hx hb_ dX11_endsAt_55 (by decide) ?_
          exact ihA (jA + 1) i2_ (by rw [ei2, eiA]; exact nI_1 jA) hlt (by omega) _ _ (by show _ = cE1 ones (nI jA) (cE ones jA); rw [← hab, ← eiA]; simp only [cE1, if_neg c_18]) _ _ hw ls (lv_sub hl [5, 6, 7, 8, 1, 2, 0] rfl)
  exact JA (f0 + 1) 0 0 nI_0.symm (Nat.zero_le _) (by omega) 1 0 rfl _ _ hw ls (lv_sub hl [3, 4, 5, 6, 2, 1, 0] rfl)
set_option maxHeartbeats 1000000 in
set_option maxRecDepth 100000 in
theorem c_X11_ends {xs ad : Nat → Nat} {ρ : Nat → Nat} {neg0 : Int → Int} {Post : Option Value → zS → (Nat → Nat) → Prop} (hb0 : bndN neg0) (l : Launch) (cD : va_G) (cy : Nat → ClassId) (sz_ : Nat) (S_ : zS) (hV : WCF ad S_ ρ S_ ρ) (f_ x_ y_ w_ : Int32) (hP : ∀ rv S1 ρ1, PW ad S_ ρ (q_ends f_ x_ y_ w_) rv S1 ρ1 → Post rv S1 ρ1) : Met l yX11_ends (Cond.code yX11_ends cX11_ends 9 (some .int) :: TB) ({ frames := 1, cells := 0, slots := 0, locals := 28 } : Room) (va_Pc [.ref (ad 0), .int f_, .int x_, .int y_, .int w_] (zPre xs cD cy S_ sz_)) (QX cD cy Post (zAd cy S_ sz_)) 0 0 (zAd cy S_ sz_) := by
  refine z_ofW (QQ := QX cD cy Post) (own := RX11) (by decide +kernel) rfl rfl (Nat.le_of_ble_eq_true rfl) ?_
  intro p_ e_ s_ m_ args_ below_ meth_ c_ A_ ls hcf hr hlk hnm hK_ hE hZ hw hA hl
  have hM : MX xs cD cy A_ p_ s_ m_ args_ c_ cX11_ends 9 (Cond.code yX11_ends cX11_ends 9 (some .int) :: TB) RX11 := ⟨hcf, fun w hw => List.mem_cons_of_mem _ hw, hK_, hE, hZ, hA⟩
  have hSh := hV.1.1
  obtain ⟨hx, hb_, hml, hown, hts⟩ := id hcf
  have hl : lv_has ls 9 [(0, .ref (ad 0)), (1, .int f_), (2, .int x_), (3, .int y_), (4, .int w_)] := hl
  refine lv_iload hx hb_ dX11_ends_0 (lv_at hl 4 rfl) ?_
  refine lv_if_lt (tgt := 11) hx hb_ dX11_ends_2 (by decide) (fun c_2 => ?_) (fun c_2 => ?_)
  · refine lv_aload_n hx hb_ dX11_ends_11 rfl (lv_at hl 0 rfl) ?_
    refine lv_bipush (v := (-5)) hx hb_ dX11_ends_12 (by decide) ?_
    refine cl_refuse hb0 hM hA hV hw ⟨by decide, by decide, by decide, by decide⟩ (show (0 : Nat) ≤ 8 by decide) hl.1 dX11_ends_14 (fun S1 ρ1 H_ locs_ hV hw => ?_)
    exact z_iretW (v := (-5)) hcf hr hlk hw hP hV (by simp [q_ends, c_2]) dX11_ends_17
  · refine lv_iload hx hb_ dX11_ends_5 (lv_at hl 4 rfl) ?_
    refine lv_iconst (v := 1) hx hb_ dX11_ends_7 (by decide) ?_
    refine lv_icmp_le (tgt := 18) hx hb_ dX11_ends_8 (by decide) (fun c_8 => ?_) (fun c_8 => ?_)
    · refine lv_iload_n hx hb_ dX11_ends_18 rfl (lv_at hl 1 rfl) ?_
      refine lv_iconst (v := 1) hx hb_ dX11_ends_19 (by decide) ?_
      refine lv_icmp_lt (tgt := 29) hx hb_ dX11_ends_20 (by decide) (fun c_20 => ?_) (fun c_20 => ?_)
      · refine lv_aload_n hx hb_ dX11_ends_29 rfl (lv_at hl 0 rfl) ?_
        refine lv_bipush (v := (-6)) hx hb_ dX11_ends_30 (by decide) ?_
        refine cl_refuse hb0 hM hA hV hw ⟨by decide, by decide, by decide, by decide⟩ (show (0 : Nat) ≤ 8 by decide) hl.1 dX11_ends_32 (fun S1 ρ1 H_ locs_ hV hw => ?_)
        exact z_iretW (v := (-6)) hcf hr hlk hw hP hV (by simp [q_ends, c_2, c_8, c_20]) dX11_ends_35
      · refine lv_iload_n hx hb_ dX11_ends_23 rfl (lv_at hl 1 rfl) ?_
        refine lv_bipush (v := 10) hx hb_ dX11_ends_24 (by decide) ?_
        refine lv_icmp_le (tgt := 36) hx hb_ dX11_ends_26 (by decide) (fun c_26 => ?_) (fun c_26 => ?_)
        · obtain ⟨f0, hf1, hf10, ef⟩ := zx_of (a := 1) (b := 10) c_20 c_26 (by decide) (by decide)
          refine lv_iconst (v := 0) hx hb_ dX11_ends_36 (by decide) ?_
          refine lv_istore (lv' := [(5, .int 0), (0, .ref (ad 0)), (1, .int f_), (2, .int x_), (3, .int y_), (4, .int w_)]) hx hb_ dX11_ends_37 hl (by decide) rfl (fun ls hl => ?_)
          refine lv_iconst (v := 0) hx hb_ dX11_ends_39 (by decide) ?_
          refine lv_istore (lv' := [(6, .int 0), (5, .int 0), (0, .ref (ad 0)), (1, .int f_), (2, .int x_), (3, .int y_), (4, .int w_)]) hx hb_ dX11_ends_40 hl (by decide) rfl (fun ls hl => ?_)
          have JA : ∀ (nA jA : Nat) (iA : Int32), iA = nI jA → jA ≤ f0 + 1 → f0 + 1 < jA + nA → ∀ (mk : Int32), mk = cMk (cB f0 x_ y_) jA → ∀ (H_ : Heap) (locs_ : List Loc), zPw cD cy A_ s_.heap S_ H_ locs_ → ∀ ls : Array Slot, lv_has ls 9 [(0, .ref (ad 0)), (1, .int f_), (2, .int x_), (3, .int y_), (4, .int w_), (5, .int mk), (6, .int iA)] → W p_ l e_ ({ frames := 1, cells := 0, slots := 0, locals := 28 } : Room) s_ m_ args_ below_ meth_ c_ H_ locs_ 0 0 (MQ below_ (QX cD cy Post A_) args_ s_ 0 0 A_) (F0 m_ 42 ls []) := by
            intro nA
            induction nA with
            | zero => intro jA iA _ hjA h_; exact absurd h_ (by omega)
            | succ nA ihA =>
              intro jA iA eiA hjA hmA mk hmk H_ locs_ hw ls hl
              refine lv_iload hx hb_ dX11_ends_42 (lv_at hl 6 rfl) ?_
              refine lv_iload_n hx hb_ dX11_ends_44 rfl (lv_at hl 1 rfl) ?_
              refine lv_icmp_gt (tgt := 74) hx hb_ dX11_ends_45 (by decide) (fun c_45 => ?_) (fun c_45 => ?_)
              · have hjA : jA = f0 + 1 := by rw [zx_lt, ef, eiA, nI_toInt (by omega), nI_toInt (by omega)] at c_45; omega
                have hmk : mk = cMk (cB f0 x_ y_) (f0 + 1) := by rw [hmk, hjA]
                have h1024 := p2_le f0 (by omega)
                refine lv_iconst (v := 0) hx hb_ dX11_ends_74 (by decide) ?_
                refine lv_istore (lv' := [(6, .int 0), (0, .ref (ad 0)), (1, .int f_), (2, .int x_), (3, .int y_), (4, .int w_), (5, .int mk)]) hx hb_ dX11_ends_75 hl (by decide) rfl (fun ls hl => ?_)
                refine lv_iconst (v := (-1)) hx hb_ dX11_ends_77 (by decide) ?_
                refine lv_istore (lv' := [(7, .int (-1)), (6, .int 0), (0, .ref (ad 0)), (1, .int f_), (2, .int x_), (3, .int y_), (4, .int w_), (5, .int mk)]) hx hb_ dX11_ends_78 hl (by decide) rfl (fun ls hl => ?_)
                refine lv_iconst (v := 0) hx hb_ dX11_ends_80 (by decide) ?_
                refine lv_istore (lv' := [(8, .int 0), (7, .int (-1)), (6, .int 0), (0, .ref (ad 0)), (1, .int f_), (2, .int x_), (3, .int y_), (4, .int w_), (5, .int mk)]) hx hb_ dX11_ends_81 hl (by decide) rfl (fun ls hl => ?_)
                have JB : ∀ (nB jB : Nat) (iB : Int32), iB = nI jB → jB ≤ 2 ^ f0 → 2 ^ f0 < jB + nB → ∀ (cnt fst : Int32), (cnt, fst) = eSt (fun k_ => cB f0 x_ y_ (pop k_)) jB → ∀ (H_ : Heap) (locs_ : List Loc), zPw cD cy A_ s_.heap S_ H_ locs_ → ∀ ls : Array Slot, lv_has ls 9 [(0, .ref (ad 0)), (1, .int f_), (2, .int x_), (3, .int y_), (4, .int w_), (5, .int mk), (6, .int cnt), (7, .int fst), (8, .int iB)] → W p_ l e_ ({ frames := 1, cells := 0, slots := 0, locals := 28 } : Room) s_ m_ args_ below_ meth_ c_ H_ locs_ 0 0 (MQ below_ (QX cD cy Post A_) args_ s_ 0 0 A_) (F0 m_ 83 ls []) := by
                  intro nB
                  induction nB with
                  | zero => intro jB iB _ hjB h_; exact absurd h_ (by omega)
                  | succ nB ihB =>
                    intro jB iB eiB hjB hmB cnt fst hcf2 H_ locs_ hw ls hl
                    refine lv_iload hx hb_ dX11_ends_83 (lv_at hl 8 rfl) ?_
                    refine lv_iconst (v := 1) hx hb_ dX11_ends_85 (by decide) ?_
                    refine lv_iload_n hx hb_ dX11_ends_86 rfl (lv_at hl 1 rfl) ?_
                    refine lv_ishl hx hb_ dX11_ends_87 ?_
                    refine z_topi (y := (nI (2 ^ f0))) (by rw [ef]; exact shl1 f0 (by omega)) ?_
                    refine lv_icmp_ge (tgt := 128) hx hb_ dX11_ends_88 (by decide) (fun c_88 => ?_) (fun c_88 => ?_)
                    · refine lv_iload hx hb_ dX11_ends_128 (lv_at hl 4 rfl) ?_
                      refine lv_if_ne (tgt := 136) hx hb_ dX11_ends_130 (by decide) (fun c_130 => ?_) (fun c_130 => ?_)
                      · refine lv_iload hx hb_ dX11_ends_136 (lv_at hl 7 rfl) ?_
                        refine lv_iconst (v := (-1)) hx hb_ dX11_ends_138 (by decide) ?_
                        refine lv_icmp_ne (tgt := 151) hx hb_ dX11_ends_139 (by decide) (fun c_139 => ?_) (fun c_139 => ?_)
                        · refine lv_iload hx hb_ dX11_ends_151 (lv_at hl 7 rfl) ?_
                          exact z_iretW (v := fst) hcf hr hlk hw hP hV (by have hj : jB = 2 ^ f0 := (by have := zn_ge eiB rfl (by omega) c_88; omega); rw [q_ends_in c_2 c_8 c_20 c_26 ef hf10, ← hj, ← hcf2]; simp [q_end2, c_130, c_139]) dX11_ends_153
                        · refine lv_aload_n hx hb_ dX11_ends_142 rfl (lv_at hl 0 rfl) ?_
                          refine lv_bipush (v := (-5)) hx hb_ dX11_ends_143 (by decide) ?_
                          refine cl_refuse hb0 hM hA hV hw ⟨by decide, by decide, by decide, by decide⟩ (show (0 : Nat) ≤ 8 by decide) hl.1 dX11_ends_145 (fun S1 ρ1 H_ locs_ hV hw => ?_)
                          refine lv_goto (tgt := 153) hx hb_ dX11_ends_148 (by decide) ?_
                          exact z_iretW (v := (-5)) hcf hr hlk hw hP hV (by have hj : jB = 2 ^ f0 := (by have := zn_ge eiB rfl (by omega) c_88; omega); rw [q_ends_in c_2 c_8 c_20 c_26 ef hf10, ← hj, ← hcf2]; simp [q_end2, c_130, c_139]) dX11_ends_153
                      · refine lv_iload hx hb_ dX11_ends_133 (lv_at hl 6 rfl) ?_
                        exact z_iretW (v := cnt) hcf hr hlk hw hP hV (by have hj : jB = 2 ^ f0 := (by have := zn_ge eiB rfl (by omega) c_88; omega); rw [q_ends_in c_2 c_8 c_20 c_26 ef hf10, ← hj, ← hcf2]; simp [q_end2, c_130]) dX11_ends_135
                    · have hlt : jB < 2 ^ f0 := zn_lt eiB rfl (by omega) c_88
                      have hP : ((mk >>> (bcM iB &&& 31)) &&& 1 = 1) ↔ cB f0 x_ y_ (pop jB) = true := by rw [hmk, eiB, bcM_pop (by omega)]; exact cMk_bit (by omega) (by have := pop_le hlt hf10; omega)
                      refine lv_iload hx hb_ dX11_ends_91 (lv_at hl 5 rfl) ?_
                      refine lv_iload hx hb_ dX11_ends_93 (lv_at hl 8 rfl) ?_
                      refine z_call hw hA (rl_RX11_0_332_99 p_ l e_ _ s_ m_ args_ below_ meth_ c_ _ _ _ _ xs cD cy A_ _ _ _ _ 95 ls [.int mk] [.int iB] _ _ 0 0 _ hM hw rfl (Or.inl rfl) (c_J6_bitCount_0f7a4 l cD cy _ S_ iB) rfl rfl (by decide) (by decide) (show (1 : Nat) ≤ 8 by decide) dX11_ends_95 ⟨Nat.le_refl _, Nat.le_refl _⟩ hl.1) (fun rv_ S11 ρ2 H_ locs_ hp hw => ?_)
                      obtain ⟨v10, rfl, hp⟩ := hp
                      obtain ⟨hv10, rfl⟩ := hp
                      refine lv_ishr hx hb_ dX11_ends_98 ?_
                      refine lv_iconst (v := 1) hx hb_ dX11_ends_99 (by decide) ?_
                      refine lv_iand hx hb_ dX11_ends_100 ?_
                      refine lv_iconst (v := 1) hx hb_ dX11_ends_101 (by decide) ?_
                      refine lv_icmp_ne (tgt := 122) hx hb_ dX11_ends_102 (by decide) (fun c_102 => ?_) (fun c_102 => ?_)
                      · obtain ⟨i3, ei3⟩ : ∃ y_ : Int32, y_ = iB + 1 := ⟨_, rfl⟩
                        refine lv_iinc (v := i3) (lv' := [(8, .int i3), (0, .ref (ad 0)), (1, .int f_), (2, .int x_), (3, .int y_), (4, .int w_), (5, .int mk), (6, .int cnt), (7, .int fst)]) hx hb_ dX11_ends_122 hl (k := 8) rfl (by rw [ei3]; rfl) (by decide) rfl (fun ls hl => ?_)
                        refine lv_goto (tgt := 83) hx hb_ dX11_ends_125 (by decide) ?_
                        have hb_ : ¬ cB f0 x_ y_ (pop jB) = true := fun q_ => c_102 (by rw [hv10]; exact hP.2 q_)
                        exact ihB (jB + 1) i3 (by rw [ei3, eiB]; exact nI_1 jB) hlt (by omega) _ _ (by show _ = eS1 (cB f0 x_ y_ (pop jB)) jB _; rw [eS1, if_neg hb_]; exact hcf2) _ _ hw ls (lv_sub hl [1, 2, 3, 4, 5, 6, 7, 8, 0] rfl)
                      · refine lv_iload hx hb_ dX11_ends_105 (lv_at hl 6 rfl) ?_
                        refine lv_if_ne (tgt := 115) hx hb_ dX11_ends_107 (by decide) (fun c_107 => ?_) (fun c_107 => ?_)
                        · refine lv_iload hx hb_ dX11_ends_115 (lv_at hl 7 rfl) ?_
                          refine lv_istore (lv' := [(7, .int fst), (0, .ref (ad 0)), (1, .int f_), (2, .int x_), (3, .int y_), (4, .int w_), (5, .int mk), (6, .int cnt), (8, .int iB)]) hx hb_ dX11_ends_117 hl (by decide) rfl (fun ls hl => ?_)
                          refine lv_iinc (v := (cnt + 1)) (lv' := [(6, .int (cnt + 1)), (7, .int fst), (0, .ref (ad 0)), (1, .int f_), (2, .int x_), (3, .int y_), (4, .int w_), (5, .int mk), (8, .int iB)]) hx hb_ dX11_ends_119 hl (k := 7) rfl rfl (by decide) rfl (fun ls hl => ?_)
                          obtain ⟨i3, ei3⟩ : ∃ y_ : Int32, y_ = iB + 1 := ⟨_, rfl⟩
                          refine lv_iinc (v := i3) (lv' := [(8, .int i3), (6, .int (cnt + 1)), (7, .int fst), (0, .ref (ad 0)), (1, .int f_), (2, .int x_), (3, .int y_), (4, .int w_), (5, .int mk)]) hx hb_ dX11_ends_122 hl (k := 8) rfl (by rw [ei3]; rfl) (by decide) rfl (fun ls hl => ?_)
                          refine lv_goto (tgt := 83) hx hb_ dX11_ends_125 (by decide) ?_
                          have hb_ : cB f0 x_ y_ (pop jB) = true := hP.1 (by rw [← hv10]; exact c_102)
                          exact ihB (jB + 1) i3 (by rw [ei3, eiB]; exact nI_1 jB) hlt (by omega) _ _ (by show _ = eS1 (cB f0 x_ y_ (pop jB)) jB _; rw [eS1, if_pos hb_, ← hcf2, ← eiB]; simp [c_107]) _ _ hw ls (lv_sub hl [3, 4, 5, 6, 7, 8, 1, 2, 0] rfl)
                        · refine lv_iload hx hb_ dX11_ends_110 (lv_at hl 8 rfl) ?_
                          refine lv_goto (tgt := 117) hx hb_ dX11_ends_112 (by decide) ?_
                          refine lv_istore (lv' := [(7, .int iB), (0, .ref (ad 0)), (1, .int f_), (2, .int x_), (3, .int y_), (4, .int w_), (5, .int mk), (6, .int cnt), (8, .int iB)]) hx hb_ dX11_ends_117 hl (by decide) rfl (fun ls hl => ?_)
                          refine lv_iinc (v := (cnt + 1)) (lv' := [(6, .int (cnt + 1)), (7, .int iB), (0, .ref (ad 0)), (1, .int f_), (2, .int x_), (3, .int y_), (4, .int w_), (5, .int mk), (8, .int iB)]) hx hb_ dX11_ends_119 hl (k := 7) rfl rfl (by decide) rfl (fun ls hl => ?_)
                          obtain ⟨i3, ei3⟩ : ∃ y_ : Int32, y_ = iB + 1 := ⟨_, rfl⟩
                          refine lv_iinc (v := i3) (lv' := [(8, .int i3), (6, .int (cnt + 1)), (7, .int iB), (0, .ref (ad 0)), (1, .int f_), (2, .int x_), (3, .int y_), (4, .int w_), (5, .int mk)]) hx hb_ dX11_ends_122 hl (k := 8) rfl (by rw [ei3]; rfl) (by decide) rfl (fun ls hl => ?_)
                          refine lv_goto (tgt := 83) hx hb_ dX11_ends_125 (by decide) ?_
                          have hb_ : cB f0 x_ y_ (pop jB) = true := hP.1 (by rw [← hv10]; exact c_102)
                          exact ihB (jB + 1) i3 (by rw [ei3, eiB]; exact nI_1 jB) hlt (by omega) _ _ (by show _ = eS1 (cB f0 x_ y_ (pop jB)) jB _; rw [eS1, if_pos hb_, ← hcf2, ← eiB]; simp [c_107]) _ _ hw ls (lv_sub hl [3, 4, 5, 6, 7, 8, 1, 2, 0] rfl)
                exact JB (2 ^ f0 + 1) 0 0 nI_0.symm (Nat.zero_le _) (by omega) 0 (-1) rfl _ _ hw ls (lv_sub hl [3, 4, 5, 6, 7, 8, 2, 1, 0] rfl)
              · have hlt : jA < f0 + 1 := by rw [zx_lt, ef, eiA, nI_toInt (by omega), nI_toInt (by omega)] at c_45; omega
                refine lv_iload_n hx hb_ dX11_ends_48 rfl (lv_at hl 1 rfl) ?_
                refine lv_iload hx hb_ dX11_ends_49 (lv_at hl 6 rfl) ?_
                refine lv_iload_n hx hb_ dX11_ends_51 rfl (lv_at hl 2 rfl) ?_
                refine lv_iload_n hx hb_ dX11_ends_52 rfl (lv_at hl 3 rfl) ?_
                refine z_call hw hA (rl_RX11_0_328_99 p_ l e_ _ s_ m_ args_ below_ meth_ c_ _ _ _ _ xs cD cy A_ _ _ _ _ 53 ls [] [.int f_, .int iA, .int x_, .int y_] _ _ 0 0 _ hM hw rfl (Or.inl rfl) (c_X11_endsAt l cD cy _ S_ f_ iA x_ y_ f0 ef hf10) rfl rfl (by decide) (by decide) (show (0 : Nat) ≤ 8 by decide) dX11_ends_53 ⟨Nat.le_refl _, Nat.le_refl _⟩ hl.1) (fun rv_ S13 ρ2 H_ locs_ hp hw => ?_)
                obtain ⟨v12, rfl, hp⟩ := hp
                obtain ⟨hv12, rfl⟩ := hp
                refine lv_if_eq (tgt := 68) hx hb_ dX11_ends_56 (by decide) (fun c_56 => ?_) (fun c_56 => ?_)
                · obtain ⟨i2_, ei2⟩ : ∃ y_ : Int32, y_ = iA + 1 := ⟨_, rfl⟩
                  refine lv_iinc (v := i2_) (lv' := [(6, .int i2_), (0, .ref (ad 0)), (1, .int f_), (2, .int x_), (3, .int y_), (4, .int w_), (5, .int mk)]) hx hb_ dX11_ends_68 hl (k := 6) rfl (by rw [ei2]; rfl) (by decide) rfl (fun ls hl => ?_)
                  refine lv_goto (tgt := 42) hx hb_ dX11_ends_71 (by decide) ?_
                  have hb_ : ¬ cB f0 x_ y_ jA = true := fun q_ => by rw [hv12, eiA, if_pos (of_decide_eq_true q_)] at c_56; exact absurd c_56 (by decide)
                  exact ihA (jA + 1) i2_ (by rw [ei2, eiA]; exact nI_1 jA) (by omega) (by omega) _ (by rw [cMk_f hb_]; exact hmk) _ _ hw ls (lv_sub hl [1, 2, 3, 4, 5, 6, 0] rfl)
                · refine lv_iload hx hb_ dX11_ends_59 (lv_at hl 5 rfl) ?_
                  refine lv_iconst (v := 1) hx hb_ dX11_ends_61 (by decide) ?_
                  refine lv_iload hx hb_ dX11_ends_62 (lv_at hl 6 rfl) ?_
                  refine lv_ishl hx hb_ dX11_ends_64 ?_
                  refine lv_ior hx hb_ dX11_ends_65 ?_
                  refine lv_istore (lv' := [(5, .int (mk ||| (1 <<< (iA &&& 31)))), (0, .ref (ad 0)), (1, .int f_), (2, .int x_), (3, .int y_), (4, .int w_), (6, .int iA)]) hx hb_ dX11_ends_66 hl (by decide) rfl (fun ls hl => ?_)
                  obtain ⟨i2_, ei2⟩ : ∃ y_ : Int32, y_ = iA + 1 := ⟨_, rfl⟩
                  refine lv_iinc (v := i2_) (lv' := [(6, .int i2_), (5, .int (mk ||| (1 <<< (iA &&& 31)))), (0, .ref (ad 0)), (1, .int f_), (2, .int x_), (3, .int y_), (4, .int w_)]) hx hb_ dX11_ends_68 hl (k := 6) rfl (by rw [ei2]; rfl) (by decide) rfl (fun ls hl => ?_)
                  refine lv_goto (tgt := 42) hx hb_ dX11_ends_71 (by decide) ?_
                  have hb_ : cB f0 x_ y_ jA = true := decide_eq_true (Classical.byContradiction fun q_ => c_56 (by rw [hv12, eiA, if_neg q_]))
                  exact ihA (jA + 1) i2_ (by rw [ei2, eiA]; exact nI_1 jA) (by omega) (by omega) _ (by rw [cMk_t hb_, ← hmk, ← eiA]) _ _ hw ls (lv_sub hl [2, 3, 4, 5, 6, 1, 0] rfl)
          exact JA (f0 + 2) 0 0 nI_0.symm (Nat.zero_le _) (by omega) 0 rfl _ _ hw ls (lv_sub hl [2, 3, 4, 5, 6, 1, 0] rfl)
        · refine lv_aload_n hx hb_ dX11_ends_29 rfl (lv_at hl 0 rfl) ?_
          refine lv_bipush (v := (-6)) hx hb_ dX11_ends_30 (by decide) ?_
          refine cl_refuse hb0 hM hA hV hw ⟨by decide, by decide, by decide, by decide⟩ (show (0 : Nat) ≤ 8 by decide) hl.1 dX11_ends_32 (fun S1 ρ1 H_ locs_ hV hw => ?_)
          exact z_iretW (v := (-6)) hcf hr hlk hw hP hV (by simp [q_ends, c_2, c_8, c_20, c_26]) dX11_ends_35
    · refine lv_aload_n hx hb_ dX11_ends_11 rfl (lv_at hl 0 rfl) ?_
      refine lv_bipush (v := (-5)) hx hb_ dX11_ends_12 (by decide) ?_
      refine cl_refuse hb0 hM hA hV hw ⟨by decide, by decide, by decide, by decide⟩ (show (0 : Nat) ≤ 8 by decide) hl.1 dX11_ends_14 (fun S1 ρ1 H_ locs_ hV hw => ?_)
      exact z_iretW (v := (-5)) hcf hr hlk hw hP hV (by simp [q_ends, c_2, c_8]) dX11_ends_17
set_option maxHeartbeats 1000000 in
set_option maxRecDepth 100000 in
theorem c_X12_turnX {xs ad : Nat → Nat} {ρ : Nat → Nat} (l : Launch) (cD : va_G) (cy : Nat → ClassId) (sz_ : Nat) (S_ : zS) (hSh : Typed zT ad S_ ρ) (x_ y_ : Int64) (q_ : Int32) : Met l yX12_turnX (Cond.code yX12_turnX cX12_turnX 7 (some .long) :: TB) ({ frames := 0, cells := 0, slots := 0, locals := 0 } : Room) (va_Pc [.ref (ad 17), .long x_, .long y_, .int q_] (zPre xs cD cy S_ sz_)) (QX cD cy (PJ (fun (v_ : Int64) (S1 : zS) => v_ = tX x_ y_ q_ ∧ S_ = S1)) (zAd cy S_ sz_)) 0 0 (zAd cy S_ sz_) := by
  refine z_ofW (QQ := QX cD cy (PJ (fun (v_ : Int64) (S1 : zS) => v_ = tX x_ y_ q_ ∧ S_ = S1))) (own := RX12) (by decide +kernel) rfl rfl (Nat.le_of_ble_eq_true rfl) ?_
  intro p_ e_ s_ m_ args_ below_ meth_ c_ A_ ls hcf hr hlk hnm hK_ hE hZ hw hA hl
  have hM : MX xs cD cy A_ p_ s_ m_ args_ c_ cX12_turnX 7 (Cond.code yX12_turnX cX12_turnX 7 (some .long) :: TB) RX12 := ⟨hcf, fun w hw => List.mem_cons_of_mem _ hw, hK_, hE, hZ, hA⟩
  obtain ⟨hx, hb_, hml, hown, hts⟩ := id hcf
  have hl : lv_has ls 7 [(0, .ref (ad 17)), (1, .long x_), (3, .long y_), (5, .int q_)] := hl
  refine lv_iload hx hb_ dX12_turnX_0 (lv_at hl 3 rfl) ?_
  refine lv_iconst (v := 3) hx hb_ dX12_turnX_2 (by decide) ?_
  refine lv_iand hx hb_ dX12_turnX_3 ?_
  refine lv_topi (fun k_ ek => ?_)
  refine lv_istore (lv' := [(6, .int k_), (0, .ref (ad 17)), (1, .long x_), (3, .long y_), (5, .int q_)]) hx hb_ dX12_turnX_4 hl (by decide) rfl (fun ls hl => ?_)
  refine lv_iload hx hb_ dX12_turnX_6 (lv_at hl 0 rfl) ?_
  refine lv_if_ne (tgt := 15) hx hb_ dX12_turnX_8 (by decide) (fun c_8 => ?_) (fun c_8 => ?_)
  · refine lv_iload hx hb_ dX12_turnX_15 (lv_at hl 0 rfl) ?_
    refine lv_iconst (v := 1) hx hb_ dX12_turnX_17 (by decide) ?_
    refine lv_icmp_ne (tgt := 26) hx hb_ dX12_turnX_18 (by decide) (fun c_18 => ?_) (fun c_18 => ?_)
    · refine lv_iload hx hb_ dX12_turnX_26 (lv_at hl 0 rfl) ?_
      refine lv_iconst (v := 2) hx hb_ dX12_turnX_28 (by decide) ?_
      refine lv_icmp_ne (tgt := 37) hx hb_ dX12_turnX_29 (by decide) (fun c_29 => ?_) (fun c_29 => ?_)
      · refine lv_lload_n hx hb_ dX12_turnX_37 rfl (lv_at hl 3 rfl) ?_
        exact z_lretI (v := y_) hcf hr hlk hw (⟨by simp [tX, ← ek, c_8, c_18, c_29], rfl⟩) dX12_turnX_38
      · refine lv_lload_n hx hb_ dX12_turnX_32 rfl (lv_at hl 2 rfl) ?_
        refine lv_lneg hx hb_ dX12_turnX_33 ?_
        refine lv_goto (tgt := 38) hx hb_ dX12_turnX_34 (by decide) ?_
        exact z_lretI (v := (-x_)) hcf hr hlk hw (⟨by simp [tX, ← ek, c_8, c_18, c_29], rfl⟩) dX12_turnX_38
    · refine lv_lload_n hx hb_ dX12_turnX_21 rfl (lv_at hl 3 rfl) ?_
      refine lv_lneg hx hb_ dX12_turnX_22 ?_
      refine lv_goto (tgt := 38) hx hb_ dX12_turnX_23 (by decide) ?_
      exact z_lretI (v := (-y_)) hcf hr hlk hw (⟨by simp [tX, ← ek, c_8, c_18], rfl⟩) dX12_turnX_38
  · refine lv_lload_n hx hb_ dX12_turnX_11 rfl (lv_at hl 2 rfl) ?_
    refine lv_goto (tgt := 38) hx hb_ dX12_turnX_12 (by decide) ?_
    exact z_lretI (v := x_) hcf hr hlk hw (⟨by simp [tX, ← ek, c_8], rfl⟩) dX12_turnX_38
set_option maxHeartbeats 1000000 in
set_option maxRecDepth 100000 in
theorem c_X12_turnY {xs ad : Nat → Nat} {ρ : Nat → Nat} (l : Launch) (cD : va_G) (cy : Nat → ClassId) (sz_ : Nat) (S_ : zS) (hSh : Typed zT ad S_ ρ) (x_ y_ : Int64) (q_ : Int32) : Met l yX12_turnY (Cond.code yX12_turnY cX12_turnY 7 (some .long) :: TB) ({ frames := 0, cells := 0, slots := 0, locals := 0 } : Room) (va_Pc [.ref (ad 17), .long x_, .long y_, .int q_] (zPre xs cD cy S_ sz_)) (QX cD cy (PJ (fun (v_ : Int64) (S1 : zS) => v_ = tY x_ y_ q_ ∧ S_ = S1)) (zAd cy S_ sz_)) 0 0 (zAd cy S_ sz_) := by
  refine z_ofW (QQ := QX cD cy (PJ (fun (v_ : Int64) (S1 : zS) => v_ = tY x_ y_ q_ ∧ S_ = S1))) (own := RX12) (by decide +kernel) rfl rfl (Nat.le_of_ble_eq_true rfl) ?_
  intro p_ e_ s_ m_ args_ below_ meth_ c_ A_ ls hcf hr hlk hnm hK_ hE hZ hw hA hl
  have hM : MX xs cD cy A_ p_ s_ m_ args_ c_ cX12_turnY 7 (Cond.code yX12_turnY cX12_turnY 7 (some .long) :: TB) RX12 := ⟨hcf, fun w hw => List.mem_cons_of_mem _ hw, hK_, hE, hZ, hA⟩
  obtain ⟨hx, hb_, hml, hown, hts⟩ := id hcf
  have hl : lv_has ls 7 [(0, .ref (ad 17)), (1, .long x_), (3, .long y_), (5, .int q_)] := hl
  refine lv_iload hx hb_ dX12_turnY_0 (lv_at hl 3 rfl) ?_
  refine lv_iconst (v := 3) hx hb_ dX12_turnY_2 (by decide) ?_
  refine lv_iand hx hb_ dX12_turnY_3 ?_
  refine lv_topi (fun k_ ek => ?_)
  refine lv_istore (lv' := [(6, .int k_), (0, .ref (ad 17)), (1, .long x_), (3, .long y_), (5, .int q_)]) hx hb_ dX12_turnY_4 hl (by decide) rfl (fun ls hl => ?_)
  refine lv_iload hx hb_ dX12_turnY_6 (lv_at hl 0 rfl) ?_
  refine lv_if_ne (tgt := 15) hx hb_ dX12_turnY_8 (by decide) (fun c_8 => ?_) (fun c_8 => ?_)
  · refine lv_iload hx hb_ dX12_turnY_15 (lv_at hl 0 rfl) ?_
    refine lv_iconst (v := 1) hx hb_ dX12_turnY_17 (by decide) ?_
    refine lv_icmp_ne (tgt := 25) hx hb_ dX12_turnY_18 (by decide) (fun c_18 => ?_) (fun c_18 => ?_)
    · refine lv_iload hx hb_ dX12_turnY_25 (lv_at hl 0 rfl) ?_
      refine lv_iconst (v := 2) hx hb_ dX12_turnY_27 (by decide) ?_
      refine lv_icmp_ne (tgt := 36) hx hb_ dX12_turnY_28 (by decide) (fun c_28 => ?_) (fun c_28 => ?_)
      · refine lv_lload_n hx hb_ dX12_turnY_36 rfl (lv_at hl 2 rfl) ?_
        refine lv_lneg hx hb_ dX12_turnY_37 ?_
        exact z_lretI (v := (-x_)) hcf hr hlk hw (⟨by simp [tY, ← ek, c_8, c_18, c_28], rfl⟩) dX12_turnY_38
      · refine lv_lload_n hx hb_ dX12_turnY_31 rfl (lv_at hl 3 rfl) ?_
        refine lv_lneg hx hb_ dX12_turnY_32 ?_
        refine lv_goto (tgt := 38) hx hb_ dX12_turnY_33 (by decide) ?_
        exact z_lretI (v := (-y_)) hcf hr hlk hw (⟨by simp [tY, ← ek, c_8, c_18, c_28], rfl⟩) dX12_turnY_38
    · refine lv_lload_n hx hb_ dX12_turnY_21 rfl (lv_at hl 2 rfl) ?_
      refine lv_goto (tgt := 38) hx hb_ dX12_turnY_22 (by decide) ?_
      exact z_lretI (v := x_) hcf hr hlk hw (⟨by simp [tY, ← ek, c_8, c_18], rfl⟩) dX12_turnY_38
  · refine lv_lload_n hx hb_ dX12_turnY_11 rfl (lv_at hl 3 rfl) ?_
    refine lv_goto (tgt := 38) hx hb_ dX12_turnY_12 (by decide) ?_
    exact z_lretI (v := y_) hcf hr hlk hw (⟨by simp [tY, ← ek, c_8], rfl⟩) dX12_turnY_38
set_option maxHeartbeats 1000000 in
set_option maxRecDepth 100000 in
theorem c_X12_endOf {xs ad : Nat → Nat} {ρ : Nat → Nat} (l : Launch) (cD : va_G) (cy : Nat → ClassId) (sz_ : Nat) (S_ : zS) (hSh : Typed zT ad S_ ρ) (f_ sd : Int32) (f0 : Nat) (ef : f_ = nI f0) (hf0 : f0 ≤ 10) : Met l yX12_endOf (Cond.code yX12_endOf cX12_endOf 25 none :: TB) ({ frames := 1, cells := 0, slots := 0, locals := 26 } : Room) (va_Pc [.ref (ad 17), .int f_, .int sd] (zPre xs cD cy S_ sz_)) (QX cD cy (PN (fun (S1 : zS) => S1 = zsJ (zsJ S_ 1231 (ad 17) (mE sd f0).1) 1232 (ad 17) (mE sd f0).2.1)) (zAd cy S_ sz_)) 0 0 (zAd cy S_ sz_) := by
  refine z_ofW (QQ := QX cD cy (PN (fun (S1 : zS) => S1 = zsJ (zsJ S_ 1231 (ad 17) (mE sd f0).1) 1232 (ad 17) (mE sd f0).2.1))) (own := RX12) (by decide +kernel) rfl rfl (Nat.le_of_ble_eq_true rfl) ?_
  intro p_ e_ s_ m_ args_ below_ meth_ c_ A_ ls hcf hr hlk hnm hK_ hE hZ hw hA hl
  have hM : MX xs cD cy A_ p_ s_ m_ args_ c_ cX12_endOf 25 (Cond.code yX12_endOf cX12_endOf 25 none :: TB) RX12 := ⟨hcf, fun w hw => List.mem_cons_of_mem _ hw, hK_, hE, hZ, hA⟩
  obtain ⟨hx, hb_, hml, hown, hts⟩ := id hcf
  have hl : lv_has ls 25 [(0, .ref (ad 17)), (1, .int f_), (2, .int sd)] := hl
  refine lv_lconst (v := 1) hx hb_ dX12_endOf_0 (by decide) ?_
  refine lv_lstore_n (lv' := [(3, .long 1), (0, .ref (ad 17)), (1, .int f_), (2, .int sd)]) hx hb_ dX12_endOf_1 rfl hl (by decide) rfl (fun ls hl => ?_)
  refine lv_lconst (v := 0) hx hb_ dX12_endOf_2 (by decide) ?_
  refine lv_lstore (lv' := [(5, .long 0), (3, .long 1), (0, .ref (ad 17)), (1, .int f_), (2, .int sd)]) hx hb_ dX12_endOf_3 hl (by decide) rfl (fun ls hl => ?_)
  refine lv_lconst (v := 1) hx hb_ dX12_endOf_5 (by decide) ?_
  refine lv_lstore (lv' := [(7, .long 1), (5, .long 0), (3, .long 1), (0, .ref (ad 17)), (1, .int f_), (2, .int sd)]) hx hb_ dX12_endOf_6 hl (by decide) rfl (fun ls hl => ?_)
  refine lv_lconst (v := 0) hx hb_ dX12_endOf_8 (by decide) ?_
  refine lv_lstore (lv' := [(9, .long 0), (7, .long 1), (5, .long 0), (3, .long 1), (0, .ref (ad 17)), (1, .int f_), (2, .int sd)]) hx hb_ dX12_endOf_9 hl (by decide) rfl (fun ls hl => ?_)
  refine lv_iconst (v := 0) hx hb_ dX12_endOf_11 (by decide) ?_
  refine lv_istore (lv' := [(11, .int 0), (9, .long 0), (7, .long 1), (5, .long 0), (3, .long 1), (0, .ref (ad 17)), (1, .int f_), (2, .int sd)]) hx hb_ dX12_endOf_12 hl (by decide) rfl (fun ls hl => ?_)
  refine lv_iconst (v := 0) hx hb_ dX12_endOf_14 (by decide) ?_
  refine lv_istore (lv' := [(12, .int 0), (11, .int 0), (9, .long 0), (7, .long 1), (5, .long 0), (3, .long 1), (0, .ref (ad 17)), (1, .int f_), (2, .int sd)]) hx hb_ dX12_endOf_15 hl (by decide) rfl (fun ls hl => ?_)
  refine lv_iconst (v := 0) hx hb_ dX12_endOf_17 (by decide) ?_
  refine lv_istore (lv' := [(13, .int 0), (12, .int 0), (11, .int 0), (9, .long 0), (7, .long 1), (5, .long 0), (3, .long 1), (0, .ref (ad 17)), (1, .int f_), (2, .int sd)]) hx hb_ dX12_endOf_18 hl (by decide) rfl (fun ls hl => ?_)
  have JA : ∀ (nA jA : Nat) (iA : Int32), iA = nI jA → jA ≤ f0 → f0 < jA + nA → ∀ (a1 a2 a3 a4 : Int64) (a5 a6 : Int32), (a1, a2, a3, a4, a5, a6) = mE sd jA → ∀ (H_ : Heap) (locs_ : List Loc), zPw cD cy A_ s_.heap S_ H_ locs_ → ∀ ls : Array Slot, lv_has ls 25 [(0, .ref (ad 17)), (1, .int f_), (2, .int sd), (3, .long a1), (5, .long a2), (7, .long a3), (9, .long a4), (11, .int a5), (12, .int a6), (13, .int iA)] → W p_ l e_ ({ frames := 1, cells := 0, slots := 0, locals := 26 } : Room) s_ m_ args_ below_ meth_ c_ H_ locs_ 0 0 (MQ below_ (QX cD cy (PN (fun (S1 : zS) => S1 = zsJ (zsJ S_ 1231 (ad 17) (mE sd f0).1) 1232 (ad 17) (mE sd f0).2.1)) A_) args_ s_ 0 0 A_) (F0 m_ 20 ls []) := by
    intro nA
    induction nA with
    | zero => intro jA iA _ hjA h_; exact absurd h_ (by omega)
    | succ nA ihA =>
      intro jA iA eiA hjA hmA a1 a2 a3 a4 a5 a6 ha H_ locs_ hw ls hl
      refine lv_iload hx hb_ dX12_endOf_20 (lv_at hl 9 rfl) ?_
      refine lv_iload_n hx hb_ dX12_endOf_22 rfl (lv_at hl 1 rfl) ?_
      refine lv_icmp_ge (tgt := 150) hx hb_ dX12_endOf_23 (by decide) (fun c_23 => ?_) (fun c_23 => ?_)
      · refine lv_aload_n hx hb_ dX12_endOf_150 rfl (lv_at hl 0 rfl) ?_
        refine lv_lload_n hx hb_ dX12_endOf_151 rfl (lv_at hl 3 rfl) ?_
        refine pl_31 hM hSh hw dX12_endOf_152 (fun H_ locs_ hw => ?_)
        refine lv_aload_n hx hb_ dX12_endOf_155 rfl (lv_at hl 0 rfl) ?_
        refine lv_lload hx hb_ dX12_endOf_156 (lv_at hl 4 rfl) ?_
        refine pl_32 hM (ty_J hSh) hw dX12_endOf_158 (fun H_ locs_ hw => ?_)
        exact z_vretI hcf hr hlk hw (by have hj : jA = f0 := (by have := zn_ge eiA ef (by omega) c_23; omega); rw [← hj, ← ha]) dX12_endOf_161
      · have hlt : jA < f0 := zn_lt eiA ef (by omega) c_23
        refine lv_iload_n hx hb_ dX12_endOf_26 rfl (lv_at hl 2 rfl) ?_
        refine lv_iload hx hb_ dX12_endOf_27 (lv_at hl 9 rfl) ?_
        refine lv_ishr hx hb_ dX12_endOf_29 ?_
        refine lv_iconst (v := 1) hx hb_ dX12_endOf_30 (by decide) ?_
        refine lv_iand hx hb_ dX12_endOf_31 ?_
        refine lv_iconst (v := 1) hx hb_ dX12_endOf_32 (by decide) ?_
        refine lv_icmp_ne (tgt := 40) hx hb_ dX12_endOf_33 (by decide) (fun c_33 => ?_) (fun c_33 => ?_)
        · refine lv_iconst (v := (-1)) hx hb_ dX12_endOf_40 (by decide) ?_
          refine lv_istore (lv' := [(14, .int (-1)), (0, .ref (ad 17)), (1, .int f_), (2, .int sd), (3, .long a1), (5, .long a2), (7, .long a3), (9, .long a4), (11, .int a5), (12, .int a6), (13, .int iA)]) hx hb_ dX12_endOf_41 hl (by decide) rfl (fun ls hl => ?_)
          refine lv_iload hx hb_ dX12_endOf_43 (lv_at hl 8 rfl) ?_
          refine lv_iload hx hb_ dX12_endOf_45 (lv_at hl 0 rfl) ?_
          refine lv_iadd hx hb_ dX12_endOf_47 ?_
          refine lv_istore (lv' := [(15, .int (a5 + (-1))), (14, .int (-1)), (0, .ref (ad 17)), (1, .int f_), (2, .int sd), (3, .long a1), (5, .long a2), (7, .long a3), (9, .long a4), (11, .int a5), (12, .int a6), (13, .int iA)]) hx hb_ dX12_endOf_48 hl (by decide) rfl (fun ls hl => ?_)
          refine lv_iload hx hb_ dX12_endOf_50 (lv_at hl 9 rfl) ?_
          refine lv_iload hx hb_ dX12_endOf_52 (lv_at hl 1 rfl) ?_
          refine lv_isub hx hb_ dX12_endOf_54 ?_
          refine lv_istore (lv' := [(16, .int (a5 - (-1))), (15, .int (a5 + (-1))), (14, .int (-1)), (0, .ref (ad 17)), (1, .int f_), (2, .int sd), (3, .long a1), (5, .long a2), (7, .long a3), (9, .long a4), (11, .int a5), (12, .int a6), (13, .int iA)]) hx hb_ dX12_endOf_55 hl (by decide) rfl (fun ls hl => ?_)
          refine lv_lload_n hx hb_ dX12_endOf_57 rfl (lv_at hl 6 rfl) ?_
          refine lv_aload_n hx hb_ dX12_endOf_58 rfl (lv_at hl 3 rfl) ?_
          refine lv_lload hx hb_ dX12_endOf_59 (lv_at hl 8 rfl) ?_
          refine lv_lload hx hb_ dX12_endOf_61 (lv_at hl 9 rfl) ?_
          refine lv_iload hx hb_ dX12_endOf_63 (lv_at hl 1 rfl) ?_
          refine z_call hw hA (rl_RX12_2_248_12 p_ l e_ _ s_ m_ args_ below_ meth_ c_ _ _ _ _ xs cD cy A_ _ _ _ _ 65 ls [.long a1] [.ref (ad 17), .long a3, .long a4, .int (a5 + (-1))] _ _ 0 0 _ hM hw rfl (Or.inr (Or.inl ⟨by decide, _, _, rfl, (ty_cel hSh (r := 17) (by decide +kernel) rfl).1, (ty_cel hSh (r := 17) (by decide +kernel) rfl).2.2.1⟩)) (c_X12_turnX l cD cy _ S_ hSh a3 a4 (a5 + (-1))) rfl rfl (by decide) (by decide) (show (2 : Nat) ≤ 8 by decide) dX12_endOf_65 ⟨Nat.le_refl _, Nat.le_refl _⟩ hl.1) (fun rv_ S2 ρ2 H_ locs_ hp hw => ?_)
          obtain ⟨v1, rfl, hp⟩ := hp
          obtain ⟨hv1, rfl⟩ := hp
          refine lv_ladd hx hb_ dX12_endOf_68 ?_
          refine lv_lstore (lv' := [(17, .long (a1 + v1)), (16, .int (a5 - (-1))), (15, .int (a5 + (-1))), (14, .int (-1)), (0, .ref (ad 17)), (1, .int f_), (2, .int sd), (3, .long a1), (5, .long a2), (7, .long a3), (9, .long a4), (11, .int a5), (12, .int a6), (13, .int iA)]) hx hb_ dX12_endOf_69 hl (by decide) rfl (fun ls hl => ?_)
          refine lv_lload hx hb_ dX12_endOf_71 (lv_at hl 8 rfl) ?_
          refine lv_aload_n hx hb_ dX12_endOf_73 rfl (lv_at hl 4 rfl) ?_
          refine lv_lload hx hb_ dX12_endOf_74 (lv_at hl 9 rfl) ?_
          refine lv_lload hx hb_ dX12_endOf_76 (lv_at hl 10 rfl) ?_
          refine lv_iload hx hb_ dX12_endOf_78 (lv_at hl 2 rfl) ?_
          refine z_call hw hA (rl_RX12_2_252_12 p_ l e_ _ s_ m_ args_ below_ meth_ c_ _ _ _ _ xs cD cy A_ _ _ _ _ 80 ls [.long a2] [.ref (ad 17), .long a3, .long a4, .int (a5 + (-1))] _ _ 0 0 _ hM hw rfl (Or.inr (Or.inl ⟨by decide, _, _, rfl, (ty_cel hSh (r := 17) (by decide +kernel) rfl).1, (ty_cel hSh (r := 17) (by decide +kernel) rfl).2.2.1⟩)) (c_X12_turnY l cD cy _ S_ hSh a3 a4 (a5 + (-1))) rfl rfl (by decide) (by decide) (show (2 : Nat) ≤ 8 by decide) dX12_endOf_80 ⟨Nat.le_refl _, Nat.le_refl _⟩ hl.1) (fun rv_ S4 ρ2 H_ locs_ hp hw => ?_)
          obtain ⟨v3, rfl, hp⟩ := hp
          obtain ⟨hv3, rfl⟩ := hp
          refine lv_ladd hx hb_ dX12_endOf_83 ?_
          refine lv_lstore (lv' := [(19, .long (a2 + v3)), (17, .long (a1 + v1)), (16, .int (a5 - (-1))), (15, .int (a5 + (-1))), (14, .int (-1)), (0, .ref (ad 17)), (1, .int f_), (2, .int sd), (3, .long a1), (5, .long a2), (7, .long a3), (9, .long a4), (11, .int a5), (12, .int a6), (13, .int iA)]) hx hb_ dX12_endOf_84 hl (by decide) rfl (fun ls hl => ?_)
          refine lv_lload_n hx hb_ dX12_endOf_86 rfl (lv_at hl 8 rfl) ?_
          refine lv_aload_n hx hb_ dX12_endOf_87 rfl (lv_at hl 5 rfl) ?_
          refine lv_lload hx hb_ dX12_endOf_88 (lv_at hl 10 rfl) ?_
          refine lv_lload hx hb_ dX12_endOf_90 (lv_at hl 11 rfl) ?_
          refine lv_iload hx hb_ dX12_endOf_92 (lv_at hl 2 rfl) ?_
          refine z_call hw hA (rl_RX12_2_248_12 p_ l e_ _ s_ m_ args_ below_ meth_ c_ _ _ _ _ xs cD cy A_ _ _ _ _ 94 ls [.long a1] [.ref (ad 17), .long a3, .long a4, .int (a5 - (-1))] _ _ 0 0 _ hM hw rfl (Or.inr (Or.inl ⟨by decide, _, _, rfl, (ty_cel hSh (r := 17) (by decide +kernel) rfl).1, (ty_cel hSh (r := 17) (by decide +kernel) rfl).2.2.1⟩)) (c_X12_turnX l cD cy _ S_ hSh a3 a4 (a5 - (-1))) rfl rfl (by decide) (by decide) (show (2 : Nat) ≤ 8 by decide) dX12_endOf_94 ⟨Nat.le_refl _, Nat.le_refl _⟩ hl.1) (fun rv_ S6 ρ2 H_ locs_ hp hw => ?_)
          obtain ⟨v5, rfl, hp⟩ := hp
          obtain ⟨hv5, rfl⟩ := hp
          refine lv_ladd hx hb_ dX12_endOf_97 ?_
          refine lv_lstore (lv' := [(21, .long (a1 + v5)), (19, .long (a2 + v3)), (17, .long (a1 + v1)), (16, .int (a5 - (-1))), (15, .int (a5 + (-1))), (14, .int (-1)), (0, .ref (ad 17)), (1, .int f_), (2, .int sd), (3, .long a1), (5, .long a2), (7, .long a3), (9, .long a4), (11, .int a5), (12, .int a6), (13, .int iA)]) hx hb_ dX12_endOf_98 hl (by decide) rfl (fun ls hl => ?_)
          refine lv_lload hx hb_ dX12_endOf_100 (lv_at hl 10 rfl) ?_
          refine lv_aload_n hx hb_ dX12_endOf_102 rfl (lv_at hl 6 rfl) ?_
          refine lv_lload hx hb_ dX12_endOf_103 (lv_at hl 11 rfl) ?_
          refine lv_lload hx hb_ dX12_endOf_105 (lv_at hl 12 rfl) ?_
          refine lv_iload hx hb_ dX12_endOf_107 (lv_at hl 3 rfl) ?_
          refine z_call hw hA (rl_RX12_2_252_12 p_ l e_ _ s_ m_ args_ below_ meth_ c_ _ _ _ _ xs cD cy A_ _ _ _ _ 109 ls [.long a2] [.ref (ad 17), .long a3, .long a4, .int (a5 - (-1))] _ _ 0 0 _ hM hw rfl (Or.inr (Or.inl ⟨by decide, _, _, rfl, (ty_cel hSh (r := 17) (by decide +kernel) rfl).1, (ty_cel hSh (r := 17) (by decide +kernel) rfl).2.2.1⟩)) (c_X12_turnY l cD cy _ S_ hSh a3 a4 (a5 - (-1))) rfl rfl (by decide) (by decide) (show (2 : Nat) ≤ 8 by decide) dX12_endOf_109 ⟨Nat.le_refl _, Nat.le_refl _⟩ hl.1) (fun rv_ S8 ρ2 H_ locs_ hp hw => ?_)
          obtain ⟨v7, rfl, hp⟩ := hp
          obtain ⟨hv7, rfl⟩ := hp
          refine lv_ladd hx hb_ dX12_endOf_112 ?_
          refine lv_lstore (lv' := [(23, .long (a2 + v7)), (21, .long (a1 + v5)), (19, .long (a2 + v3)), (17, .long (a1 + v1)), (16, .int (a5 - (-1))), (15, .int (a5 + (-1))), (14, .int (-1)), (0, .ref (ad 17)), (1, .int f_), (2, .int sd), (3, .long a1), (5, .long a2), (7, .long a3), (9, .long a4), (11, .int a5), (12, .int a6), (13, .int iA)]) hx hb_ dX12_endOf_113 hl (by decide) rfl (fun ls hl => ?_)
          refine lv_iload hx hb_ dX12_endOf_115 (lv_at hl 5 rfl) ?_
          refine lv_iload hx hb_ dX12_endOf_117 (lv_at hl 15 rfl) ?_
          refine lv_iadd hx hb_ dX12_endOf_119 ?_
          refine lv_istore (lv' := [(11, .int ((a5 + (-1)) + a6)), (23, .long (a2 + v7)), (21, .long (a1 + v5)), (19, .long (a2 + v3)), (17, .long (a1 + v1)), (16, .int (a5 - (-1))), (15, .int (a5 + (-1))), (14, .int (-1)), (0, .ref (ad 17)), (1, .int f_), (2, .int sd), (3, .long a1), (5, .long a2), (7, .long a3), (9, .long a4), (12, .int a6), (13, .int iA)]) hx hb_ dX12_endOf_120 hl (by decide) rfl (fun ls hl => ?_)
          refine lv_iload hx hb_ dX12_endOf_122 (lv_at hl 5 rfl) ?_
          refine lv_iload hx hb_ dX12_endOf_124 (lv_at hl 15 rfl) ?_
          refine lv_iadd hx hb_ dX12_endOf_126 ?_
          refine lv_istore (lv' := [(12, .int ((a5 - (-1)) + a6)), (11, .int ((a5 + (-1)) + a6)), (23, .long (a2 + v7)), (21, .long (a1 + v5)), (19, .long (a2 + v3)), (17, .long (a1 + v1)), (16, .int (a5 - (-1))), (15, .int (a5 + (-1))), (14, .int (-1)), (0, .ref (ad 17)), (1, .int f_), (2, .int sd), (3, .long a1), (5, .long a2), (7, .long a3), (9, .long a4), (13, .int iA)]) hx hb_ dX12_endOf_127 hl (by decide) rfl (fun ls hl => ?_)
          refine lv_lload hx hb_ dX12_endOf_129 (lv_at hl 5 rfl) ?_
          refine lv_lstore_n (lv' := [(3, .long (a1 + v1)), (12, .int ((a5 - (-1)) + a6)), (11, .int ((a5 + (-1)) + a6)), (23, .long (a2 + v7)), (21, .long (a1 + v5)), (19, .long (a2 + v3)), (17, .long (a1 + v1)), (16, .int (a5 - (-1))), (15, .int (a5 + (-1))), (14, .int (-1)), (0, .ref (ad 17)), (1, .int f_), (2, .int sd), (5, .long a2), (7, .long a3), (9, .long a4), (13, .int iA)]) hx hb_ dX12_endOf_131 rfl hl (by decide) rfl (fun ls hl => ?_)
          refine lv_lload hx hb_ dX12_endOf_132 (lv_at hl 5 rfl) ?_
          refine lv_lstore (lv' := [(5, .long (a2 + v3)), (3, .long (a1 + v1)), (12, .int ((a5 - (-1)) + a6)), (11, .int ((a5 + (-1)) + a6)), (23, .long (a2 + v7)), (21, .long (a1 + v5)), (19, .long (a2 + v3)), (17, .long (a1 + v1)), (16, .int (a5 - (-1))), (15, .int (a5 + (-1))), (14, .int (-1)), (0, .ref (ad 17)), (1, .int f_), (2, .int sd), (7, .long a3), (9, .long a4), (13, .int iA)]) hx hb_ dX12_endOf_134 hl (by decide) rfl (fun ls hl => ?_)
          refine lv_lload hx hb_ dX12_endOf_136 (lv_at hl 5 rfl) ?_
          refine lv_lstore (lv' := [(7, .long (a1 + v5)), (5, .long (a2 + v3)), (3, .long (a1 + v1)), (12, .int ((a5 - (-1)) + a6)), (11, .int ((a5 + (-1)) + a6)), (23, .long (a2 + v7)), (21, .long (a1 + v5)), (19, .long (a2 + v3)), (17, .long (a1 + v1)), (16, .int (a5 - (-1))), (15, .int (a5 + (-1))), (14, .int (-1)), (0, .ref (ad 17)), (1, .int f_), (2, .int sd), (9, .long a4), (13, .int iA)]) hx hb_ dX12_endOf_138 hl (by decide) rfl (fun ls hl => ?_)
          refine lv_lload hx hb_ dX12_endOf_140 (lv_at hl 5 rfl) ?_
          refine lv_lstore (lv' := [(9, .long (a2 + v7)), (7, .long (a1 + v5)), (5, .long (a2 + v3)), (3, .long (a1 + v1)), (12, .int ((a5 - (-1)) + a6)), (11, .int ((a5 + (-1)) + a6)), (23, .long (a2 + v7)), (21, .long (a1 + v5)), (19, .long (a2 + v3)), (17, .long (a1 + v1)), (16, .int (a5 - (-1))), (15, .int (a5 + (-1))), (14, .int (-1)), (0, .ref (ad 17)), (1, .int f_), (2, .int sd), (13, .int iA)]) hx hb_ dX12_endOf_142 hl (by decide) rfl (fun ls hl => ?_)
          obtain ⟨i2_, ei2⟩ : ∃ y_ : Int32, y_ = iA + 1 := ⟨_, rfl⟩
          refine lv_iinc (v := i2_) (lv' := [(13, .int i2_), (9, .long (a2 + v7)), (7, .long (a1 + v5)), (5, .long (a2 + v3)), (3, .long (a1 + v1)), (12, .int ((a5 - (-1)) + a6)), (11, .int ((a5 + (-1)) + a6)), (23, .long (a2 + v7)), (21, .long (a1 + v5)), (19, .long (a2 + v3)), (17, .long (a1 + v1)), (16, .int (a5 - (-1))), (15, .int (a5 + (-1))), (14, .int (-1)), (0, .ref (ad 17)), (1, .int f_), (2, .int sd)]) hx hb_ dX12_endOf_144 hl (k := 16) rfl (by rw [ei2]; rfl) (by decide) rfl (fun ls hl => ?_)
          refine lv_goto (tgt := 20) hx hb_ dX12_endOf_147 (by decide) ?_
          have ht : mT sd (nI jA) = (-1) := by rw [mT, ← eiA]; exact if_neg c_33
          exact ihA (jA + 1) i2_ (by rw [ei2, eiA]; exact nI_1 jA) hlt (by omega) _ _ _ _ _ _ (by show _ = mE1 (mT sd (nI jA)) (mE sd jA); rw [← ha, ht]; rw [hv1, hv3, hv5, hv7]; rfl) _ _ hw ls (lv_sub hl [14, 15, 16, 4, 3, 2, 1, 6, 5, 0] rfl)
        · refine lv_iconst (v := 1) hx hb_ dX12_endOf_36 (by decide) ?_
          refine lv_goto (tgt := 41) hx hb_ dX12_endOf_37 (by decide) ?_
          refine lv_istore (lv' := [(14, .int 1), (0, .ref (ad 17)), (1, .int f_), (2, .int sd), (3, .long a1), (5, .long a2), (7, .long a3), (9, .long a4), (11, .int a5), (12, .int a6), (13, .int iA)]) hx hb_ dX12_endOf_41 hl (by decide) rfl (fun ls hl => ?_)
          refine lv_iload hx hb_ dX12_endOf_43 (lv_at hl 8 rfl) ?_
          refine lv_iload hx hb_ dX12_endOf_45 (lv_at hl 0 rfl) ?_
          refine lv_iadd hx hb_ dX12_endOf_47 ?_
          refine lv_istore (lv' := [(15, .int (a5 + 1)), (14, .int 1), (0, .ref (ad 17)), (1, .int f_), (2, .int sd), (3, .long a1), (5, .long a2), (7, .long a3), (9, .long a4), (11, .int a5), (12, .int a6), (13, .int iA)]) hx hb_ dX12_endOf_48 hl (by decide) rfl (fun ls hl => ?_)
          refine lv_iload hx hb_ dX12_endOf_50 (lv_at hl 9 rfl) ?_
          refine lv_iload hx hb_ dX12_endOf_52 (lv_at hl 1 rfl) ?_
          refine lv_isub hx hb_ dX12_endOf_54 ?_
          refine lv_istore (lv' := [(16, .int (a5 - 1)), (15, .int (a5 + 1)), (14, .int 1), (0, .ref (ad 17)), (1, .int f_), (2, .int sd), (3, .long a1), (5, .long a2), (7, .long a3), (9, .long a4), (11, .int a5), (12, .int a6), (13, .int iA)]) hx hb_ dX12_endOf_55 hl (by decide) rfl (fun ls hl => ?_)
          refine lv_lload_n hx hb_ dX12_endOf_57 rfl (lv_at hl 6 rfl) ?_
          refine lv_aload_n hx hb_ dX12_endOf_58 rfl (lv_at hl 3 rfl) ?_
          refine lv_lload hx hb_ dX12_endOf_59 (lv_at hl 8 rfl) ?_
          refine lv_lload hx hb_ dX12_endOf_61 (lv_at hl 9 rfl) ?_
          refine lv_iload hx hb_ dX12_endOf_63 (lv_at hl 1 rfl) ?_
          refine z_call hw hA (rl_RX12_2_248_12 p_ l e_ _ s_ m_ args_ below_ meth_ c_ _ _ _ _ xs cD cy A_ _ _ _ _ 65 ls [.long a1] [.ref (ad 17), .long a3, .long a4, .int (a5 + 1)] _ _ 0 0 _ hM hw rfl (Or.inr (Or.inl ⟨by decide, _, _, rfl, (ty_cel hSh (r := 17) (by decide +kernel) rfl).1, (ty_cel hSh (r := 17) (by decide +kernel) rfl).2.2.1⟩)) (c_X12_turnX l cD cy _ S_ hSh a3 a4 (a5 + 1)) rfl rfl (by decide) (by decide) (show (2 : Nat) ≤ 8 by decide) dX12_endOf_65 ⟨Nat.le_refl _, Nat.le_refl _⟩ hl.1) (fun rv_ S10 ρ2 H_ locs_ hp hw => ?_)
          obtain ⟨v9, rfl, hp⟩ := hp
          obtain ⟨hv9, rfl⟩ := hp
          refine lv_ladd hx hb_ dX12_endOf_68 ?_
          refine lv_lstore (lv' := [(17, .long (a1 + v9)), (16, .int (a5 - 1)), (15, .int (a5 + 1)), (14, .int 1), (0, .ref (ad 17)), (1, .int f_), (2, .int sd), (3, .long a1), (5, .long a2), (7, .long a3), (9, .long a4), (11, .int a5), (12, .int a6), (13, .int iA)]) hx hb_ dX12_endOf_69 hl (by decide) rfl (fun ls hl => ?_)
          refine lv_lload hx hb_ dX12_endOf_71 (lv_at hl 8 rfl) ?_
          refine lv_aload_n hx hb_ dX12_endOf_73 rfl (lv_at hl 4 rfl) ?_
          refine lv_lload hx hb_ dX12_endOf_74 (lv_at hl 9 rfl) ?_
          refine lv_lload hx hb_ dX12_endOf_76 (lv_at hl 10 rfl) ?_
          refine lv_iload hx hb_ dX12_endOf_78 (lv_at hl 2 rfl) ?_
          refine z_call hw hA (rl_RX12_2_252_12 p_ l e_ _ s_ m_ args_ below_ meth_ c_ _ _ _ _ xs cD cy A_ _ _ _ _ 80 ls [.long a2] [.ref (ad 17), .long a3, .long a4, .int (a5 + 1)] _ _ 0 0 _ hM hw rfl (Or.inr (Or.inl ⟨by decide, _, _, rfl, (ty_cel hSh (r := 17) (by decide +kernel) rfl).1, (ty_cel hSh (r := 17) (by decide +kernel) rfl).2.2.1⟩)) (c_X12_turnY l cD cy _ S_ hSh a3 a4 (a5 + 1)) rfl rfl (by decide) (by decide) (show (2 : Nat) ≤ 8 by decide) dX12_endOf_80 ⟨Nat.le_refl _, Nat.le_refl _⟩ hl.1) (fun rv_ S12 ρ2 H_ locs_ hp hw => ?_)
          obtain ⟨v11, rfl, hp⟩ := hp
          obtain ⟨hv11, rfl⟩ := hp
          refine lv_ladd hx hb_ dX12_endOf_83 ?_
          refine lv_lstore (lv' := [(19, .long (a2 + v11)), (17, .long (a1 + v9)), (16, .int (a5 - 1)), (15, .int (a5 + 1)), (14, .int 1), (0, .ref (ad 17)), (1, .int f_), (2, .int sd), (3, .long a1), (5, .long a2), (7, .long a3), (9, .long a4), (11, .int a5), (12, .int a6), (13, .int iA)]) hx hb_ dX12_endOf_84 hl (by decide) rfl (fun ls hl => ?_)
          refine lv_lload_n hx hb_ dX12_endOf_86 rfl (lv_at hl 8 rfl) ?_
          refine lv_aload_n hx hb_ dX12_endOf_87 rfl (lv_at hl 5 rfl) ?_
          refine lv_lload hx hb_ dX12_endOf_88 (lv_at hl 10 rfl) ?_
          refine lv_lload hx hb_ dX12_endOf_90 (lv_at hl 11 rfl) ?_
          refine lv_iload hx hb_ dX12_endOf_92 (lv_at hl 2 rfl) ?_
          refine z_call hw hA (rl_RX12_2_248_12 p_ l e_ _ s_ m_ args_ below_ meth_ c_ _ _ _ _ xs cD cy A_ _ _ _ _ 94 ls [.long a1] [.ref (ad 17), .long a3, .long a4, .int (a5 - 1)] _ _ 0 0 _ hM hw rfl (Or.inr (Or.inl ⟨by decide, _, _, rfl, (ty_cel hSh (r := 17) (by decide +kernel) rfl).1, (ty_cel hSh (r := 17) (by decide +kernel) rfl).2.2.1⟩)) (c_X12_turnX l cD cy _ S_ hSh a3 a4 (a5 - 1)) rfl rfl (by decide) (by decide) (show (2 : Nat) ≤ 8 by decide) dX12_endOf_94 ⟨Nat.le_refl _, Nat.le_refl _⟩ hl.1) (fun rv_ S14 ρ2 H_ locs_ hp hw => ?_)
          obtain ⟨v13, rfl, hp⟩ := hp
          obtain ⟨hv13, rfl⟩ := hp
          refine lv_ladd hx hb_ dX12_endOf_97 ?_
          refine lv_lstore (lv' := [(21, .long (a1 + v13)), (19, .long (a2 + v11)), (17, .long (a1 + v9)), (16, .int (a5 - 1)), (15, .int (a5 + 1)), (14, .int 1), (0, .ref (ad 17)), (1, .int f_), (2, .int sd), (3, .long a1), (5, .long a2), (7, .long a3), (9, .long a4), (11, .int a5), (12, .int a6), (13, .int iA)]) hx hb_ dX12_endOf_98 hl (by decide) rfl (fun ls hl => ?_)
          refine lv_lload hx hb_ dX12_endOf_100 (lv_at hl 10 rfl) ?_
          refine lv_aload_n hx hb_ dX12_endOf_102 rfl (lv_at hl 6 rfl) ?_
          refine lv_lload hx hb_ dX12_endOf_103 (lv_at hl 11 rfl) ?_
          refine lv_lload hx hb_ dX12_endOf_105 (lv_at hl 12 rfl) ?_
          refine lv_iload hx hb_ dX12_endOf_107 (lv_at hl 3 rfl) ?_
          refine z_call hw hA (rl_RX12_2_252_12 p_ l e_ _ s_ m_ args_ below_ meth_ c_ _ _ _ _ xs cD cy A_ _ _ _ _ 109 ls [.long a2] [.ref (ad 17), .long a3, .long a4, .int (a5 - 1)] _ _ 0 0 _ hM hw rfl (Or.inr (Or.inl ⟨by decide, _, _, rfl, (ty_cel hSh (r := 17) (by decide +kernel) rfl).1, (ty_cel hSh (r := 17) (by decide +kernel) rfl).2.2.1⟩)) (c_X12_turnY l cD cy _ S_ hSh a3 a4 (a5 - 1)) rfl rfl (by decide) (by decide) (show (2 : Nat) ≤ 8 by decide) dX12_endOf_109 ⟨Nat.le_refl _, Nat.le_refl _⟩ hl.1) (fun rv_ S16 ρ2 H_ locs_ hp hw => ?_)
          obtain ⟨v15, rfl, hp⟩ := hp
          obtain ⟨hv15, rfl⟩ := hp
          refine lv_ladd hx hb_ dX12_endOf_112 ?_
          refine lv_lstore (lv' := [(23, .long (a2 + v15)), (21, .long (a1 + v13)), (19, .long (a2 + v11)), (17, .long (a1 + v9)), (16, .int (a5 - 1)), (15, .int (a5 + 1)), (14, .int 1), (0, .ref (ad 17)), (1, .int f_), (2, .int sd), (3, .long a1), (5, .long a2), (7, .long a3), (9, .long a4), (11, .int a5), (12, .int a6), (13, .int iA)]) hx hb_ dX12_endOf_113 hl (by decide) rfl (fun ls hl => ?_)
          refine lv_iload hx hb_ dX12_endOf_115 (lv_at hl 5 rfl) ?_
          refine lv_iload hx hb_ dX12_endOf_117 (lv_at hl 15 rfl) ?_
          refine lv_iadd hx hb_ dX12_endOf_119 ?_
          refine lv_istore (lv' := [(11, .int ((a5 + 1) + a6)), (23, .long (a2 + v15)), (21, .long (a1 + v13)), (19, .long (a2 + v11)), (17, .long (a1 + v9)), (16, .int (a5 - 1)), (15, .int (a5 + 1)), (14, .int 1), (0, .ref (ad 17)), (1, .int f_), (2, .int sd), (3, .long a1), (5, .long a2), (7, .long a3), (9, .long a4), (12, .int a6), (13, .int iA)]) hx hb_ dX12_endOf_120 hl (by decide) rfl (fun ls hl => ?_)
          refine lv_iload hx hb_ dX12_endOf_122 (lv_at hl 5 rfl) ?_
          refine lv_iload hx hb_ dX12_endOf_124 (lv_at hl 15 rfl) ?_
          refine lv_iadd hx hb_ dX12_endOf_126 ?_
          refine lv_istore (lv' := [(12, .int ((a5 - 1) + a6)), (11, .int ((a5 + 1) + a6)), (23, .long (a2 + v15)), (21, .long (a1 + v13)), (19, .long (a2 + v11)), (17, .long (a1 + v9)), (16, .int (a5 - 1)), (15, .int (a5 + 1)), (14, .int 1), (0, .ref (ad 17)), (1, .int f_), (2, .int sd), (3, .long a1), (5, .long a2), (7, .long a3), (9, .long a4), (13, .int iA)]) hx hb_ dX12_endOf_127 hl (by decide) rfl (fun ls hl => ?_)
          refine lv_lload hx hb_ dX12_endOf_129 (lv_at hl 5 rfl) ?_
          refine lv_lstore_n (lv' := [(3, .long (a1 + v9)), (12, .int ((a5 - 1) + a6)), (11, .int ((a5 + 1) + a6)), (23, .long (a2 + v15)), (21, .long (a1 + v13)), (19, .long (a2 + v11)), (17, .long (a1 + v9)), (16, .int (a5 - 1)), (15, .int (a5 + 1)), (14, .int 1), (0, .ref (ad 17)), (1, .int f_), (2, .int sd), (5, .long a2), (7, .long a3), (9, .long a4), (13, .int iA)]) hx hb_ dX12_endOf_131 rfl hl (by decide) rfl (fun ls hl => ?_)
          refine lv_lload hx hb_ dX12_endOf_132 (lv_at hl 5 rfl) ?_
          refine lv_lstore (lv' := [(5, .long (a2 + v11)), (3, .long (a1 + v9)), (12, .int ((a5 - 1) + a6)), (11, .int ((a5 + 1) + a6)), (23, .long (a2 + v15)), (21, .long (a1 + v13)), (19, .long (a2 + v11)), (17, .long (a1 + v9)), (16, .int (a5 - 1)), (15, .int (a5 + 1)), (14, .int 1), (0, .ref (ad 17)), (1, .int f_), (2, .int sd), (7, .long a3), (9, .long a4), (13, .int iA)]) hx hb_ dX12_endOf_134 hl (by decide) rfl (fun ls hl => ?_)
          refine lv_lload hx hb_ dX12_endOf_136 (lv_at hl 5 rfl) ?_
          refine lv_lstore (lv' := [(7, .long (a1 + v13)), (5, .long (a2 + v11)), (3, .long (a1 + v9)), (12, .int ((a5 - 1) + a6)), (11, .int ((a5 + 1) + a6)), (23, .long (a2 + v15)), (21, .long (a1 + v13)), (19, .long (a2 + v11)), (17, .long (a1 + v9)), (16, .int (a5 - 1)), (15, .int (a5 + 1)), (14, .int 1), (0, .ref (ad 17)), (1, .int f_), (2, .int sd), (9, .long a4), (13, .int iA)]) hx hb_ dX12_endOf_138 hl (by decide) rfl (fun ls hl => ?_)
          refine lv_lload hx hb_ dX12_endOf_140 (lv_at hl 5 rfl) ?_
          refine lv_lstore (lv' := [(9, .long (a2 + v15)), (7, .long (a1 + v13)), (5, .long (a2 + v11)), (3, .long (a1 + v9)), (12, .int ((a5 - 1) + a6)), (11, .int ((a5 + 1) + a6)), (23, .long (a2 + v15)), (21, .long (a1 + v13)), (19, .long (a2 + v11)), (17, .long (a1 + v9)), (16, .int (a5 - 1)), (15, .int (a5 + 1)), (14, .int 1), (0, .ref (ad 17)), (1, .int f_), (2, .int sd), (13, .int iA)]) hx hb_ dX12_endOf_142 hl (by decide) rfl (fun ls hl => ?_)
          obtain ⟨i2_, ei2⟩ : ∃ y_ : Int32, y_ = iA + 1 := ⟨_, rfl⟩
          refine lv_iinc (v := i2_) (lv' := [(13, .int i2_), (9, .long (a2 + v15)), (7, .long (a1 + v13)), (5, .long (a2 + v11)), (3, .long (a1 + v9)), (12, .int ((a5 - 1) + a6)), (11, .int ((a5 + 1) + a6)), (23, .long (a2 + v15)), (21, .long (a1 + v13)), (19, .long (a2 + v11)), (17, .long (a1 + v9)), (16, .int (a5 - 1)), (15, .int (a5 + 1)), (14, .int 1), (0, .ref (ad 17)), (1, .int f_), (2, .int sd)]) hx hb_ dX12_endOf_144 hl (k := 16) rfl (by rw [ei2]; rfl) (by decide) rfl (fun ls hl => ?_)
          refine lv_goto (tgt := 20) hx hb_ dX12_endOf_147 (by decide) ?_
          have ht : mT sd (nI jA) = 1 := by rw [mT, ← eiA]; exact if_pos c_33
          exact ihA (jA + 1) i2_ (by rw [ei2, eiA]; exact nI_1 jA) hlt (by omega) _ _ _ _ _ _ (by show _ = mE1 (mT sd (nI jA)) (mE sd jA); rw [← ha, ht]; rw [hv9, hv11, hv13, hv15]; rfl) _ _ hw ls (lv_sub hl [14, 15, 16, 4, 3, 2, 1, 6, 5, 0] rfl)
  exact JA (f0 + 1) 0 0 nI_0.symm (Nat.zero_le _) (by omega) 1 0 1 0 0 0 rfl _ _ hw ls (lv_sub hl [7, 8, 9, 6, 5, 4, 3, 2, 1, 0] rfl)
set_option maxHeartbeats 1000000 in
set_option maxRecDepth 100000 in
theorem c_X12_ends {xs ad : Nat → Nat} {ρ : Nat → Nat} {neg0 : Int → Int} {Post : Option Value → zS → (Nat → Nat) → Prop} (hb0 : bndN neg0) (l : Launch) (cD : va_G) (cy : Nat → ClassId) (sz_ : Nat) (S_ : zS) (hV : WCF ad S_ ρ S_ ρ) (f_ x_ y_ w_ : Int32) (hP : ∀ rv S1 ρ1, PW ad S_ ρ (q_ends f_ x_ y_ w_) rv S1 ρ1 → Post rv S1 ρ1) : Met l yX12_ends (Cond.code yX12_ends cX12_ends 8 (some .int) :: TB) ({ frames := 2, cells := 0, slots := 0, locals := 70 } : Room) (va_Pc [.ref (ad 17), .int f_, .int x_, .int y_, .int w_] (zPre xs cD cy S_ sz_)) (QX cD cy Post (zAd cy S_ sz_)) 0 0 (zAd cy S_ sz_) := by
  refine z_ofW (QQ := QX cD cy Post) (own := RX12) (by decide +kernel) rfl rfl (Nat.le_of_ble_eq_true rfl) ?_
  intro p_ e_ s_ m_ args_ below_ meth_ c_ A_ ls hcf hr hlk hnm hK_ hE hZ hw hA hl
  have hM : MX xs cD cy A_ p_ s_ m_ args_ c_ cX12_ends 8 (Cond.code yX12_ends cX12_ends 8 (some .int) :: TB) RX12 := ⟨hcf, fun w hw => List.mem_cons_of_mem _ hw, hK_, hE, hZ, hA⟩
  have hSh := hV.1.1
  obtain ⟨hx, hb_, hml, hown, hts⟩ := id hcf
  have hl : lv_has ls 8 [(0, .ref (ad 17)), (1, .int f_), (2, .int x_), (3, .int y_), (4, .int w_)] := hl
  refine lv_iload hx hb_ dX12_ends_0 (lv_at hl 4 rfl) ?_
  refine lv_if_lt (tgt := 11) hx hb_ dX12_ends_2 (by decide) (fun c_2 => ?_) (fun c_2 => ?_)
  · refine lv_aload_n hx hb_ dX12_ends_11 rfl (lv_at hl 0 rfl) ?_
    refine lv_bipush (v := (-5)) hx hb_ dX12_ends_12 (by decide) ?_
    refine cl_no hb0 hM hA hV hw ⟨by decide, by decide, by decide, by decide⟩ (by decide) (show (0 : Nat) ≤ 8 by decide) hl.1 dX12_ends_14 (fun S1 ρ1 H_ locs_ hV hw => ?_)
    exact z_iretW (v := (-5)) hcf hr hlk hw hP hV (by simp [q_ends, c_2]) dX12_ends_17
  · refine lv_iload hx hb_ dX12_ends_5 (lv_at hl 4 rfl) ?_
    refine lv_iconst (v := 1) hx hb_ dX12_ends_7 (by decide) ?_
    refine lv_icmp_le (tgt := 18) hx hb_ dX12_ends_8 (by decide) (fun c_8 => ?_) (fun c_8 => ?_)
    · refine lv_iload_n hx hb_ dX12_ends_18 rfl (lv_at hl 1 rfl) ?_
      refine lv_iconst (v := 1) hx hb_ dX12_ends_19 (by decide) ?_
      refine lv_icmp_lt (tgt := 29) hx hb_ dX12_ends_20 (by decide) (fun c_20 => ?_) (fun c_20 => ?_)
      · refine lv_aload_n hx hb_ dX12_ends_29 rfl (lv_at hl 0 rfl) ?_
        refine lv_bipush (v := (-6)) hx hb_ dX12_ends_30 (by decide) ?_
        refine cl_no hb0 hM hA hV hw ⟨by decide, by decide, by decide, by decide⟩ (by decide) (show (0 : Nat) ≤ 8 by decide) hl.1 dX12_ends_32 (fun S1 ρ1 H_ locs_ hV hw => ?_)
        exact z_iretW (v := (-6)) hcf hr hlk hw hP hV (by simp [q_ends, c_2, c_8, c_20]) dX12_ends_35
      · refine lv_iload_n hx hb_ dX12_ends_23 rfl (lv_at hl 1 rfl) ?_
        refine lv_bipush (v := 10) hx hb_ dX12_ends_24 (by decide) ?_
        refine lv_icmp_le (tgt := 36) hx hb_ dX12_ends_26 (by decide) (fun c_26 => ?_) (fun c_26 => ?_)
        · obtain ⟨f0, hf1, hf10, ef⟩ := zx_of (a := 1) (b := 10) c_20 c_26 (by decide) (by decide)
          have h1024 := p2_le f0 (by omega)
          refine lv_iconst (v := 0) hx hb_ dX12_ends_36 (by decide) ?_
          refine lv_istore (lv' := [(5, .int 0), (0, .ref (ad 17)), (1, .int f_), (2, .int x_), (3, .int y_), (4, .int w_)]) hx hb_ dX12_ends_37 hl (by decide) rfl (fun ls hl => ?_)
          refine lv_iconst (v := (-1)) hx hb_ dX12_ends_39 (by decide) ?_
          refine lv_istore (lv' := [(6, .int (-1)), (5, .int 0), (0, .ref (ad 17)), (1, .int f_), (2, .int x_), (3, .int y_), (4, .int w_)]) hx hb_ dX12_ends_40 hl (by decide) rfl (fun ls hl => ?_)
          refine lv_iconst (v := 0) hx hb_ dX12_ends_42 (by decide) ?_
          refine lv_istore (lv' := [(7, .int 0), (6, .int (-1)), (5, .int 0), (0, .ref (ad 17)), (1, .int f_), (2, .int x_), (3, .int y_), (4, .int w_)]) hx hb_ dX12_ends_43 hl (by decide) rfl (fun ls hl => ?_)
          have JB : ∀ (nB jB : Nat) (iB : Int32), iB = nI jB → jB ≤ 2 ^ f0 → 2 ^ f0 < jB + nB → ∀ (cnt fst : Int32), (cnt, fst) = eSt (fun k_ => cB f0 x_ y_ (pop k_)) jB → ∀ (u_ v_ : Int64) (H_ : Heap) (locs_ : List Loc), zPw cD cy A_ s_.heap (zsJ (zsJ S_ 1231 (ad 17) u_) 1232 (ad 17) v_) H_ locs_ → ∀ ls : Array Slot, lv_has ls 8 [(0, .ref (ad 17)), (1, .int f_), (2, .int x_), (3, .int y_), (4, .int w_), (5, .int cnt), (6, .int fst), (7, .int iB)] → W p_ l e_ ({ frames := 2, cells := 0, slots := 0, locals := 70 } : Room) s_ m_ args_ below_ meth_ c_ H_ locs_ 0 0 (MQ below_ (QX cD cy Post A_) args_ s_ 0 0 A_) (F0 m_ 45 ls []) := by
            intro nB
            induction nB with
            | zero => intro jB iB _ hjB h_; exact absurd h_ (by omega)
            | succ nB ihB =>
              intro jB iB eiB hjB hmB cnt fst hcf2 u_ v_ H_ locs_ hw ls hl
              refine lv_iload hx hb_ dX12_ends_45 (lv_at hl 7 rfl) ?_
              refine lv_iconst (v := 1) hx hb_ dX12_ends_47 (by decide) ?_
              refine lv_iload_n hx hb_ dX12_ends_48 rfl (lv_at hl 1 rfl) ?_
              refine lv_ishl hx hb_ dX12_ends_49 ?_
              refine z_topi (y := (nI (2 ^ f0))) (by rw [ef]; exact shl1 f0 (by omega)) ?_
              refine lv_icmp_ge (tgt := 107) hx hb_ dX12_ends_50 (by decide) (fun c_50 => ?_) (fun c_50 => ?_)
              · refine lv_iload hx hb_ dX12_ends_107 (lv_at hl 4 rfl) ?_
                refine lv_if_ne (tgt := 115) hx hb_ dX12_ends_109 (by decide) (fun c_109 => ?_) (fun c_109 => ?_)
                · refine lv_iload hx hb_ dX12_ends_115 (lv_at hl 6 rfl) ?_
                  refine lv_iconst (v := (-1)) hx hb_ dX12_ends_117 (by decide) ?_
                  refine lv_icmp_ne (tgt := 130) hx hb_ dX12_ends_118 (by decide) (fun c_118 => ?_) (fun c_118 => ?_)
                  · refine lv_iload hx hb_ dX12_ends_130 (lv_at hl 6 rfl) ?_
                    exact z_iretW (v := fst) hcf hr hlk hw hP (wcf_J (wcf_J hV)) (by have hj : jB = 2 ^ f0 := (by have := zn_ge eiB rfl (by omega) c_50; omega); rw [q_ends_in c_2 c_8 c_20 c_26 ef hf10, ← hj, ← hcf2]; simp [q_end2, c_109, c_118]) dX12_ends_132
                  · refine lv_aload_n hx hb_ dX12_ends_121 rfl (lv_at hl 0 rfl) ?_
                    refine lv_bipush (v := (-5)) hx hb_ dX12_ends_122 (by decide) ?_
                    refine cl_no hb0 hM hA (wcf_J (wcf_J hV)) hw ⟨by decide, by decide, by decide, by decide⟩ (by decide) (show (0 : Nat) ≤ 8 by decide) hl.1 dX12_ends_124 (fun S1 ρ1 H_ locs_ hV hw => ?_)
                    refine lv_goto (tgt := 132) hx hb_ dX12_ends_127 (by decide) ?_
                    exact z_iretW (v := (-5)) hcf hr hlk hw hP hV (by have hj : jB = 2 ^ f0 := (by have := zn_ge eiB rfl (by omega) c_50; omega); rw [q_ends_in c_2 c_8 c_20 c_26 ef hf10, ← hj, ← hcf2]; simp [q_end2, c_109, c_118]) dX12_ends_132
                · refine lv_iload hx hb_ dX12_ends_112 (lv_at hl 5 rfl) ?_
                  exact z_iretW (v := cnt) hcf hr hlk hw hP (wcf_J (wcf_J hV)) (by have hj : jB = 2 ^ f0 := (by have := zn_ge eiB rfl (by omega) c_50; omega); rw [q_ends_in c_2 c_8 c_20 c_26 ef hf10, ← hj, ← hcf2]; simp [q_end2, c_109]) dX12_ends_114
              · have hlt : jB < 2 ^ f0 := zn_lt eiB rfl (by omega) c_50
                have hP := mB_eq (x := x_) (y := y_) hf10 hlt
                rw [← eiB] at hP
                refine lv_aload_n hx hb_ dX12_ends_53 rfl (lv_at hl 0 rfl) ?_
                refine lv_iload_n hx hb_ dX12_ends_54 rfl (lv_at hl 1 rfl) ?_
                refine lv_iload hx hb_ dX12_ends_55 (lv_at hl 7 rfl) ?_
                refine z_call hw hA (rl_RX12_2_322_12 p_ l e_ _ s_ m_ args_ below_ meth_ c_ _ _ _ _ xs cD cy A_ _ _ _ _ 57 ls [] [.ref (ad 17), .int f_, .int iB] _ _ 0 0 _ hM hw rfl (Or.inr (Or.inl ⟨by decide, _, _, rfl, (ty_cel hSh (r := 17) (by decide +kernel) rfl).1, (ty_cel hSh (r := 17) (by decide +kernel) rfl).2.2.1⟩)) (c_X12_endOf l cD cy _ (zsJ (zsJ S_ 1231 (ad 17) u_) 1232 (ad 17) v_) (ty_J (ty_J hSh)) f_ iB f0 ef hf10) rfl rfl (by decide) (by decide) (show (0 : Nat) ≤ 8 by decide) dX12_ends_57 ⟨Nat.le_refl _, Nat.le_refl _⟩ hl.1) (fun rv_ S11 ρ2 H_ locs_ hp hw => ?_)
                obtain ⟨rfl, hp⟩ := hp
                obtain rfl := hp
                rw [zsJ_ov (by decide)] at hw
                refine lv_aload_n hx hb_ dX12_ends_60 rfl (lv_at hl 0 rfl) ?_
                refine gl_31 hM (ty_J (ty_J hSh)) hw (((zJ_ne (by decide)).trans zJ_self)) dX12_ends_61 ?_
                refine lv_iload_n hx hb_ dX12_ends_64 rfl (lv_at hl 2 rfl) ?_
                refine lv_i2l (v := (x_ : Int32).toInt64) hx hb_ dX12_ends_65 rfl ?_
                refine z_lc_ne (tgt := 101) hx hb_ dX12_ends_66 dX12_ends_67 (by decide) (fun c_66 => ?_) (fun c_66 => ?_)
                · obtain ⟨i3, ei3⟩ : ∃ y_ : Int32, y_ = iB + 1 := ⟨_, rfl⟩
                  refine lv_iinc (v := i3) (lv' := [(7, .int i3), (0, .ref (ad 17)), (1, .int f_), (2, .int x_), (3, .int y_), (4, .int w_), (5, .int cnt), (6, .int fst)]) hx hb_ dX12_ends_101 hl (k := 7) rfl (by rw [ei3]; rfl) (by decide) rfl (fun ls hl => ?_)
                  refine lv_goto (tgt := 45) hx hb_ dX12_ends_104 (by decide) ?_
                  have hst := eM_eS (P := fun k_ => cB f0 x_ y_ (pop k_)) (n := jB) (by omega) (cB f0 x_ y_ (pop jB))
                  have hb_ : ¬ cB f0 x_ y_ (pop jB) = true := fun q_ => c_66 (hP.2 q_).1
                  exact ihB (jB + 1) i3 (by rw [ei3, eiB]; exact nI_1 jB) hlt (by omega) _ _ (by show _ = eS1 (cB f0 x_ y_ (pop jB)) jB _; rw [← hst, eM1, if_neg hb_]; exact hcf2) _ _ _ _ hw ls (lv_sub hl [1, 2, 3, 4, 5, 6, 7, 0] rfl)
                · refine lv_aload_n hx hb_ dX12_ends_70 rfl (lv_at hl 0 rfl) ?_
                  refine gl_32 hM (ty_J (ty_J hSh)) hw (zJ_self) dX12_ends_71 ?_
                  refine lv_iload_n hx hb_ dX12_ends_74 rfl (lv_at hl 3 rfl) ?_
                  refine lv_i2l (v := (y_ : Int32).toInt64) hx hb_ dX12_ends_75 rfl ?_
                  refine z_lc_eq (tgt := 83) hx hb_ dX12_ends_76 dX12_ends_77 (by decide) (fun c_76 => ?_) (fun c_76 => ?_)
                  · refine lv_iinc (v := (cnt + 1)) (lv' := [(5, .int (cnt + 1)), (0, .ref (ad 17)), (1, .int f_), (2, .int x_), (3, .int y_), (4, .int w_), (6, .int fst), (7, .int iB)]) hx hb_ dX12_ends_83 hl (k := 5) rfl rfl (by decide) rfl (fun ls hl => ?_)
                    refine lv_iload hx hb_ dX12_ends_86 (lv_at hl 6 rfl) ?_
                    refine lv_iconst (v := (-1)) hx hb_ dX12_ends_88 (by decide) ?_
                    refine lv_icmp_ne (tgt := 97) hx hb_ dX12_ends_89 (by decide) (fun c_89 => ?_) (fun c_89 => ?_)
                    · refine lv_iload hx hb_ dX12_ends_97 (lv_at hl 6 rfl) ?_
                      refine lv_istore (lv' := [(6, .int fst), (5, .int (cnt + 1)), (0, .ref (ad 17)), (1, .int f_), (2, .int x_), (3, .int y_), (4, .int w_), (7, .int iB)]) hx hb_ dX12_ends_99 hl (by decide) rfl (fun ls hl => ?_)
                      obtain ⟨i3, ei3⟩ : ∃ y_ : Int32, y_ = iB + 1 := ⟨_, rfl⟩
                      refine lv_iinc (v := i3) (lv' := [(7, .int i3), (6, .int fst), (5, .int (cnt + 1)), (0, .ref (ad 17)), (1, .int f_), (2, .int x_), (3, .int y_), (4, .int w_)]) hx hb_ dX12_ends_101 hl (k := 7) rfl (by rw [ei3]; rfl) (by decide) rfl (fun ls hl => ?_)
                      refine lv_goto (tgt := 45) hx hb_ dX12_ends_104 (by decide) ?_
                      have hst := eM_eS (P := fun k_ => cB f0 x_ y_ (pop k_)) (n := jB) (by omega) (cB f0 x_ y_ (pop jB))
                      have hb_ : cB f0 x_ y_ (pop jB) = true := hP.1 ⟨c_66, c_76⟩
                      exact ihB (jB + 1) i3 (by rw [ei3, eiB]; exact nI_1 jB) hlt (by omega) _ _ (by show _ = eS1 (cB f0 x_ y_ (pop jB)) jB _; rw [← hst, eM1, if_pos hb_, ← hcf2, ← eiB]; simp [c_89]) _ _ _ _ hw ls (lv_sub hl [3, 4, 5, 6, 7, 2, 1, 0] rfl)
                    · refine lv_iload hx hb_ dX12_ends_92 (lv_at hl 7 rfl) ?_
                      refine lv_goto (tgt := 99) hx hb_ dX12_ends_94 (by decide) ?_
                      refine lv_istore (lv' := [(6, .int iB), (5, .int (cnt + 1)), (0, .ref (ad 17)), (1, .int f_), (2, .int x_), (3, .int y_), (4, .int w_), (7, .int iB)]) hx hb_ dX12_ends_99 hl (by decide) rfl (fun ls hl => ?_)
                      obtain ⟨i3, ei3⟩ : ∃ y_ : Int32, y_ = iB + 1 := ⟨_, rfl⟩
                      refine lv_iinc (v := i3) (lv' := [(7, .int i3), (6, .int iB), (5, .int (cnt + 1)), (0, .ref (ad 17)), (1, .int f_), (2, .int x_), (3, .int y_), (4, .int w_)]) hx hb_ dX12_ends_101 hl (k := 7) rfl (by rw [ei3]; rfl) (by decide) rfl (fun ls hl => ?_)
                      refine lv_goto (tgt := 45) hx hb_ dX12_ends_104 (by decide) ?_
                      have hst := eM_eS (P := fun k_ => cB f0 x_ y_ (pop k_)) (n := jB) (by omega) (cB f0 x_ y_ (pop jB))
                      have hb_ : cB f0 x_ y_ (pop jB) = true := hP.1 ⟨c_66, c_76⟩
                      exact ihB (jB + 1) i3 (by rw [ei3, eiB]; exact nI_1 jB) hlt (by omega) _ _ (by show _ = eS1 (cB f0 x_ y_ (pop jB)) jB _; rw [← hst, eM1, if_pos hb_, ← hcf2, ← eiB]; simp [c_89]) _ _ _ _ hw ls (lv_sub hl [3, 4, 5, 6, 7, 2, 1, 0] rfl)
                  · refine lv_goto (tgt := 101) hx hb_ dX12_ends_80 (by decide) ?_
                    obtain ⟨i3, ei3⟩ : ∃ y_ : Int32, y_ = iB + 1 := ⟨_, rfl⟩
                    refine lv_iinc (v := i3) (lv' := [(7, .int i3), (0, .ref (ad 17)), (1, .int f_), (2, .int x_), (3, .int y_), (4, .int w_), (5, .int cnt), (6, .int fst)]) hx hb_ dX12_ends_101 hl (k := 7) rfl (by rw [ei3]; rfl) (by decide) rfl (fun ls hl => ?_)
                    refine lv_goto (tgt := 45) hx hb_ dX12_ends_104 (by decide) ?_
                    have hst := eM_eS (P := fun k_ => cB f0 x_ y_ (pop k_)) (n := jB) (by omega) (cB f0 x_ y_ (pop jB))
                    have hb_ : ¬ cB f0 x_ y_ (pop jB) = true := fun q_ => c_76 (hP.2 q_).2
                    exact ihB (jB + 1) i3 (by rw [ei3, eiB]; exact nI_1 jB) hlt (by omega) _ _ (by show _ = eS1 (cB f0 x_ y_ (pop jB)) jB _; rw [← hst, eM1, if_neg hb_]; exact hcf2) _ _ _ _ hw ls (lv_sub hl [1, 2, 3, 4, 5, 6, 7, 0] rfl)
          exact JB (2 ^ f0 + 1) 0 0 nI_0.symm (Nat.zero_le _) (by omega) 0 (-1) rfl (zJ S_ 1231 (ad 17)) (zJ S_ 1232 (ad 17)) _ _ (by rw [zsJ_self, zsJ_self]; exact hw) ls (lv_sub hl [3, 4, 5, 6, 7, 2, 1, 0] rfl)
        · refine lv_aload_n hx hb_ dX12_ends_29 rfl (lv_at hl 0 rfl) ?_
          refine lv_bipush (v := (-6)) hx hb_ dX12_ends_30 (by decide) ?_
          refine cl_no hb0 hM hA hV hw ⟨by decide, by decide, by decide, by decide⟩ (by decide) (show (0 : Nat) ≤ 8 by decide) hl.1 dX12_ends_32 (fun S1 ρ1 H_ locs_ hV hw => ?_)
          exact z_iretW (v := (-6)) hcf hr hlk hw hP hV (by simp [q_ends, c_2, c_8, c_20, c_26]) dX12_ends_35
    · refine lv_aload_n hx hb_ dX12_ends_11 rfl (lv_at hl 0 rfl) ?_
      refine lv_bipush (v := (-5)) hx hb_ dX12_ends_12 (by decide) ?_
      refine cl_no hb0 hM hA hV hw ⟨by decide, by decide, by decide, by decide⟩ (by decide) (show (0 : Nat) ≤ 8 by decide) hl.1 dX12_ends_14 (fun S1 ρ1 H_ locs_ hV hw => ?_)
      exact z_iretW (v := (-5)) hcf hr hlk hw hP hV (by simp [q_ends, c_2, c_8]) dX12_ends_17
theorem kq_X11_ends {g : Nat → Int} {neg0 : Int → Int} {ad : Nat → Nat} (hg : ∀ i, i < 4 → -2147483648 ≤ g i ∧ g i ≤ 2147483647) (S1 : zS) : ghN (zC ad) neg0 S1 (((680564734000333251992171378206633365409 + (4 * g 0 + (17179869184 * g 1 + (73786976294838206464 * g 2 + (316912650057057350374175801344 * g 3 + 0))))).toNat : Nat) : Int) = (q_ends (Int32.ofInt (g 0)) (Int32.ofInt (g 1)) (Int32.ofInt (g 2)) (Int32.ofInt (g 3))).toInt := by
  have h0 := hg 0 (by decide)
  have h1 := hg 1 (by decide)
  have h2 := hg 2 (by decide)
  have h3 := hg 3 (by decide)
  have e : (((680564734000333251992171378206633365409 + (4 * g 0 + (17179869184 * g 1 + (73786976294838206464 * g 2 + (316912650057057350374175801344 * g 3 + 0))))).toNat : Nat) : Int) = 4000 + (1 + 4 * (g 0 + 2147483648 + 4294967296 * (g 1 + 2147483648 + 4294967296 * (g 2 + 2147483648 + 4294967296 * (g 3 + 2147483648 + 4294967296 * 0))))) := by omega
  rw [e]
  unfold ghN zC
  rw [if_neg (by omega), if_neg (by omega), if_neg (by omega), if_neg (by omega), if_neg (by omega), if_neg (by omega), show (4000 + (1 + 4 * (g 0 + 2147483648 + 4294967296 * (g 1 + 2147483648 + 4294967296 * (g 2 + 2147483648 + 4294967296 * (g 3 + 2147483648 + 4294967296 * 0))))) - 4000 : Int) = 1 + 4 * (g 0 + 2147483648 + 4294967296 * (g 1 + 2147483648 + 4294967296 * (g 2 + 2147483648 + 4294967296 * (g 3 + 2147483648 + 4294967296 * 0)))) by omega]
  have hz : zFn (1 + 4 * (g 0 + 2147483648 + 4294967296 * (g 1 + 2147483648 + 4294967296 * (g 2 + 2147483648 + 4294967296 * (g 3 + 2147483648 + 4294967296 * 0))))) = (q_ends (Int32.ofInt (g 0)) (Int32.ofInt (g 1)) (Int32.ofInt (g 2)) (Int32.ofInt (g 3))).toInt := by
    unfold zFn
    rw [if_neg (by omega), if_pos (by omega), show (1 + 4 * (g 0 + 2147483648 + 4294967296 * (g 1 + 2147483648 + 4294967296 * (g 2 + 2147483648 + 4294967296 * (g 3 + 2147483648 + 4294967296 * 0))))) / 4 = (g 0 + 2147483648 + 4294967296 * (g 1 + 2147483648 + 4294967296 * (g 2 + 2147483648 + 4294967296 * (g 3 + 2147483648 + 4294967296 * 0)))) by omega]
    rw [zqD_of (r := (g 1 + 2147483648 + 4294967296 * (g 2 + 2147483648 + 4294967296 * (g 3 + 2147483648 + 4294967296 * 0)))) h0.1 h0.2, zqD_of (r := (g 2 + 2147483648 + 4294967296 * (g 3 + 2147483648 + 4294967296 * 0))) h1.1 h1.2, zqD_of (r := (g 3 + 2147483648 + 4294967296 * 0)) h2.1 h2.2, zqA_of (r := (g 1 + 2147483648 + 4294967296 * (g 2 + 2147483648 + 4294967296 * (g 3 + 2147483648 + 4294967296 * 0)))) h0.1 h0.2, zqA_of (r := (g 2 + 2147483648 + 4294967296 * (g 3 + 2147483648 + 4294967296 * 0))) h1.1 h1.2, zqA_of (r := (g 3 + 2147483648 + 4294967296 * 0)) h2.1 h2.2, zqA_of (r := 0) h3.1 h3.2]
  rw [hz]
  have hr := i32_rng (q_ends (Int32.ofInt (g 0)) (Int32.ofInt (g 1)) (Int32.ofInt (g 2)) (Int32.ofInt (g 3)))
  rw [k32l_eq, k32h_eq] at hr
  unfold zcl
  omega
theorem cn_X11_ends_0 {ad xs : Nat → Nat} {cD : va_G} {cy : Nat → ClassId} {l : Launch} {neg0 : Int → Int} (hb0 : bndN neg0) : Con zT ad (ghN (zC ad) neg0) (zXI ad) xs cD cy l yX11_ends cX11_ends 9 ((some .int)) 1 28 sg_X11_ends_0 [] := by
  intro g τ S ρ sz hpre
  obtain ⟨p1, p2, p3, p4, p5, p6, p7⟩ := hpre
  have q0 := p2 0 _ rfl
  cases ht0 : τ 0 with
  | none => rw [ht0] at q0; cases q0
  | some a =>
  rw [ht0] at q0
  obtain ⟨ha, hra⟩ := q0
  have hra : ρ a = 0 := List.mem_singleton.mp hra
  have haa : a = ad 0 := by
    have := p6.1.2.2 a ha (by rw [hra]; decide +kernel)
    rw [hra] at this; exact this
  have eav : γK g τ xs (sA sg_X11_ends_0) = [.ref (ad 0), .int (Int32.ofInt (g 0)), .int (Int32.ofInt (g 1)), .int (Int32.ofInt (g 2)), .int (Int32.ofInt (g 3))] := by
    show [va_rf (τ 0), .int (Int32.ofInt (ev g (lsy 0))), .int (Int32.ofInt (ev g (lsy 1))), .int (Int32.ofInt (ev g (lsy 2))), .int (Int32.ofInt (ev g (lsy 3)))] = _
    rw [ht0, haa, ev_lsy, ev_lsy, ev_lsy, ev_lsy]; rfl
  rw [eav]
  have hg : ∀ i, i < 4 → -2147483648 ≤ g i ∧ g i ≤ 2147483647 := fun i hi => by
    by_cases q0 : i = 0
    · rw [q0]; exact p1 0 (by show 0 < 4; omega)
    by_cases q1 : i = 1
    · rw [q1]; exact p1 1 (by show 1 < 4; omega)
    by_cases q2 : i = 2
    · rw [q2]; exact p1 2 (by show 2 < 4; omega)
    by_cases q3 : i = 3
    · rw [q3]; exact p1 3 (by show 3 < 4; omega)
    · omega
  refine c_X11_ends hb0 l cD cy sz S ⟨p6, cx_g p7, Fr.refl⟩ (Int32.ofInt (g 0)) (Int32.ofInt (g 1)) (Int32.ofInt (g 2)) (Int32.ofInt (g 3)) ?_
  intro rv S1 ρ1 hp
  obtain ⟨rfl, w1, w2, w3⟩ := hp
  refine ⟨w1, cx_g w2, w3, _, List.mem_cons_self, fun i => if i = 4 then (q_ends (Int32.ofInt (g 0)) (Int32.ofInt (g 1)) (Int32.ofInt (g 2)) (Int32.ofInt (g 3))).toInt else g i, τ, fun i hi => if_neg (Nat.ne_of_lt hi), fun _ _ => rfl, fun j hj => ?_, (fun j q hq => by simp at hq), ?_, (fun f hf => by simp at hf), fun mm hm => ?_⟩
  · have hj : j < 1 := hj
    obtain rfl : j = 0 := by omega
    have hr := i32_rng (q_ends (Int32.ofInt (g 0)) (Int32.ofInt (g 1)) (Int32.ofInt (g 2)) (Int32.ofInt (g 3)))
    exact ⟨Int.le_trans hr.1 (Int.le_of_eq (if_pos rfl).symm), Int.le_trans (Int.le_of_eq (if_pos rfl)) hr.2⟩
  · show [Value.int (q_ends (Int32.ofInt (g 0)) (Int32.ofInt (g 1)) (Int32.ofInt (g 2)) (Int32.ofInt (g 3)))] = [.int (Int32.ofInt (ev _ (lsy 4)))]
    rw [ev_lsy, if_pos rfl, ofInt_toInt32]
  · cases List.mem_singleton.mp hm
    refine ⟨?_, by decide +kernel⟩
    have k1 := kq_X11_ends (neg0 := neg0) (ad := ad) hg S1
    show ghN (zC ad) neg0 S1 _ = ev _ (lsy 4)
    rw [ev_lsy, if_pos rfl]
    exact k1
theorem kq_X12_ends {g : Nat → Int} {neg0 : Int → Int} {ad : Nat → Nat} (hg : ∀ i, i < 4 → -2147483648 ≤ g i ∧ g i ≤ 2147483647) (S1 : zS) : ghN (zC ad) neg0 S1 (((680564734000333251992171378206633365409 + (4 * g 0 + (17179869184 * g 1 + (73786976294838206464 * g 2 + (316912650057057350374175801344 * g 3 + 0))))).toNat : Nat) : Int) = (q_ends (Int32.ofInt (g 0)) (Int32.ofInt (g 1)) (Int32.ofInt (g 2)) (Int32.ofInt (g 3))).toInt := by
  have h0 := hg 0 (by decide)
  have h1 := hg 1 (by decide)
  have h2 := hg 2 (by decide)
  have h3 := hg 3 (by decide)
  have e : (((680564734000333251992171378206633365409 + (4 * g 0 + (17179869184 * g 1 + (73786976294838206464 * g 2 + (316912650057057350374175801344 * g 3 + 0))))).toNat : Nat) : Int) = 4000 + (1 + 4 * (g 0 + 2147483648 + 4294967296 * (g 1 + 2147483648 + 4294967296 * (g 2 + 2147483648 + 4294967296 * (g 3 + 2147483648 + 4294967296 * 0))))) := by omega
  rw [e]
  unfold ghN zC
  rw [if_neg (by omega), if_neg (by omega), if_neg (by omega), if_neg (by omega), if_neg (by omega), if_neg (by omega), show (4000 + (1 + 4 * (g 0 + 2147483648 + 4294967296 * (g 1 + 2147483648 + 4294967296 * (g 2 + 2147483648 + 4294967296 * (g 3 + 2147483648 + 4294967296 * 0))))) - 4000 : Int) = 1 + 4 * (g 0 + 2147483648 + 4294967296 * (g 1 + 2147483648 + 4294967296 * (g 2 + 2147483648 + 4294967296 * (g 3 + 2147483648 + 4294967296 * 0)))) by omega]
  have hz : zFn (1 + 4 * (g 0 + 2147483648 + 4294967296 * (g 1 + 2147483648 + 4294967296 * (g 2 + 2147483648 + 4294967296 * (g 3 + 2147483648 + 4294967296 * 0))))) = (q_ends (Int32.ofInt (g 0)) (Int32.ofInt (g 1)) (Int32.ofInt (g 2)) (Int32.ofInt (g 3))).toInt := by
    unfold zFn
    rw [if_neg (by omega), if_pos (by omega), show (1 + 4 * (g 0 + 2147483648 + 4294967296 * (g 1 + 2147483648 + 4294967296 * (g 2 + 2147483648 + 4294967296 * (g 3 + 2147483648 + 4294967296 * 0))))) / 4 = (g 0 + 2147483648 + 4294967296 * (g 1 + 2147483648 + 4294967296 * (g 2 + 2147483648 + 4294967296 * (g 3 + 2147483648 + 4294967296 * 0)))) by omega]
    rw [zqD_of (r := (g 1 + 2147483648 + 4294967296 * (g 2 + 2147483648 + 4294967296 * (g 3 + 2147483648 + 4294967296 * 0)))) h0.1 h0.2, zqD_of (r := (g 2 + 2147483648 + 4294967296 * (g 3 + 2147483648 + 4294967296 * 0))) h1.1 h1.2, zqD_of (r := (g 3 + 2147483648 + 4294967296 * 0)) h2.1 h2.2, zqA_of (r := (g 1 + 2147483648 + 4294967296 * (g 2 + 2147483648 + 4294967296 * (g 3 + 2147483648 + 4294967296 * 0)))) h0.1 h0.2, zqA_of (r := (g 2 + 2147483648 + 4294967296 * (g 3 + 2147483648 + 4294967296 * 0))) h1.1 h1.2, zqA_of (r := (g 3 + 2147483648 + 4294967296 * 0)) h2.1 h2.2, zqA_of (r := 0) h3.1 h3.2]
  rw [hz]
  have hr := i32_rng (q_ends (Int32.ofInt (g 0)) (Int32.ofInt (g 1)) (Int32.ofInt (g 2)) (Int32.ofInt (g 3)))
  rw [k32l_eq, k32h_eq] at hr
  unfold zcl
  omega
theorem cn_X12_ends_0 {ad xs : Nat → Nat} {cD : va_G} {cy : Nat → ClassId} {l : Launch} {neg0 : Int → Int} (hb0 : bndN neg0) : Con zT ad (ghN (zC ad) neg0) (zXI ad) xs cD cy l yX12_ends cX12_ends 8 ((some .int)) 2 70 sg_X12_ends_0 [] := by
  intro g τ S ρ sz hpre
  obtain ⟨p1, p2, p3, p4, p5, p6, p7⟩ := hpre
  have q0 := p2 0 _ rfl
  cases ht0 : τ 0 with
  | none => rw [ht0] at q0; cases q0
  | some a =>
  rw [ht0] at q0
  obtain ⟨ha, hra⟩ := q0
  have hra : ρ a = 17 := List.mem_singleton.mp hra
  have haa : a = ad 17 := by
    have := p6.1.2.2 a ha (by rw [hra]; decide +kernel)
    rw [hra] at this; exact this
  have eav : γK g τ xs (sA sg_X12_ends_0) = [.ref (ad 17), .int (Int32.ofInt (g 0)), .int (Int32.ofInt (g 1)), .int (Int32.ofInt (g 2)), .int (Int32.ofInt (g 3))] := by
    show [va_rf (τ 0), .int (Int32.ofInt (ev g (lsy 0))), .int (Int32.ofInt (ev g (lsy 1))), .int (Int32.ofInt (ev g (lsy 2))), .int (Int32.ofInt (ev g (lsy 3)))] = _
    rw [ht0, haa, ev_lsy, ev_lsy, ev_lsy, ev_lsy]; rfl
  rw [eav]
  have hg : ∀ i, i < 4 → -2147483648 ≤ g i ∧ g i ≤ 2147483647 := fun i hi => by
    by_cases q0 : i = 0
    · rw [q0]; exact p1 0 (by show 0 < 5; omega)
    by_cases q1 : i = 1
    · rw [q1]; exact p1 1 (by show 1 < 5; omega)
    by_cases q2 : i = 2
    · rw [q2]; exact p1 2 (by show 2 < 5; omega)
    by_cases q3 : i = 3
    · rw [q3]; exact p1 3 (by show 3 < 5; omega)
    · omega
  refine c_X12_ends hb0 l cD cy sz S ⟨p6, cx_g p7, Fr.refl⟩ (Int32.ofInt (g 0)) (Int32.ofInt (g 1)) (Int32.ofInt (g 2)) (Int32.ofInt (g 3)) ?_
  intro rv S1 ρ1 hp
  obtain ⟨rfl, w1, w2, w3⟩ := hp
  obtain ⟨k1, k2⟩ := p5 0 _ rfl
  have k1 : ghN (zC ad) neg0 S _ = g 4 := k1
  have k3 := kq_X12_ends (neg0 := neg0) (ad := ad) hg S
  have k4 : g 4 = (q_ends (Int32.ofInt (g 0)) (Int32.ofInt (g 1)) (Int32.ofInt (g 2)) (Int32.ofInt (g 3))).toInt := k1.symm.trans k3
  refine ⟨w1, cx_g w2, w3, _, List.mem_cons_self, g, τ, fun _ _ => rfl, fun _ _ => rfl, (fun j hj => by simp at hj), (fun j q hq => by simp at hq), ?_, (fun f hf => by simp at hf), (fun mm hm => by simp at hm)⟩
  show [Value.int (q_ends (Int32.ofInt (g 0)) (Int32.ofInt (g 1)) (Int32.ofInt (g 2)) (Int32.ofInt (g 3)))] = [.int (Int32.ofInt (ev g (lsy 4)))]
  rw [ev_lsy, k4, ofInt_toInt32]
