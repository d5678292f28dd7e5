/-! numbers of the machine by forms -/
def k32l : Int := Int.negSucc 2147483647
def k32h : Int := Int.ofNat 2147483647
def k64l : Int := Int.negSucc 9223372036854775807
def k64h : Int := Int.ofNat 9223372036854775807
theorem k32l_eq : k32l = -2147483648 := rfl
theorem k32h_eq : k32h = 2147483647 := rfl
theorem k64l_eq : k64l = -9223372036854775808 := rfl
theorem k64h_eq : k64h = 9223372036854775807 := rfl
theorem i32_rng (x : Int32) : k32l ≤ x.toInt ∧ x.toInt ≤ k32h := by
  have h1 := x.le_toInt
  have h2 := x.toInt_lt
  rw [k32l_eq, k32h_eq]
  omega
theorem i64_rng (x : Int64) : k64l ≤ x.toInt ∧ x.toInt ≤ k64h := by
  have h1 := x.le_toInt
  have h2 := x.toInt_lt
  rw [k64l_eq, k64h_eq]
  omega
theorem i32_of {n : Int} (h : k32l ≤ n ∧ n ≤ k32h) : (Int32.ofInt n).toInt = n := by
  rw [k32l_eq, k32h_eq] at h
  exact Int32.toInt_ofInt_of_le (by omega) (by omega)
theorem i64_of {n : Int} (h : k64l ≤ n ∧ n ≤ k64h) : (Int64.ofInt n).toInt = n := by
  rw [k64l_eq, k64h_eq] at h
  exact Int64.toInt_ofInt_of_le (by omega) (by omega)
abbrev Rs : Type := Lin ⊕ Itv
def Rs32 (k : Nat) (g : Nat → Int) (r : Rs) (v : Int32) : Prop := match r with
  | .inl f => wfL k f ∧ v = Int32.ofInt (ev g f)
  | .inr x => x.1 ≤ v.toInt ∧ v.toInt ≤ x.2
def Rs64 (k : Nat) (g : Nat → Int) (r : Rs) (v : Int64) : Prop := match r with
  | .inl f => wfL k f ∧ v = Int64.ofInt (ev g f)
  | .inr x => x.1 ≤ v.toInt ∧ v.toInt ≤ x.2
def fit32 (I : List Itv) (f : Lin) : Bool := match rg I f with
  | (a, b) => match ile k32l a with
    | true => ile b k32h
    | false => false
def fit64 (I : List Itv) (f : Lin) : Bool := match rg I f with
  | (a, b) => match ile k64l a with
    | true => ile b k64h
    | false => false
section NUM
variable {I : List Itv} {g : Nat → Int} {x y : Lin}
theorem fit32_ok (h : SatI I g) (w : wfL I.length x) (e : fit32 I x = true) : k32l ≤ ev g x ∧ ev g x ≤ k32h := by
  have hr := rg_ok h w
  unfold fit32 at e
  generalize rg I x = q at hr e
  obtain ⟨a, b⟩ := q
  dsimp only at hr e
  cases h1 : ile k32l a with
  | false => rw [h1] at e; cases e
  | true =>
    rw [h1] at e
    have := ile_iff.mp h1
    have := ile_iff.mp e
    omega
theorem fit64_ok (h : SatI I g) (w : wfL I.length x) (e : fit64 I x = true) : k64l ≤ ev g x ∧ ev g x ≤ k64h := by
  have hr := rg_ok h w
  unfold fit64 at e
  generalize rg I x = q at hr e
  obtain ⟨a, b⟩ := q
  dsimp only at hr e
  cases h1 : ile k64l a with
  | false => rw [h1] at e; cases e
  | true =>
    rw [h1] at e
    have := ile_iff.mp h1
    have := ile_iff.mp e
    omega
theorem fit32_of (h : SatI I g) (w : wfL I.length x) (e : fit32 I x = true) : (Int32.ofInt (ev g x)).toInt = ev g x := i32_of (fit32_ok h w e)
theorem fit64_of (h : SatI I g) (w : wfL I.length x) (e : fit64 I x = true) : (Int64.ofInt (ev g x)).toInt = ev g x := i64_of (fit64_ok h w e)
theorem full32 {k : Nat} {v : Int32} : Rs32 k g (.inr (k32l, k32h)) v := i32_rng v
theorem full64 {k : Nat} {v : Int64} : Rs64 k g (.inr (k64l, k64h)) v := i64_rng v
/-! plus, minus, times -/
theorem add32 {k : Nat} (h1 : wfL k x) (h2 : wfL k y) : Rs32 k g (.inl (ladd x y)) (Int32.ofInt (ev g x) + Int32.ofInt (ev g y)) := ⟨wf_ladd h1 h2, by rw [ev_ladd, Int32.ofInt_add]⟩
theorem sub32 {k : Nat} (h1 : wfL k x) (h2 : wfL k y) : Rs32 k g (.inl (lsub x y)) (Int32.ofInt (ev g x) - Int32.ofInt (ev g y)) := ⟨wf_lsub h1 h2, by rw [ev_lsub, Int32.ofInt_sub]⟩
theorem neg32 {k : Nat} (h1 : wfL k x) : Rs32 k g (.inl (lneg x)) (-Int32.ofInt (ev g x)) := ⟨wf_lneg h1, by rw [ev_lneg, Int32.ofInt_neg]⟩
theorem add64 {k : Nat} (h1 : wfL k x) (h2 : wfL k y) : Rs64 k g (.inl (ladd x y)) (Int64.ofInt (ev g x) + Int64.ofInt (ev g y)) := ⟨wf_ladd h1 h2, by rw [ev_ladd, Int64.ofInt_add]⟩
theorem sub64 {k : Nat} (h1 : wfL k x) (h2 : wfL k y) : Rs64 k g (.inl (lsub x y)) (Int64.ofInt (ev g x) - Int64.ofInt (ev g y)) := ⟨wf_lsub h1 h2, by rw [ev_lsub, Int64.ofInt_sub]⟩
theorem neg64 {k : Nat} (h1 : wfL k x) : Rs64 k g (.inl (lneg x)) (-Int64.ofInt (ev g x)) := ⟨wf_lneg h1, by rw [ev_lneg, Int64.ofInt_neg]⟩
def isc (f : Lin) : Bool := match f.2 with
  | [] => true
  | _ => false
theorem isc_ev (h : isc x = true) : ev g x = x.1 := by
  obtain ⟨c, l⟩ := x
  cases l with
  | nil => simp [ev, ev1]
  | cons a r => cases h
def rMul (lo hi : Int) (x y : Lin) : Rs := match isc x with
  | true => .inl (lsc x.1 y)
  | false => match isc y with
    | true => .inl (lsc y.1 x)
    | false => .inr (lo, hi)
theorem mul32 {k : Nat} (h1 : wfL k x) (h2 : wfL k y) : Rs32 k g (rMul k32l k32h x y) (Int32.ofInt (ev g x) * Int32.ofInt (ev g y)) := by
  unfold rMul
  cases e1 : isc x with
  | true => exact ⟨wf_lsc h2, by rw [ev_lsc, isc_ev e1, Int32.ofInt_mul]⟩
  | false =>
    cases e2 : isc y with
    | true => exact ⟨wf_lsc h1, by rw [ev_lsc, isc_ev e2, Int32.ofInt_mul, Int32.mul_comm]⟩
    | false => exact full32
theorem mul64 {k : Nat} (h1 : wfL k x) (h2 : wfL k y) : Rs64 k g (rMul k64l k64h x y) (Int64.ofInt (ev g x) * Int64.ofInt (ev g y)) := by
  unfold rMul
  cases e1 : isc x with
  | true => exact ⟨wf_lsc h2, by rw [ev_lsc, isc_ev e1, Int64.ofInt_mul]⟩
  | false =>
    cases e2 : isc y with
    | true => exact ⟨wf_lsc h1, by rw [ev_lsc, isc_ev e2, Int64.ofInt_mul, Int64.mul_comm]⟩
    | false => exact full64
/-! and -/
theorem and32b {a b : Int32} (h : 0 ≤ b.toInt) : 0 ≤ (a &&& b).toInt ∧ (a &&& b).toInt ≤ b.toInt := by
  have e1 : b.toInt = (b.toBitVec.toNat : Int) := by
    have : b.toInt = b.toBitVec.toInt := rfl
    rw [this] at h ⊢
    rw [BitVec.toInt_eq_toNat_cond] at h ⊢
    split at h
    · rename_i q; rw [if_pos q]
    · have := b.toBitVec.isLt; omega
  have e2 : (a &&& b).toBitVec.toNat ≤ b.toBitVec.toNat := by
    rw [Int32.toBitVec_and, BitVec.toNat_and]; exact Nat.and_le_right
  have h2 : b.toInt < 2147483648 := by have := b.toInt_lt; omega
  have e3 : (a &&& b).toInt = ((a &&& b).toBitVec.toNat : Int) := by
    have : (a &&& b).toInt = (a &&& b).toBitVec.toInt := rfl
    rw [this, BitVec.toInt_eq_toNat_cond, if_pos (by omega)]
  omega
theorem and64b {a b : Int64} (h : 0 ≤ b.toInt) : 0 ≤ (a &&& b).toInt ∧ (a &&& b).toInt ≤ b.toInt := by
  have e1 : b.toInt = (b.toBitVec.toNat : Int) := by
    have : b.toInt = b.toBitVec.toInt := rfl
    rw [this] at h ⊢
    rw [BitVec.toInt_eq_toNat_cond] at h ⊢
    split at h
    · rename_i q; rw [if_pos q]
    · have := b.toBitVec.isLt; omega
  have e2 : (a &&& b).toBitVec.toNat ≤ b.toBitVec.toNat := by
    rw [Int64.toBitVec_and, BitVec.toNat_and]; exact Nat.and_le_right
  have h2 : b.toInt < 9223372036854775808 := by have := b.toInt_lt; omega
  have e3 : (a &&& b).toInt = ((a &&& b).toBitVec.toNat : Int) := by
    have : (a &&& b).toInt = (a &&& b).toBitVec.toInt := rfl
    rw [this, BitVec.toInt_eq_toNat_cond, if_pos (by omega)]
  omega
def nng (I : List Itv) (hi : Int) (x : Lin) : Bool := match rg I x with
  | (a, b) => match ile 0 a with
    | true => ile b hi
    | false => false
theorem nng_ok (h : SatI I g) (w : wfL I.length x) {hi : Int} (e : nng I hi x = true) : 0 ≤ ev g x ∧ ev g x ≤ hi ∧ ev g x ≤ (rg I x).2 := by
  have hr := rg_ok h w
  unfold nng at e
  generalize rg I x = q at hr e ⊢
  obtain ⟨a, b⟩ := q
  dsimp only at hr e ⊢
  cases h1 : ile 0 a with
  | false => rw [h1] at e; cases e
  | true =>
    rw [h1] at e
    have := ile_iff.mp h1
    have := ile_iff.mp e
    omega
def rAnd (I : List Itv) (lo hi : Int) (x y : Lin) : Rs := match nng I hi y with
  | true => .inr (0, (rg I y).2)
  | false => match nng I hi x with
    | true => .inr (0, (rg I x).2)
    | false => .inr (lo, hi)
theorem and32 (h : SatI I g) (h1 : wfL I.length x) (h2 : wfL I.length y) : Rs32 I.length g (rAnd I k32l k32h x y) (Int32.ofInt (ev g x) &&& Int32.ofInt (ev g y)) := by
  unfold rAnd
  cases e1 : nng I k32h y with
  | true =>
    obtain ⟨a, b, c⟩ := nng_ok h h2 e1
    have e : (Int32.ofInt (ev g y)).toInt = ev g y := i32_of ⟨by rw [k32l_eq]; omega, b⟩
    have := and32b (a := Int32.ofInt (ev g x)) (b := Int32.ofInt (ev g y)) (by omega)
    exact ⟨this.1, by dsimp only; omega⟩
  | false =>
    cases e2 : nng I k32h x with
    | true =>
      obtain ⟨a, b, c⟩ := nng_ok h h1 e2
      have e : (Int32.ofInt (ev g x)).toInt = ev g x := i32_of ⟨by rw [k32l_eq]; omega, b⟩
      have := and32b (a := Int32.ofInt (ev g y)) (b := Int32.ofInt (ev g x)) (by omega)
      rw [Int32.and_comm]
      exact ⟨this.1, by dsimp only; omega⟩
    | false => exact full32
theorem and64 (h : SatI I g) (h1 : wfL I.length x) (h2 : wfL I.length y) : Rs64 I.length g (rAnd I k64l k64h x y) (Int64.ofInt (ev g x) &&& Int64.ofInt (ev g y)) := by
  unfold rAnd
  cases e1 : nng I k64h y with
  | true =>
    obtain ⟨a, b, c⟩ := nng_ok h h2 e1
    have e : (Int64.ofInt (ev g y)).toInt = ev g y := i64_of ⟨by rw [k64l_eq]; omega, b⟩
    have := and64b (a := Int64.ofInt (ev g x)) (b := Int64.ofInt (ev g y)) (by omega)
    exact ⟨this.1, by dsimp only; omega⟩
  | false =>
    cases e2 : nng I k64h x with
    | true =>
      obtain ⟨a, b, c⟩ := nng_ok h h1 e2
      have e : (Int64.ofInt (ev g x)).toInt = ev g x := i64_of ⟨by rw [k64l_eq]; omega, b⟩
      have := and64b (a := Int64.ofInt (ev g y)) (b := Int64.ofInt (ev g x)) (by omega)
      rw [Int64.and_comm]
      exact ⟨this.1, by dsimp only; omega⟩
    | false => exact full64
/-- a form that may not fit is a number of its own -/
def fz32 (I : List Itv) (r : Rs) : Rs := match r with
  | .inl f => match fit32 I f with
    | true => .inl f
    | false => .inr (k32l, k32h)
  | .inr x => .inr x
def fz64 (I : List Itv) (r : Rs) : Rs := match r with
  | .inl f => match fit64 I f with
    | true => .inl f
    | false => .inr (k64l, k64h)
  | .inr x => .inr x
theorem fz32_ok {I : List Itv} {k : Nat} {r : Rs} {v : Int32} (h : Rs32 k g r v) : Rs32 k g (fz32 I r) v := by
  unfold fz32
  split
  · split
    · exact h
    · exact full32
  · exact h
theorem fz64_ok {I : List Itv} {k : Nat} {r : Rs} {v : Int64} (h : Rs64 k g r v) : Rs64 k g (fz64 I r) v := by
  unfold fz64
  split
  · split
    · exact h
    · exact full64
  · exact h
/-! shifts -/
theorem shk : ∀ k : Nat, k < 32 → ((Int32.ofInt (k : Int) &&& 31).toBitVec.smod 32).toNat = k := by decide +kernel
def shn (y : Lin) : Option Nat := match isc y with
  | true => match y.1 with
    | .ofNat n => match Nat.blt n 32 with
      | true => some n
      | false => none
    | .negSucc _ => none
  | false => none
theorem shn_ok {n : Nat} (h : shn y = some n) : n < 32 ∧ ev g y = (n : Int) := by
  unfold shn at h
  cases e : isc y with
  | false => rw [e] at h; cases h
  | true =>
    rw [e] at h
    rw [isc_ev e]
    cases e2 : y.1 with
    | negSucc _ => rw [e2] at h; cases h
    | ofNat m =>
      rw [e2] at h
      dsimp only at h
      cases e3 : Nat.blt m 32 with
      | false => rw [e3] at h; cases h
      | true =>
        rw [e3] at h
        cases h
        exact ⟨Nat.le_of_ble_eq_true e3, rfl⟩
def rShl (x y : Lin) : Rs := match shn y with
  | some n => .inl (lsc (Int.ofNat (2 ^ n)) x)
  | none => .inr (k32l, k32h)
theorem shl_mul {n : Nat} (hn : n < 32) (a : Int) : Int32.ofInt (Int.ofNat (2 ^ n) * a) = Int32.ofInt a <<< (Int32.ofInt (n : Int) &&& 31) := by
  apply Int32.toBitVec_inj.mp
  show BitVec.ofInt 32 (Int.ofNat (2 ^ n) * a) = (BitVec.ofInt 32 a) <<< ((Int32.ofInt (n : Int) &&& 31).toBitVec.smod 32)
  rw [BitVec.shiftLeft_eq', shk n hn, BitVec.shiftLeft_eq_mul_twoPow, BitVec.ofInt_mul, BitVec.mul_comm]
  congr 1
  show BitVec.ofInt 32 (Int.ofNat (2 ^ n)) = _
  apply BitVec.eq_of_toNat_eq
  rw [BitVec.toNat_twoPow]
  show (BitVec.ofInt 32 ((2 ^ n : Nat) : Int)).toNat = _
  rw [BitVec.ofInt_natCast, BitVec.toNat_ofNat]
theorem shl32 {k : Nat} (h1 : wfL k x) : Rs32 k g (rShl x y) (Int32.ofInt (ev g x) <<< (Int32.ofInt (ev g y) &&& 31)) := by
  unfold rShl
  cases e : shn y with
  | none => exact full32
  | some n =>
    obtain ⟨hn, hy⟩ := shn_ok (g := g) e
    refine ⟨wf_lsc h1, ?_⟩
    rw [ev_lsc, hy, shl_mul hn]
/-- 1 << y and the like: the interval -/
def rShlI (I : List Itv) (x y : Lin) : Rs := match shn y with
  | some n => .inl (lsc (Int.ofNat (2 ^ n)) x)
  | none => match isc x, x.1, rg I y with
    | true, .ofNat c, (.ofNat a, .ofNat b) => match Nat.blt b 31 && ile (Int.ofNat (c * 2 ^ b)) k32h with
      | true => .inr (Int.ofNat (c * 2 ^ a), Int.ofNat (c * 2 ^ b))
      | false => .inr (k32l, k32h)
    | _, _, _ => .inr (k32l, k32h)
theorem shlI32 (h : SatI I g) (h1 : wfL I.length x) (h2 : wfL I.length y) : Rs32 I.length g (rShlI I x y) (Int32.ofInt (ev g x) <<< (Int32.ofInt (ev g y) &&& 31)) := by
  unfold rShlI
  cases e : shn y with
  | some n =>
    obtain ⟨hn, hy⟩ := shn_ok (g := g) e
    refine ⟨wf_lsc h1, ?_⟩
    rw [ev_lsc, hy, shl_mul hn]
  | none =>
    dsimp only
    have hr := rg_ok h h2
    split
    · rename_i c a b hc hx hab
      rw [hab] at hr
      split
      · rename_i hb
        rw [Bool.and_eq_true] at hb
        have hb1 := Nat.le_of_ble_eq_true hb.1
        have hb2 := ile_iff.mp hb.2
        obtain ⟨n, hn⟩ : ∃ n : Nat, ev g y = (n : Int) := ⟨(ev g y).toNat, by have : (0 : Int) ≤ Int.ofNat a := Int.natCast_nonneg a; omega⟩
        have hr1 : Int.ofNat a ≤ ev g y := hr.1
        have hr2 : ev g y ≤ Int.ofNat b := hr.2
        rw [hn] at hr1 hr2 ⊢
        have hr1 : a ≤ n := Int.ofNat_le.mp hr1
        have hr2 : n ≤ b := Int.ofNat_le.mp hr2
        have p1 : 2 ^ a ≤ 2 ^ n := Nat.pow_le_pow_right (by decide) hr1
        have p2 : 2 ^ n ≤ 2 ^ b := Nat.pow_le_pow_right (by decide) hr2
        have q1 : c * 2 ^ a ≤ c * 2 ^ n := Nat.mul_le_mul_left c p1
        have q2 : c * 2 ^ n ≤ c * 2 ^ b := Nat.mul_le_mul_left c p2
        rw [← shl_mul (by omega : n < 32), isc_ev hc, hx]
        have e1 : Int.ofNat (2 ^ n) * Int.ofNat c = ((c * 2 ^ n : Nat) : Int) := by
          rw [Nat.mul_comm]; rfl
        rw [e1]
        have hfit : (Int32.ofInt ((c * 2 ^ n : Nat) : Int)).toInt = ((c * 2 ^ n : Nat) : Int) := by
          refine i32_of ⟨?_, ?_⟩
          · rw [k32l_eq]; omega
          · have : ((c * 2 ^ n : Nat) : Int) ≤ Int.ofNat (c * 2 ^ b) := Int.ofNat_le.mpr q2
            omega
        show Int.ofNat (c * 2 ^ a) ≤ (Int32.ofInt ((c * 2 ^ n : Nat) : Int)).toInt ∧ (Int32.ofInt ((c * 2 ^ n : Nat) : Int)).toInt ≤ Int.ofNat (c * 2 ^ b)
        rw [hfit]
        exact ⟨Int.ofNat_le.mpr q1, Int.ofNat_le.mpr q2⟩
      · exact full32
    · exact full32
theorem shr_div {n : Nat} (hn : n < 32) (a : Int32) : (a >>> (Int32.ofInt (n : Int) &&& 31)).toInt = a.toInt / ((2 ^ n : Nat) : Int) := by
  show (BitVec.sshiftRight' a.toBitVec ((Int32.ofInt (n : Int) &&& 31).toBitVec.smod 32)).toInt = _
  rw [BitVec.sshiftRight', shk n hn, BitVec.toInt_sshiftRight, Int.shiftRight_eq_div_pow]
  rfl
def rShr (I : List Itv) (x y : Lin) : Rs := match fit32 I x with
  | false => .inr (k32l, k32h)
  | true => match shn y with
    | some n => .inr ((rg I x).1 / Int.ofNat (2 ^ n), (rg I x).2 / Int.ofNat (2 ^ n))
    | none => .inr (k32l, k32h)
theorem shr32 (h : SatI I g) (h1 : wfL I.length x) : Rs32 I.length g (rShr I x y) (Int32.ofInt (ev g x) >>> (Int32.ofInt (ev g y) &&& 31)) := by
  unfold rShr
  cases e1 : fit32 I x with
  | false => exact full32
  | true =>
    cases e : shn y with
    | none => exact full32
    | some n =>
      obtain ⟨hn, hy⟩ := shn_ok (g := g) e
      have hr := rg_ok h h1
      have e3 := fit32_of h h1 e1
      have hp : (0 : Int) ≤ ((2 ^ n : Nat) : Int) := Int.natCast_nonneg _
      refine ⟨?_, ?_⟩
      · dsimp only
        rw [hy, shr_div hn, e3]
        exact Int.ediv_le_ediv (Int.natCast_pos.mpr (Nat.two_pow_pos n)) hr.1
      · dsimp only
        rw [hy, shr_div hn, e3]
        exact Int.ediv_le_ediv (Int.natCast_pos.mpr (Nat.two_pow_pos n)) hr.2
theorem ushk : ∀ k : Nat, k < 32 → (((Int32.ofInt (k : Int)).toUInt32 &&& Int32.toUInt32 31) % 32).toNat = k := by decide +kernel
def rUshr (y : Lin) : Rs := match shn y with
  | some (n + 1) => .inr (0, Int.ofNat (2 ^ (31 - n) - 1))
  | _ => .inr (k32l, k32h)
theorem ushr32 {k : Nat} {a : Int32} : Rs32 k g (rUshr y) ((a.toUInt32 >>> ((Int32.ofInt (ev g y)).toUInt32 &&& Int32.toUInt32 31)).toInt32) := by
  unfold rUshr
  cases e : shn y with
  | none => exact full32
  | some n =>
    cases n with
    | zero => exact full32
    | succ n =>
      obtain ⟨hn, hy⟩ := shn_ok (g := g) e
      rw [hy]
      have hk : (((Int32.ofInt (((n + 1 : Nat)) : Int)).toUInt32 &&& Int32.toUInt32 31) % 32).toNat = n + 1 := ushk (n + 1) hn
      generalize hz : a.toUInt32 >>> ((Int32.ofInt ((n + 1 : Nat) : Int)).toUInt32 &&& Int32.toUInt32 31) = z
      have hz2 : z.toNat = a.toUInt32.toNat >>> (n + 1) := by
        have hk2 : ((Int32.ofInt (((n + 1 : Nat)) : Int)).toUInt32 &&& Int32.toUInt32 31).toNat % 32 = n + 1 := by
          rw [UInt32.toNat_mod] at hk; exact hk
        rw [← hz, UInt32.toNat_shiftRight, hk2]
      have hlt : a.toUInt32.toNat < 2 ^ 32 := a.toUInt32.toNat_lt
      have hb : z.toNat < 2 ^ (31 - n) := by
        rw [hz2, Nat.shiftRight_eq_div_pow]
        apply Nat.div_lt_of_lt_mul
        rw [← Nat.pow_add]
        have : n + 1 + (31 - n) = 32 := by omega
        rw [this]; exact hlt
      have hle : 2 ^ (31 - n) ≤ 2 ^ 31 := Nat.pow_le_pow_right (by decide) (by omega)
      have h31 : (2 : Nat) ^ 31 = 2147483648 := by decide
      have hzi : (z.toInt32).toInt = (z.toNat : Int) := by
        show z.toBitVec.toInt = _
        rw [BitVec.toInt_eq_toNat_cond, if_pos (by show 2 * z.toNat < 2 ^ 32; omega)]
        rfl
      have hpos : 0 < 2 ^ (31 - n) := Nat.two_pow_pos _
      refine ⟨?_, ?_⟩
      · dsimp only; rw [hzi]; exact Int.natCast_nonneg _
      · dsimp only; rw [hzi]
        show (z.toNat : Int) ≤ ((2 ^ (31 - n) - 1 : Nat) : Int)
        omega
/-! conversions -/

/-- without what the lower half doesn't see -/
def nrmP (c : Int) : Bool := match c with
  | .ofNat k => Nat.beq (k % 4294967296) 0
  | .negSucc k => Nat.beq ((k + 1) % 4294967296) 0
def nrmL : List (Nat × Int) → List (Nat × Int)
  | [] => []
  | q :: r => match nrmP q.2 with
    | true => nrmL r
    | false => q :: nrmL r
theorem nrmP_dvd {c : Int} (h : nrmP c = true) : ∃ d : Int, c = 4294967296 * d := by
  cases c with
  | ofNat k =>
    have h := Nat.eq_of_beq_eq_true h
    exact ⟨((k / 4294967296 : Nat) : Int), by have := Nat.div_add_mod k 4294967296; show (k : Int) = _; omega⟩
  | negSucc k =>
    have h := Nat.eq_of_beq_eq_true h
    exact ⟨-(((k + 1) / 4294967296 : Nat) : Int), by have := Nat.div_add_mod (k + 1) 4294967296; rw [Int.negSucc_eq]; omega⟩
theorem nrmL_ev : ∀ {l : List (Nat × Int)}, ∃ d : Int, ev1 g l = ev1 g (nrmL l) + 4294967296 * d
  | [] => ⟨0, rfl⟩
  | q :: r => by
    obtain ⟨d, hd⟩ := nrmL_ev (l := r)
    simp only [nrmL]
    split
    · rename_i hc
      obtain ⟨c, hc⟩ := nrmP_dvd hc
      refine ⟨c * g q.1 + d, ?_⟩
      show q.2 * g q.1 + ev1 g r = _
      rw [hd, hc, Int.mul_add, Int.mul_assoc]; omega
    · refine ⟨d, ?_⟩
      show q.2 * g q.1 + ev1 g r = q.2 * g q.1 + ev1 g (nrmL r) + 4294967296 * d
      rw [hd]; omega
theorem nrmL_mem {q : Nat × Int} : ∀ {l : List (Nat × Int)}, q ∈ nrmL l → q ∈ l
  | [], h => h
  | a :: r, h => by
    simp only [nrmL] at h
    split at h
    · exact List.mem_cons_of_mem _ (nrmL_mem h)
    · rcases List.mem_cons.mp h with rfl | h
      · exact List.mem_cons_self
      · exact List.mem_cons_of_mem _ (nrmL_mem h)
def nrm (f : Lin) : Lin := (f.1, nrmL f.2)
theorem nrm_wf {k : Nat} (h : wfL k x) : wfL k (nrm x) := fun q hq => h q (nrmL_mem hq)
theorem nrm_ev : Int32.ofInt (ev g (nrm x)) = Int32.ofInt (ev g x) := by
  obtain ⟨d, hd⟩ := nrmL_ev (g := g) (l := x.2)
  have e : ev g x = ev g (nrm x) + 4294967296 * d := by
    show x.1 + ev1 g x.2 = x.1 + ev1 g (nrmL x.2) + _
    rw [hd]; omega
  rw [e, Int32.ofInt_add, Int32.ofInt_mul]
  have : Int32.ofInt 4294967296 = 0 := by decide
  rw [this, Int32.zero_mul, Int32.add_zero]
theorem l2i32 {k : Nat} (h1 : wfL k x) : Rs32 k g (.inl (nrm x)) (Int64.ofInt (ev g x)).toInt32 := ⟨nrm_wf h1, by rw [nrm_ev]; exact Int64.toInt32_ofInt⟩
theorem i2l_fit (h : SatI I g) (w : wfL I.length x) (e : fit32 I x = true) : Rs64 I.length g (.inl x) (Int32.ofInt (ev g x)).toInt64 := by
  refine ⟨w, ?_⟩
  have := fit32_ok h w e
  rw [k32l_eq, k32h_eq] at this
  exact Int32.toInt64_ofInt (by show (-2147483648 : Int) ≤ _; omega) (by show _ ≤ (2147483647 : Int); omega)
def rI2l (I : List Itv) (x : Lin) : Rs := match fit32 I x with
  | true => .inl x
  | false => .inr (k32l, k32h)
theorem i2l64 (h : SatI I g) (w : wfL I.length x) : Rs64 I.length g (rI2l I x) (Int32.ofInt (ev g x)).toInt64 := by
  unfold rI2l
  cases e : fit32 I x with
  | true => exact i2l_fit h w e
  | false =>
    show k32l ≤ ((Int32.ofInt (ev g x)).toInt64).toInt ∧ ((Int32.ofInt (ev g x)).toInt64).toInt ≤ k32h
    rw [Int32.toInt_toInt64]; exact i32_rng _
theorem i2b32 {k : Nat} {v : Int32} : Rs32 k g (.inr (-128, 127)) v.toInt8.toInt32 := by
  show (-128 : Int) ≤ _ ∧ _ ≤ (127 : Int)
  rw [Int8.toInt_toInt32]
  have := v.toInt8.le_toInt
  have := v.toInt8.toInt_lt
  omega
theorem i2s32 {k : Nat} {v : Int32} : Rs32 k g (.inr (-32768, 32767)) v.toInt16.toInt32 := by
  show (-32768 : Int) ≤ _ ∧ _ ≤ (32767 : Int)
  rw [Int16.toInt_toInt32]
  have := v.toInt16.le_toInt
  have := v.toInt16.toInt_lt
  omega
/-! comparisons -/
theorem cmp_lt32 (h : SatI I g) (h1 : wfL I.length x) (h2 : wfL I.length y) (e1 : fit32 I x = true) (e2 : fit32 I y = true) : Int32.ofInt (ev g x) < Int32.ofInt (ev g y) ↔ ev g x < ev g y := by
  rw [Int32.lt_iff_toInt_lt, fit32_of h h1 e1, fit32_of h h2 e2]
theorem cmp_le32 (h : SatI I g) (h1 : wfL I.length x) (h2 : wfL I.length y) (e1 : fit32 I x = true) (e2 : fit32 I y = true) : Int32.ofInt (ev g x) ≤ Int32.ofInt (ev g y) ↔ ev g x ≤ ev g y := by
  rw [Int32.le_iff_toInt_le, fit32_of h h1 e1, fit32_of h h2 e2]
theorem cmp_eq32 (h : SatI I g) (h1 : wfL I.length x) (h2 : wfL I.length y) (e1 : fit32 I x = true) (e2 : fit32 I y = true) : Int32.ofInt (ev g x) = Int32.ofInt (ev g y) ↔ ev g x = ev g y := by
  rw [← Int32.toInt_inj, fit32_of h h1 e1, fit32_of h h2 e2]
def cmpI (n : Int) : Int32 := if n > 0 then 1 else if n = 0 then 0 else -1
theorem lcmp_of (h : SatI I g) (h1 : wfL I.length x) (h2 : wfL I.length y) (e1 : fit64 I x = true) (e2 : fit64 I y = true) : lg_cmp (Int64.ofInt (ev g x)) (Int64.ofInt (ev g y)) = cmpI (ev g (lsub x y)) := by
  have a1 := fit64_of h h1 e1
  have a2 := fit64_of h h2 e2
  unfold lg_cmp cmpI
  rw [ev_lsub]
  have q1 : (Int64.ofInt (ev g x) > Int64.ofInt (ev g y)) ↔ ev g x - ev g y > 0 := by
    show Int64.ofInt (ev g y) < Int64.ofInt (ev g x) ↔ _
    rw [Int64.lt_iff_toInt_lt, a1, a2]; omega
  have q2 : (Int64.ofInt (ev g x) = Int64.ofInt (ev g y)) ↔ ev g x - ev g y = 0 := by
    rw [← Int64.toInt_inj, a1, a2]; omega
  simp only [q1, q2]
theorem lcmp_rng {a b : Int64} : Rs32 I.length g (.inr (-1, 1)) (lg_cmp a b) := by
  show (-1 : Int) ≤ (lg_cmp a b).toInt ∧ (lg_cmp a b).toInt ≤ 1
  unfold lg_cmp
  split
  · decide
  · split <;> decide
theorem cmpI_lt {n : Int} : cmpI n < 0 ↔ n < 0 := by
  unfold cmpI
  split
  · exact ⟨fun q => absurd q (by decide), fun q => by omega⟩
  · split
    · exact ⟨fun q => absurd q (by decide), fun q => by omega⟩
    · exact ⟨fun _ => by omega, fun _ => by decide⟩
theorem cmpI_eq {n : Int} : cmpI n = 0 ↔ n = 0 := by
  unfold cmpI
  split
  · exact ⟨fun q => absurd q (by decide), fun q => by omega⟩
  · split
    · exact ⟨fun _ => by omega, fun _ => by decide⟩
    · exact ⟨fun q => absurd q (by decide), fun q => by omega⟩
theorem cmpI_le {n : Int} : cmpI n ≤ 0 ↔ n ≤ 0 := by
  unfold cmpI
  split
  · exact ⟨fun q => absurd q (by decide), fun q => by omega⟩
  · split
    · exact ⟨fun _ => by omega, fun _ => by decide⟩
    · exact ⟨fun _ => by omega, fun _ => by decide⟩
theorem cmpI_rng {n : Int} : -1 ≤ (cmpI n).toInt ∧ (cmpI n).toInt ≤ 1 := by
  unfold cmpI
  split
  · decide
  · split <;> decide
end NUM
