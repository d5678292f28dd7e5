/-! what a write does to the typed pool, to regions, to coupled rows -/
section WR
variable {T : Tt} {ad : Nat → Nat} {gh : zS → Int → Int} {XI : zS → Prop} {S0 : zS} {ρ0 : Nat → Nat} {g : Nat → Int} {τ : Nat → Option Nat} {S S' : zS} {ρ ρ' : Nat → Nat}
/-- the ghost from 2000 on: powers of 2; from 3000 on: of 3 -/
def powOK (gh : zS → Int → Int) : Prop := ∀ S : zS, gh S 2000 = 1 ∧ gh S 3000 = 1 ∧ (∀ i : Int, 0 ≤ i → i ≤ 39 → gh S (i + 2001) = 2 * gh S (i + 2000) ∧ 1 ≤ gh S (i + 2001) ∧ gh S (i + 2001) ≤ 1099511627776) ∧ ∀ i : Int, 0 ≤ i → i ≤ 24 → gh S (i + 3001) = 3 * gh S (i + 3000) ∧ 1 ≤ gh S (i + 3001) ∧ gh S (i + 3001) ≤ 847288609443
/-- the tables are sound: a region's role has one cell alone; the footprints are regions; ghost and hand-made invariants go by their regions -/
def TOK (T : Tt) (ad : Nat → Nat) (gh : zS → Int → Int) (XI : zS → Prop) : Prop :=
  (∀ (reg : Nat) (q : RGI), (tRG T)[reg]? = some q → q.1 < tU T) ∧ (∀ reg ∈ tCF T, reg < (tRG T).length) ∧ (∀ reg ∈ tXR T, reg < (tRG T).length) ∧
  (∀ (S S' : zS) (t : Int), (∀ reg ∈ tCF T, ∀ i, RGv T ad S' reg i = RGv T ad S reg i) → gh S' t = gh S t) ∧
  (∀ (S S' : zS), (∀ reg ∈ tXR T, ∀ i, RGv T ad S' reg i = RGv T ad S reg i) → XI S → XI S') ∧
  (∀ (gi : Nat) (G : CGI), (tCG T)[gi]? = some G → ∀ c ∈ G.1, c.1 < (tRG T).length) ∧
  (∀ (S : zS) (t : Int), -9223372036854775808 ≤ gh S t ∧ gh S t ≤ 9223372036854775807) ∧ powOK gh
def anyin : List Nat → List Nat → Bool
  | [], _ => false
  | a :: r, l => match nin a l with
    | true => true
    | false => anyin r l
theorem anyin_no : ∀ {k l : List Nat}, anyin k l = false → ∀ a ∈ k, a ∉ l
  | [], _, _, a, ha => by simp at ha
  | b :: r, l, h, a, ha => by
    simp only [anyin] at h
    cases h1 : nin b l with
    | true => rw [h1] at h; cases h
    | false =>
      rw [h1] at h
      rcases List.mem_cons.mp ha with rfl | ha
      · exact nin_not h1
      · exact anyin_no h a ha
def kilM (T : Tt) (md : List Nat) : List Mem → List Mem
  | [] => []
  | m :: r => match anyin (gfp T m.1) md with
    | true => kilM T md r
    | false => m :: kilM T md r
theorem kilM_mem {md : List Nat} : ∀ {M : List Mem} {m : Mem}, m ∈ kilM T md M → m ∈ M ∧ anyin (gfp T m.1) md = false
  | [], m, h => by simp [kilM] at h
  | a :: r, m, h => by
    simp only [kilM] at h
    cases h1 : anyin (gfp T a.1) md with
    | true =>
      rw [h1] at h
      have := kilM_mem (M := r) h
      exact ⟨List.mem_cons_of_mem _ this.1, this.2⟩
    | false =>
      rw [h1] at h
      rcases List.mem_cons.mp h with rfl | h
      · exact ⟨List.mem_cons_self, h1⟩
      · have := kilM_mem (M := r) h
        exact ⟨List.mem_cons_of_mem _ this.1, this.2⟩
theorem GV_same (hT : TOK T ad gh XI) {n : Nat} {as : List Int} (h : ∀ reg ∈ gfp T n, ∀ i, RGv T ad S' reg i = RGv T ad S reg i) : GV T ad gh n S' as = GV T ad gh n S as := by
  match n with
  | 0 => rfl
  | 1 => rfl
  | 2 => exact hT.2.2.2.1 S S' _ h
  | reg + 3 => exact h reg (by simp [gfp]) _
def eK (T : Tt) (E : En) (md : List Nat) (D : List (Nat × Lin)) : En := (E.1, E.2.1, E.2.2.1, kilM T md E.2.2.2.1, D, E.2.2.2.2.2.1 ++ md, E.2.2.2.2.2.2)
theorem RefOK.fr {md : List Nat} (hF : Fr T ad md S ρ S' ρ') {n : Bool} {rs : List Nat} {q : Option Nat} (h : RefOK S ρ n rs q) : RefOK S' ρ' n rs q := by
  cases q with
  | none => exact h
  | some a =>
    obtain ⟨h1, h2⟩ := h
    obtain ⟨k1, k2⟩ := hF.1 a h1
    exact ⟨k1, by rw [k2]; exact h2⟩
theorem SatE.step (hT : TOK T ad gh XI) {E : En} (h : SatE T ad gh XI S0 ρ0 E g τ S ρ) {md : List Nat} {D : List (Nat × Lin)} (hF : Fr T ad md S ρ S' ρ') (hW : Wld T ad XI S' ρ') (wD : ∀ d ∈ D, wfL E.1.length d.2) (hD : CoupX T ad S' g D) : SatE T ad gh XI S0 ρ0 (eK T E md D) g τ S' ρ' := by
  obtain ⟨h1, h2, h3, h4, h5, h6, h7, h8, h9⟩ := h
  refine ⟨h1, fun i q hq => (h2 i q hq).fr hF, h3, fun m hm => ?_, wD, hD, h7.trans hF, h8, hW⟩
  obtain ⟨hm1, hm2⟩ := kilM_mem hm
  obtain ⟨k1, k2, k3, k4⟩ := h4 m hm1
  refine ⟨k1, k2, ?_, k4⟩
  rw [GV_same hT (S := S) (fun reg hr i => hF.2 reg (k4 reg hr) (anyin_no hm2 reg hr) i)]
  exact k3
def tchL (rs : List Nat) (isA : Bool) (j : Nat) : List RGI → Nat → List Nat
  | [], _ => []
  | q :: r, n => match nin q.1 rs && (q.2.1 == isA) && Nat.beq q.2.2 j with
    | true => n :: tchL rs isA j r (n + 1)
    | false => tchL rs isA j r (n + 1)
theorem tchL_mem {rs : List Nat} {isA : Bool} {j : Nat} : ∀ {G : List RGI} {n reg : Nat} {q : RGI}, G[reg]? = some q → q.1 ∈ rs → q.2.1 = isA → q.2.2 = j → n + reg ∈ tchL rs isA j G n
  | [], n, reg, q, h, _, _, _ => by simp at h
  | a :: r, n, 0, q, h, h1, h2, h3 => by
    have e : a = q := by simpa using h
    subst e
    have : (nin a.1 rs && (a.2.1 == isA) && Nat.beq a.2.2 j) = true := by
      rw [nin_iff.mpr h1, h2, h3]
      simp [Nat.beq_refl]
    simp only [tchL]
    rw [this]
    exact List.mem_cons_self
  | a :: r, n, k + 1, q, h, h1, h2, h3 => by
    have h : r[k]? = some q := by simpa using h
    have := tchL_mem (n := n + 1) h h1 h2 h3
    have e : n + (k + 1) = n + 1 + k := by omega
    simp only [tchL]
    rw [e]
    split
    · exact List.mem_cons_of_mem _ this
    · exact this
def tch (T : Tt) (rs : List Nat) (isA : Bool) (j : Nat) : List Nat := tchL rs isA j (tRG T) 0
theorem tch_mem {rs : List Nat} {isA : Bool} {j reg : Nat} {q : RGI} (h : (tRG T)[reg]? = some q) (h1 : q.1 ∈ rs) (h2 : q.2.1 = isA) (h3 : q.2.2 = j) : reg ∈ tch T rs isA j := by
  have := tchL_mem (n := 0) h h1 h2 h3
  rwa [Nat.zero_add] at this
theorem RG_get {reg : Nat} (h : reg < (tRG T).length) : (tRG T)[reg]? = some (nth (0, false, 0) (tRG T) reg) := nth_lt h
/-- a role that has one cell: what lies at its address has that role -/
theorem Typed.adr (h : Typed T ad S ρ) (hT : TOK T ad gh XI) {reg : Nat} {q : RGI} (hq : (tRG T)[reg]? = some q) {a : Nat} (e : ad q.1 = a) : ρ a = q.1 := by
  rw [← e]; exact (h.2.1 q.1 (hT.1 reg q hq)).2
theorem fr_I (hT : TOK T ad gh XI) (h : Typed T ad S ρ) {a j : Nat} {x : Int32} {rs : List Nat} (hr : ρ a ∈ rs) : Fr T ad (tch T rs false j) S ρ (zsI S j a x) ρ := by
  refine ⟨fun b hb => ⟨hb, rfl⟩, fun reg hreg hn i => ?_⟩
  have hq := RG_get (T := T) hreg
  unfold RGv
  generalize nth (0, false, 0) (tRG T) reg = q at hq ⊢
  unfold RGq
  cases hb : q.2.1 with
  | true => rfl
  | false =>
    show ((zu2 (zI S) j a x) q.2.2 (ad q.1)).toInt = _
    by_cases e : ad q.1 = a ∧ q.2.2 = j
    · exact absurd (tch_mem hq (by rw [← h.adr hT hq e.1]; exact hr) hb e.2) hn
    · rw [zu2_ne (by rcases Decidable.em (ad q.1 = a) with k | k
                     · exact Or.inr (fun k2 => e ⟨k, k2⟩)
                     · exact Or.inl k)]
theorem fr_A (hT : TOK T ad gh XI) (h : Typed T ad S ρ) {a : Nat} {f : Nat → Int32} {rs : List Nat} (hr : ρ a ∈ rs) : Fr T ad (tch T rs true 0) S ρ (zsA S a f) ρ := by
  refine ⟨fun b hb => ⟨hb, rfl⟩, fun reg hreg hn i => ?_⟩
  have hq := RG_get (T := T) hreg
  unfold RGv
  generalize nth (0, false, 0) (tRG T) reg = q at hq ⊢
  obtain ⟨r, isA, f2⟩ := q
  match isA, f2, hq with
  | false, _, _ => rfl
  | true, 0, hq =>
    show ((va_up (zA S) a f) (ad r) i.toNat).toInt = (zA S (ad r) i.toNat).toInt
    by_cases e : ad r = a
    · exact absurd (tch_mem hq (by rw [← h.adr hT hq e]; exact hr) rfl rfl) hn
    · rw [va_up_ne _ _ e]
  | true, 1, _ => rfl
  | true, _ + 2, _ => rfl
theorem fr_J {a j : Nat} {x : Int64} : Fr T ad [] S ρ (zsJ S j a x) ρ := ⟨fun b hb => ⟨hb, rfl⟩, fun reg _ _ i => rfl⟩
theorem fr_Q (hT : TOK T ad gh XI) (h : Typed T ad S ρ) {a j : Nat} {x : Option Nat} {rs : List Nat} (hr : ρ a ∈ rs) : Fr T ad (tch T rs true (j + 2)) S ρ (zsQ S j a x) ρ := by
  refine ⟨fun b hb => ⟨hb, rfl⟩, fun reg hreg hn i => ?_⟩
  have hq := RG_get (T := T) hreg
  unfold RGv
  generalize nth (0, false, 0) (tRG T) reg = q at hq hn ⊢
  obtain ⟨r, isA, f2⟩ := q
  match isA, f2, hq with
  | false, _, _ => rfl
  | true, 0, _ => rfl
  | true, 1, _ => rfl
  | true, k + 2, hq =>
    have e : zQ (zsQ S j a x) k (ad r) = zQ S k (ad r) := by
      show (zu2 (zQ S) j a x) k (ad r) = _
      by_cases e : ad r = a ∧ k = j
      · exact absurd (tch_mem hq (by rw [← h.adr hT hq e.1]; exact hr) rfl (by rw [e.2])) hn
      · rw [zu2_ne (by rcases Decidable.em (ad r = a) with k | k
                       · exact Or.inr (fun k2 => e ⟨k, k2⟩)
                       · exact Or.inl k)]
    show (match zQ (zsQ S j a x) k (ad r) with
      | none => (0 : Int)
      | some _ => 1) = _
    rw [e]
    rfl
theorem fr_B (hT : TOK T ad gh XI) (h : Typed T ad S ρ) {a : Nat} {f : Nat → Int64} {rs : List Nat} (hr : ρ a ∈ rs) : Fr T ad (tch T rs true 1) S ρ (zsB S a f) ρ := by
  refine ⟨fun b hb => ⟨hb, rfl⟩, fun reg hreg hn i => ?_⟩
  have hq := RG_get (T := T) hreg
  unfold RGv
  generalize nth (0, false, 0) (tRG T) reg = q at hq hn ⊢
  obtain ⟨r, isA, f2⟩ := q
  match isA, f2, hq with
  | false, _, _ => rfl
  | true, 0, _ => rfl
  | true, 1, hq =>
    show ((va_up (zB S) a f) (ad r) i.toNat).toInt32.toInt = (zB S (ad r) i.toNat).toInt32.toInt
    by_cases e : ad r = a
    · exact absurd (tch_mem hq (by rw [← h.adr hT hq e]; exact hr) rfl rfl) hn
    · rw [va_up_ne _ _ e]
  | true, _ + 2, _ => rfl
theorem fr_R {a : Nat} {f : Nat → Option Nat} : Fr T ad [] S ρ (zsR S a f) ρ := ⟨fun b hb => ⟨hb, rfl⟩, fun reg _ _ i => rfl⟩
theorem RefOK.same {n : Bool} {rs : List Nat} {q : Option Nat} (hL : zL S' = zL S) (h : RefOK S ρ n rs q) : RefOK S' ρ n rs q := by
  cases q with
  | none => exact h
  | some a => exact ⟨by rw [hL]; exact h.1, h.2⟩
theorem Typed.putI (h : Typed T ad S ρ) {a j : Nat} {x : Int32} (hx : ∀ ri : RI, (tRT T)[ρ a]? = some ri → ri.1 < 13 → ∀ i t, ri.2.2.1[i]? = some t → z_bs ri.1 + i = j → ∃ iv, t = .inl iv ∧ iv.1 ≤ x.toInt ∧ x.toInt ≤ iv.2) : Typed T ad (zsI S j a x) ρ := by
  refine ⟨fun b hb => ?_, h.2.1, h.2.2⟩
  obtain ⟨ri, hri, c1, c2, c3, c4, c5⟩ := h.1 b hb
  refine ⟨ri, hri, c1, c2, fun hk i t ht => ?_, c4, c5⟩
  have := c3 hk i t ht
  match t, this with
  | .inl iv, this =>
    show iv.1 ≤ ((zu2 (zI S) j a x) (z_bs ri.1 + i) b).toInt ∧ ((zu2 (zI S) j a x) (z_bs ri.1 + i) b).toInt ≤ iv.2
    by_cases e : b = a ∧ z_bs ri.1 + i = j
    · obtain ⟨rfl, rfl⟩ := e
      rw [zu2_self]
      obtain ⟨iv2, e2, e3⟩ := hx ri hri hk i _ ht rfl
      cases e2
      exact e3
    · rw [zu2_ne (by rcases Decidable.em (b = a) with k | k
                     · exact Or.inr (fun k2 => e ⟨k, k2⟩)
                     · exact Or.inl k)]
      exact this
  | .inr (.inl nr), this => exact RefOK.same rfl this
  | .inr (.inr _), _ => exact trivial
theorem Typed.putJ (h : Typed T ad S ρ) {a j : Nat} {x : Int64} : Typed T ad (zsJ S j a x) ρ := by
  refine ⟨fun b hb => ?_, h.2.1, h.2.2⟩
  obtain ⟨ri, hri, c1, c2, c3, c4, c5⟩ := h.1 b hb
  refine ⟨ri, hri, c1, c2, fun hk i t ht => ?_, c4, c5⟩
  have := c3 hk i t ht
  match t, this with
  | .inl iv, this => exact this
  | .inr (.inl nr), this => exact RefOK.same rfl this
  | .inr (.inr _), _ => exact trivial
theorem Typed.putQ (h : Typed T ad S ρ) {a j : Nat} {x : Option Nat} (hx : ∀ ri : RI, (tRT T)[ρ a]? = some ri → ri.1 < 13 → ∀ i t, ri.2.2.1[i]? = some t → z_bs ri.1 + i = j → ∃ nr, t = .inr (.inl nr) ∧ RefOK S ρ nr.1 nr.2 x) : Typed T ad (zsQ S j a x) ρ := by
  refine ⟨fun b hb => ?_, h.2.1, h.2.2⟩
  obtain ⟨ri, hri, c1, c2, c3, c4, c5⟩ := h.1 b hb
  refine ⟨ri, hri, c1, c2, fun hk i t ht => ?_, c4, c5⟩
  have := c3 hk i t ht
  match t, this with
  | .inl iv, this => exact this
  | .inr (.inl nr), this =>
    show RefOK _ ρ nr.1 nr.2 ((zu2 (zQ S) j a x) (z_bs ri.1 + i) b)
    by_cases e : b = a ∧ z_bs ri.1 + i = j
    · obtain ⟨rfl, rfl⟩ := e
      rw [zu2_self]
      obtain ⟨nr2, e2, e3⟩ := hx ri hri hk i _ ht rfl
      cases e2
      exact RefOK.same rfl e3
    · rw [zu2_ne (by rcases Decidable.em (b = a) with k | k
                     · exact Or.inr (fun k2 => e ⟨k, k2⟩)
                     · exact Or.inl k)]
      exact RefOK.same rfl this
  | .inr (.inr _), _ => exact trivial
theorem Typed.putA (h : Typed T ad S ρ) {a n : Nat} {x : Int32} {f : Nat → Int32} (hf : ∀ i, i ≠ n → f i = zA S a i) (hn : f n = x) (hx : ∀ ri : RI, (tRT T)[ρ a]? = some ri → ri.1 = 13 → ∀ q ∈ ri.2.2.2.1, q.1 ≤ n → n < q.2.1 → q.2.2.1 ≤ x.toInt ∧ x.toInt ≤ q.2.2.2) : Typed T ad (zsA S a f) ρ := by
  refine ⟨fun b hb => ?_, h.2.1, h.2.2⟩
  obtain ⟨ri, hri, c1, c2, c3, c4, c5⟩ := h.1 b hb
  refine ⟨ri, hri, c1, c2, fun hk i t ht => ?_, fun hk q hq i h1 h2 => ?_, fun hk i hi => RefOK.same rfl (c5 hk i hi)⟩
  · have := c3 hk i t ht
    match t, this with
    | .inl iv, this => exact this
    | .inr (.inl nr), this => exact RefOK.same rfl this
    | .inr (.inr _), _ => exact trivial
  · have := c4 hk q hq i h1 h2
    show q.2.2.1 ≤ ((va_up (zA S) a f) b i).toInt ∧ ((va_up (zA S) a f) b i).toInt ≤ q.2.2.2
    by_cases e : b = a
    · subst e
      rw [va_up_self]
      by_cases e2 : i = n
      · subst e2; rw [hn]; exact hx ri hri hk q hq h1 h2
      · rw [hf i e2]; exact this
    · rw [va_up_ne _ _ e]; exact this
theorem Typed.putB (h : Typed T ad S ρ) {a : Nat} {f : Nat → Int64} : Typed T ad (zsB S a f) ρ := by
  refine ⟨fun b hb => ?_, h.2.1, h.2.2⟩
  obtain ⟨ri, hri, c1, c2, c3, c4, c5⟩ := h.1 b hb
  refine ⟨ri, hri, c1, c2, fun hk i t ht => ?_, c4, fun hk i hi => RefOK.same rfl (c5 hk i hi)⟩
  have := c3 hk i t ht
  match t, this with
  | .inl iv, this => exact this
  | .inr (.inl nr), this => exact RefOK.same rfl this
  | .inr (.inr _), _ => exact trivial
theorem Typed.putR (h : Typed T ad S ρ) {a n : Nat} {x : Option Nat} {f : Nat → Option Nat} (hf : ∀ i, i ≠ n → f i = zR S a i) (hn : f n = x) (hx : ∀ ri : RI, (tRT T)[ρ a]? = some ri → 14 < ri.1 → RefOK S ρ ri.2.2.2.2.1 ri.2.2.2.2.2 x) : Typed T ad (zsR S a f) ρ := by
  refine ⟨fun b hb => ?_, h.2.1, h.2.2⟩
  obtain ⟨ri, hri, c1, c2, c3, c4, c5⟩ := h.1 b hb
  refine ⟨ri, hri, c1, c2, fun hk i t ht => ?_, c4, fun hk i hi => ?_⟩
  · have := c3 hk i t ht
    match t, this with
    | .inl iv, this => exact this
    | .inr (.inl nr), this => exact RefOK.same rfl this
    | .inr (.inr _), _ => exact trivial
  · have := c5 hk i hi
    show RefOK _ ρ _ _ ((va_up (zR S) a f) b i)
    by_cases e : b = a
    · subst e
      rw [va_up_self]
      by_cases e2 : i = n
      · subst e2; rw [hn]; exact RefOK.same rfl (hx ri hri hk)
      · rw [hf i e2]; exact RefOK.same rfl this
    · rw [va_up_ne _ _ e]; exact RefOK.same rfl this
/-- a new object's fields may be 0 and null -/
def zokT (t : FTy) : Bool := match t with
  | .inl iv => ile iv.1 0 && ile 0 iv.2
  | .inr (.inl nr) => nr.1
  | .inr (.inr _) => true
theorem fr_new {q k r : Nat} (hq : q ∉ zL S) (h : Typed T ad S ρ) (hT : TOK T ad gh XI) : Fr T ad [] S ρ (zNew S q k 0) (va_up ρ q r) := by
  refine ⟨fun b hb => ⟨?_, ?_⟩, fun reg hreg _ i => ?_⟩
  · show b ∈ zL S ++ [q]
    exact List.mem_append_left _ hb
  · exact va_up_ne _ _ (fun e => hq (e ▸ hb))
  · have hqq := RG_get (T := T) hreg
    unfold RGv
    generalize nth (0, false, 0) (tRG T) reg = z at hqq ⊢
    have hne : ad z.1 ≠ q := fun e => hq (e ▸ (h.2.1 z.1 (hT.1 reg z hqq)).1)
    obtain ⟨r1, isA, f2⟩ := z
    dsimp only at hne
    match isA, f2 with
    | false, j =>
      show (if ad r1 = q then 0 else zI S j (ad r1)).toInt = _
      rw [if_neg hne]
      rfl
    | true, 0 =>
      show ((va_up (zA S) q (fun _ => 0)) (ad r1) i.toNat).toInt = (zA S (ad r1) i.toNat).toInt
      rw [va_up_ne _ _ hne]
    | true, 1 =>
      show ((va_up (zB S) q (fun _ => 0)) (ad r1) i.toNat).toInt32.toInt = (zB S (ad r1) i.toNat).toInt32.toInt
      rw [va_up_ne _ _ hne]
    | true, j + 2 =>
      have e : zQ (zNew S q k 0) j (ad r1) = zQ S j (ad r1) := by
        show (if ad r1 = q then none else zQ S j (ad r1)) = _
        rw [if_neg hne]
      show (match zQ (zNew S q k 0) j (ad r1) with
        | none => (0 : Int)
        | some _ => 1) = _
      rw [e]
      rfl
theorem RefOK.new {n : Bool} {rs : List Nat} {z : Option Nat} {q k r : Nat} (hq : q ∉ zL S) (h : RefOK S ρ n rs z) : RefOK (zNew S q k 0) (va_up ρ q r) n rs z := by
  cases z with
  | none => exact h
  | some a =>
    have hne : a ≠ q := fun e => hq (e ▸ h.1)
    exact ⟨List.mem_append_left _ h.1, by rw [va_up_ne _ _ hne]; exact h.2⟩
theorem Typed.new (h : Typed T ad S ρ) {q k r : Nat} (hq : q ∉ zL S) {ri : RI} (hr : (tRT T)[r]? = some ri) (hk : ri.1 = k) (h13 : k < 13) (hu : tU T ≤ r) (hz : ∀ t ∈ ri.2.2.1, zokT t = true) : Typed T ad (zNew S q k 0) (va_up ρ q r) := by
  refine ⟨fun b hb => ?_, fun u hu2 => ?_, fun b hb hb2 => ?_⟩
  · have hb : b ∈ zL S ++ [q] := hb
    by_cases e : b = q
    · subst e
      refine ⟨ri, by rw [va_up_self]; exact hr, ?_, fun z => absurd z (by omega), fun _ i t ht => ?_, fun z => absurd z (by omega), fun z => absurd z (by omega)⟩
      · show va_up (zK S) b k b = ri.1
        rw [va_up_self, hk]
      · have := hz t (List.mem_of_getElem? ht)
        match t, this with
        | .inl iv, this =>
          show iv.1 ≤ (if b = b then (0 : Int32) else zI S (z_bs ri.1 + i) b).toInt ∧ (if b = b then (0 : Int32) else zI S (z_bs ri.1 + i) b).toInt ≤ iv.2
          rw [if_pos rfl]
          simp only [zokT, Bool.and_eq_true] at this
          exact ⟨ile_iff.mp this.1, ile_iff.mp this.2⟩
        | .inr (.inl nr), this =>
          show RefOK _ _ nr.1 nr.2 (if b = b then none else zQ S (z_bs ri.1 + i) b)
          rw [if_pos rfl]
          exact this
        | .inr (.inr _), _ => exact trivial
    · have hb' : b ∈ zL S := by
        rcases List.mem_append.mp hb with z | z
        · exact z
        · exact absurd (List.mem_singleton.mp z) e
      obtain ⟨rj, hrj, c1, c2, c3, c4, c5⟩ := h.1 b hb'
      refine ⟨rj, by rw [va_up_ne _ _ e]; exact hrj, ?_, fun z => ?_, fun z i t ht => ?_, fun z w hw i h1 h2 => ?_, fun z i hi => ?_⟩
      · show va_up (zK S) q k b = rj.1
        rw [va_up_ne _ _ e]; exact c1
      · show va_up (zN S) q 0 b = rj.2.1
        rw [va_up_ne _ _ e]; exact c2 z
      · have := c3 z i t ht
        match t, this with
        | .inl iv, this =>
          show iv.1 ≤ (if b = q then (0 : Int32) else zI S (z_bs rj.1 + i) b).toInt ∧ (if b = q then (0 : Int32) else zI S (z_bs rj.1 + i) b).toInt ≤ iv.2
          rw [if_neg e]; exact this
        | .inr (.inl nr), this =>
          show RefOK _ _ nr.1 nr.2 (if b = q then none else zQ S (z_bs rj.1 + i) b)
          rw [if_neg e]; exact this.new hq
        | .inr (.inr _), _ => exact trivial
      · show w.2.2.1 ≤ ((va_up (zA S) q (fun _ => 0)) b i).toInt ∧ ((va_up (zA S) q (fun _ => 0)) b i).toInt ≤ w.2.2.2
        rw [va_up_ne _ _ e]; exact c4 z w hw i h1 h2
      · show RefOK _ _ _ _ ((va_up (zR S) q (fun _ => none)) b i)
        rw [va_up_ne _ _ e]; exact (c5 z i hi).new hq
  · obtain ⟨k1, k2⟩ := h.2.1 u hu2
    have hne : ad u ≠ q := fun e => hq (e ▸ k1)
    exact ⟨List.mem_append_left _ k1, by rw [va_up_ne _ _ hne]; exact k2⟩
  · have hb : b ∈ zL S ++ [q] := hb
    by_cases e : b = q
    · subst e
      rw [va_up_self] at hb2
      omega
    · have hb' : b ∈ zL S := by
        rcases List.mem_append.mp hb with z | z
        · exact z
        · exact absurd (List.mem_singleton.mp z) e
      rw [va_up_ne _ _ e] at hb2 ⊢
      exact h.2.2 b hb' hb2
theorem CoupOK.same {G : CGI} {t : Nat} (h : CoupOK T ad G t S) (e : ∀ c ∈ G.1, RGv T ad S' c.1 ((c.2 + t : Nat) : Int) = RGv T ad S c.1 ((c.2 + t : Nat) : Int)) : CoupOK T ad G t S' := by
  obtain ⟨o, ho, k⟩ := h
  refine ⟨o, ho, fun n c iv h1 h2 => ?_⟩
  rw [e c (List.mem_of_getElem? h1)]
  exact k n c iv h1 h2
theorem CoupX.fr (hT : TOK T ad gh XI) {md : List Nat} {D : List (Nat × Lin)} (h : CoupX T ad S g D) (hF : Fr T ad md S ρ S' ρ') (hn : ∀ (gi : Nat) (G : CGI), (tCG T)[gi]? = some G → ∀ c ∈ G.1, c.1 ∉ md) : CoupX T ad S' g D := by
  intro gi G hG t ht hd
  exact (h gi G hG t ht hd).same (fun c hc => hF.2 c.1 (hT.2.2.2.2.2.1 gi G hG c hc) (hn gi G hG c hc) _)
theorem XI_fr (hT : TOK T ad gh XI) {md : List Nat} (hF : Fr T ad md S ρ S' ρ') (hn : ∀ reg ∈ tXR T, reg ∉ md) (h : XI S) : XI S' := hT.2.2.2.2.1 S S' (fun reg hr i => hF.2 reg (hT.2.2.1 reg hr) (hn reg hr) i) h
end WR
