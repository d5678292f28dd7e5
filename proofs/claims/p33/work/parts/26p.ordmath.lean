/-! orders of leaves: a list holds the leaves from the first place on -/
def prt (n l odd : Nat) : Option Nat := if (l + odd) % 2 = 0 then (if l + 1 < n then some (l + 1) else none) else (if l = 0 then none else if l - 1 < n then some (l - 1) else none)
theorem prt_iff {n l odd o : Nat} : prt n l odd = some o ↔ o < n ∧ ((l + odd) % 2 = 0 ∧ o = l + 1 ∨ (l + odd) % 2 = 1 ∧ l = o + 1) := by
  unfold prt
  constructor
  · intro h
    split at h
    · split at h
      · injection h with h; omega
      · cases h
    · split at h
      · cases h
      · split at h
        · injection h with h; omega
        · cases h
  · rintro ⟨h1, h2 | h2⟩
    · rw [if_pos h2.1, if_pos (by omega), h2.2]
    · rw [if_neg (by omega), if_neg (by omega), if_pos (by omega), h2.2]; rfl
def cOk (n : Nat) (pre : List Nat) (odd top k : Nat) : Bool := match prt n (pre.getD k 0) odd with
  | none => true
  | some o => decide (o ∈ pre) && decide (top ≤ pre.idxOf o)
def cBt (n : Nat) (pre : List Nat) (odd top : Nat) : Nat → Bool
  | 0 => true
  | j + 1 => cBt n pre odd top j && (if top < j then cOk n pre odd top j else true)
def cCl (n : Nat) (pre : List Nat) (l odd : Nat) : Bool := match prt n l odd with
  | none => true
  | some o => if o ∈ pre then cBt n pre odd (pre.idxOf o) pre.length else true
def cFit (n : Nat) (pre : List Nat) (l : Nat) : Bool := cCl n pre l 0 && cCl n pre l 1
def cG (n : Nat) : Nat → List Nat → List (List Nat)
  | 0, pre => [pre]
  | e + 1, pre => (List.range n).flatMap (fun l => if l ∈ pre then [] else if cFit n pre l = true then cG n e (pre ++ [l]) else [])
def aG (n : Nat) : Nat → List Nat → List (List Nat)
  | 0, pre => [pre]
  | e + 1, pre => (List.range n).flatMap (fun l => if l ∈ pre then [] else aG n e (pre ++ [l]))
def xin (P : List Nat) (i j : Nat) : Bool := decide ((P.idxOf i < P.idxOf j ∧ P.idxOf j < P.idxOf (i + 1)) ∨ (P.idxOf (i + 1) < P.idxOf j ∧ P.idxOf j < P.idxOf i))
def okB (n : Nat) (P : List Nat) : Bool := decide (∀ i, i < n → ∀ t, t < n → i + 3 + 2 * t < n → xin P i (i + 2 + 2 * t) = xin P i (i + 3 + 2 * t))
def mG (n : Nat) : Nat → List Nat → List (List Nat)
  | 0, pre => if okB n pre = true then [pre] else []
  | e + 1, pre => (List.range n).flatMap (fun l => if l ∈ pre then [] else mG n e (pre ++ [l]))
theorem flt_fm {α β : Type} (q : β → Bool) (f : α → List β) : ∀ L : List α, (L.flatMap f).filter q = L.flatMap (fun a => (f a).filter q)
  | [] => rfl
  | a :: L => by simp only [List.flatMap_cons, List.filter_append, flt_fm q f L]
theorem fm_cong {α β : Type} {f g : α → List β} : ∀ {L : List α}, (∀ a, a ∈ L → f a = g a) → L.flatMap f = L.flatMap g
  | [], _ => rfl
  | a :: L, h => by rw [List.flatMap_cons, List.flatMap_cons, h a List.mem_cons_self, fm_cong (fun b hb => h b (List.mem_cons_of_mem _ hb))]
theorem mG_flt (n : Nat) : ∀ e pre, mG n e pre = (aG n e pre).filter (okB n)
  | 0, pre => by
    simp only [mG, aG, List.filter_cons, List.filter_nil]
  | e + 1, pre => by
    simp only [mG, aG]
    rw [flt_fm]
    refine fm_cong fun l _ => ?_
    split
    · rfl
    · exact mG_flt n e _
theorem aG_mem {n : Nat} : ∀ {e : Nat} {pre P : List Nat}, P ∈ aG n e pre → ∃ s, P = pre ++ s ∧ s.length = e ∧ (∀ x, x ∈ s → x < n) ∧ (pre.Nodup → P.Nodup)
  | 0, pre, P, h => by
    simp only [aG, List.mem_singleton] at h
    exact ⟨[], by simp [h], rfl, fun x hx => absurd hx List.not_mem_nil, fun q => h ▸ q⟩
  | e + 1, pre, P, h => by
    simp only [aG, List.mem_flatMap, List.mem_range] at h
    obtain ⟨l, hl, h⟩ := h
    split at h
    · exact absurd h List.not_mem_nil
    · rename_i hn
      obtain ⟨s, h1, h2, h3, h4⟩ := aG_mem h
      refine ⟨l :: s, by rw [h1, List.append_assoc]; rfl, by simp [h2], fun x hx => ?_, fun q => h4 ?_⟩
      · rcases List.mem_cons.mp hx with rfl | hx
        · exact hl
        · exact h3 x hx
      · rw [List.nodup_append]
        refine ⟨q, by simp, fun a ha b hb => ?_⟩
        rw [List.mem_singleton] at hb
        exact fun z => hn (by rw [← hb, ← z]; exact ha)
def ftF (n a : Nat) (P : List Nat) : Bool := decide (∀ p, p < P.length → a ≤ p → cFit n (P.take p) (P.getD p 0) = true)
theorem cG_flt (n : Nat) : ∀ e pre, cG n e pre = (aG n e pre).filter (ftF n pre.length)
  | 0, pre => by
    have : ftF n pre.length pre = true := decide_eq_true (fun p h1 h2 => absurd h1 (by omega))
    simp only [cG, aG, List.filter_cons, List.filter_nil, this, if_true]
  | e + 1, pre => by
    simp only [cG, aG]
    rw [flt_fm]
    refine fm_cong fun l _ => ?_
    by_cases hl : l ∈ pre
    · rw [if_pos hl, if_pos hl]; rfl
    rw [if_neg hl, if_neg hl]
    have key : ∀ P, P ∈ aG n e (pre ++ [l]) → (ftF n pre.length P = (cFit n pre l && ftF n (pre ++ [l]).length P)) := fun P hP => by
      obtain ⟨s, rfl, -, -, -⟩ := aG_mem hP
      have e1 : (pre ++ [l] ++ s).take pre.length = pre := by simp
      have e2 : (pre ++ [l] ++ s).getD pre.length 0 = l := by simp [List.getD_eq_getElem?_getD]
      have e3 : pre.length < (pre ++ [l] ++ s).length := by simp only [List.length_append, List.length_singleton]; omega
      rw [Bool.eq_iff_iff, Bool.and_eq_true, ftF, ftF, decide_eq_true_eq, decide_eq_true_eq]
      constructor
      · intro h
        refine ⟨?_, fun p h1 h2 => h p h1 (by simp at h2; omega)⟩
        have := h pre.length e3 (Nat.le_refl _)
        rwa [e1, e2] at this
      · rintro ⟨h, h'⟩ p h1 h2
        rcases Nat.eq_or_lt_of_le h2 with q | q
        · subst q; rw [e1, e2]; exact h
        · exact h' p h1 (by simp; omega)
    by_cases hf : cFit n pre l = true
    · rw [if_pos hf, cG_flt n e]
      refine List.filter_congr fun P hP => ?_
      rw [key P hP, hf]; rfl
    · rw [if_neg hf]
      symm
      rw [List.filter_eq_nil_iff]
      intro P hP q
      rw [key P hP, Bool.and_eq_true] at q
      exact hf q.1
/-! places -/
theorem nd_len : ∀ (n : Nat) (l : List Nat), l.Nodup → (∀ x, x ∈ l → x < n) → l.length ≤ n
  | 0, l, _, h => by
    cases l with
    | nil => exact Nat.le_refl _
    | cons a l => exact absurd (h a List.mem_cons_self) (by omega)
  | n + 1, l, hd, h => by
    have h1 := nd_len n (l.erase n) (hd.erase n) (fun x hx => by
      have q := h x (List.mem_of_mem_erase hx)
      have : x ≠ n := fun z => hd.not_mem_erase (z ▸ hx)
      omega)
    have := List.length_erase (a := n) (l := l)
    split at this <;> omega
theorem nd_all {n : Nat} {P : List Nat} (hd : P.Nodup) (hb : ∀ x, x ∈ P → x < n) (hl : P.length = n) {x : Nat} (hx : x < n) : x ∈ P := Classical.byContradiction fun q => by
  have := nd_len n (x :: P) (List.nodup_cons.mpr ⟨q, hd⟩) (fun y hy => (List.mem_cons.mp hy).elim (fun z => z ▸ hx) (fun z => hb y z))
  simp at this; omega
theorem ix_get : ∀ {P : List Nat}, P.Nodup → ∀ {k : Nat}, k < P.length → P.idxOf (P.getD k 0) = k
  | [], _, k, h => absurd h (Nat.not_lt_zero k)
  | a :: P, hd, 0, _ => by simp
  | a :: P, hd, k + 1, h => by
    have h' : k < P.length := by simpa using h
    have hd' := (List.nodup_cons.mp hd)
    have e : (a :: P).getD (k + 1) 0 = P.getD k 0 := by simp
    rw [e, List.idxOf_cons, ix_get hd'.2 h']
    have : P.getD k 0 ∈ P := by rw [List.getD_eq_getElem?_getD, List.getElem?_eq_getElem h']; exact List.getElem_mem h'
    have : (a == P.getD k 0) = false := by
      rw [beq_eq_false_iff_ne]; exact fun z => hd'.1 (z ▸ this)
    rw [this]; rfl
theorem get_ix : ∀ {P : List Nat} {x : Nat}, x ∈ P → P.getD (P.idxOf x) 0 = x ∧ P.idxOf x < P.length
  | [], x, h => absurd h List.not_mem_nil
  | a :: P, x, h => by
    rw [List.idxOf_cons]
    by_cases e : a = x
    · subst e; simp
    · have h' : x ∈ P := (List.mem_cons.mp h).elim (fun q => absurd q.symm e) id
      have : (a == x) = false := by rw [beq_eq_false_iff_ne]; exact e
      have g := get_ix h'
      rw [this]
      simp only [cond_false, List.getD_cons_succ, List.length_cons]
      exact ⟨g.1, by omega⟩
theorem mem_tk : ∀ {P : List Nat} {x p : Nat}, x ∈ P → (x ∈ P.take p ↔ P.idxOf x < p)
  | [], x, p, h => absurd h List.not_mem_nil
  | a :: P, x, 0, h => by simp
  | a :: P, x, p + 1, h => by
    rw [List.idxOf_cons, List.take_succ_cons, List.mem_cons]
    by_cases e : a = x
    · subst e; simp
    · have h' : x ∈ P := (List.mem_cons.mp h).elim (fun q => absurd q.symm e) id
      have : (a == x) = false := by rw [beq_eq_false_iff_ne]; exact e
      have g := mem_tk (p := p) h'
      rw [this, g]
      simp only [cond_false]
      constructor
      · rintro (q | q)
        · exact absurd q.symm e
        · omega
      · intro q; exact Or.inr (by omega)
theorem ix_tk : ∀ {P : List Nat} {x p : Nat}, x ∈ P → P.idxOf x < p → (P.take p).idxOf x = P.idxOf x
  | [], x, p, h, _ => absurd h List.not_mem_nil
  | a :: P, x, 0, _, h => absurd h (Nat.not_lt_zero _)
  | a :: P, x, p + 1, h, hp => by
    rw [List.take_succ_cons, List.idxOf_cons, List.idxOf_cons]
    by_cases e : a = x
    · subst e; simp
    · have h' : x ∈ P := (List.mem_cons.mp h).elim (fun q => absurd q.symm e) id
      have t : (a == x) = false := by rw [beq_eq_false_iff_ne]; exact e
      rw [List.idxOf_cons, t] at hp
      simp only [cond_false] at hp
      rw [t, ix_tk h' (by omega)]
theorem cBt_iff {n : Nat} {pre : List Nat} {odd top : Nat} : ∀ {j : Nat}, cBt n pre odd top j = true ↔ ∀ k, top < k → k < j → cOk n pre odd top k = true
  | 0 => by simp [cBt]
  | j + 1 => by
    rw [cBt, Bool.and_eq_true, cBt_iff]
    constructor
    · rintro ⟨h1, h2⟩ k hk hj
      rcases Nat.lt_or_ge k j with q | q
      · exact h1 k hk q
      · obtain rfl : k = j := by omega
        rwa [if_pos hk] at h2
    · intro h
      refine ⟨fun k hk hj => h k hk (by omega), ?_⟩
      split
      · rename_i q; exact h j q (by omega)
      · rfl
/-- what the fits of all places ask, by the places of the leaves -/
def Fx (n : Nat) (P : List Nat) : Prop := ∀ odd, odd < 2 → ∀ l o m o', l < n → prt n l odd = some o → m < n → prt n m odd = some o' → P.idxOf o < P.idxOf m → P.idxOf m < P.idxOf l → P.idxOf o' < P.idxOf l ∧ P.idxOf o ≤ P.idxOf o'
theorem prt_lt {n l odd o : Nat} (h : prt n l odd = some o) : o < n := (prt_iff.mp h).1
theorem cCl_iff {n : Nat} {P : List Nat} (hd : P.Nodup) (ha : ∀ x, x < n → x ∈ P) (hb : ∀ x, x ∈ P → x < n) {l odd : Nat} (hl : l < n) : cCl n (P.take (P.idxOf l)) l odd = true ↔ ∀ o m o', prt n l odd = some o → m < n → prt n m odd = some o' → P.idxOf o < P.idxOf m → P.idxOf m < P.idxOf l → P.idxOf o' < P.idxOf l ∧ P.idxOf o ≤ P.idxOf o' := by
  have hll := (get_ix (ha l hl)).2
  have hlen : (P.take (P.idxOf l)).length = P.idxOf l := by rw [List.length_take]; omega
  unfold cCl
  split
  · rename_i h; exact ⟨fun _ o m o' q => absurd (h.symm.trans q) (by simp), fun _ => rfl⟩
  · rename_i o h
    have ho := ha o (prt_lt h)
    by_cases hm : o ∈ P.take (P.idxOf l)
    · rw [if_pos hm, cBt_iff, hlen]
      have hol := (mem_tk ho).mp hm
      rw [ix_tk ho hol]
      constructor
      · intro q o2 m o' h2 hmn hp h3 h4
        obtain rfl : o = o2 := Option.some.inj (h.symm.trans h2)
        have hmP := ha m hmn
        have e := q (P.idxOf m) h3 h4
        have em : (P.take (P.idxOf l)).getD (P.idxOf m) 0 = m := by
          rw [List.getD_eq_getElem?_getD, List.getElem?_take_of_lt h4, ← List.getD_eq_getElem?_getD]; exact (get_ix hmP).1
        unfold cOk at e
        rw [em, hp] at e
        simp only [Bool.and_eq_true, decide_eq_true_eq] at e
        have ho' := ha o' (prt_lt hp)
        have h5 := (mem_tk ho').mp e.1
        rw [ix_tk ho' h5] at e
        exact ⟨h5, e.2⟩
      · intro q k h3 h4
        have em : (P.take (P.idxOf l)).getD k 0 = P.getD k 0 := by
          rw [List.getD_eq_getElem?_getD, List.getElem?_take_of_lt h4, ← List.getD_eq_getElem?_getD]
        unfold cOk
        rw [em]
        split
        · rfl
        · rename_i o' hp
          have hk : k < P.length := by omega
          have hkm : P.getD k 0 ∈ P := by rw [List.getD_eq_getElem?_getD, List.getElem?_eq_getElem hk]; exact List.getElem_mem hk
          have ek := ix_get hd hk
          have g := q o (P.getD k 0) o' h (hb _ hkm) hp (by omega) (by omega)
          have ho' := ha o' (prt_lt hp)
          rw [Bool.and_eq_true, decide_eq_true_eq, decide_eq_true_eq, mem_tk ho', ix_tk ho' g.1]
          exact g
    · rw [if_neg hm]
      have hol : ¬ P.idxOf o < P.idxOf l := fun z => hm ((mem_tk ho).mpr z)
      refine ⟨fun _ o2 m o' h2 _ _ h3 h4 => ?_, fun _ => rfl⟩
      obtain rfl : o = o2 := Option.some.inj (h.symm.trans h2)
      omega
theorem ftF_iff {n : Nat} {P : List Nat} (hd : P.Nodup) (ha : ∀ x, x < n → x ∈ P) (hb : ∀ x, x ∈ P → x < n) : ftF n 0 P = true ↔ Fx n P := by
  rw [ftF, decide_eq_true_eq]
  constructor
  · intro h odd hodd l o m o' hl h1 hm h2 h3 h4
    have g := get_ix (ha l hl)
    have f := h (P.idxOf l) g.2 (Nat.zero_le _)
    rw [g.1, cFit, Bool.and_eq_true] at f
    rcases (show odd = 0 ∨ odd = 1 by omega) with rfl | rfl
    · exact (cCl_iff hd ha hb hl).mp f.1 o m o' h1 hm h2 h3 h4
    · exact (cCl_iff hd ha hb hl).mp f.2 o m o' h1 hm h2 h3 h4
  · intro h p hp _
    have hm : P.getD p 0 ∈ P := by rw [List.getD_eq_getElem?_getD, List.getElem?_eq_getElem hp]; exact List.getElem_mem hp
    have hl := hb _ hm
    have e := ix_get hd hp
    have t : ∀ odd, odd < 2 → cCl n (P.take p) (P.getD p 0) odd = true := fun odd ho => by
      have := (cCl_iff hd ha hb (odd := odd) hl).mpr (fun o m o' h1 hm h2 h3 h4 => h odd ho _ o m o' hl h1 hm h2 h3 h4)
      rwa [e] at this
    rw [cFit, t 0 (by decide), t 1 (by decide)]; rfl
theorem xin_iff {P : List Nat} {i j k : Nat} : xin P i j = xin P i k ↔ (((P.idxOf i < P.idxOf j ∧ P.idxOf j < P.idxOf (i + 1)) ∨ (P.idxOf (i + 1) < P.idxOf j ∧ P.idxOf j < P.idxOf i)) ↔ ((P.idxOf i < P.idxOf k ∧ P.idxOf k < P.idxOf (i + 1)) ∨ (P.idxOf (i + 1) < P.idxOf k ∧ P.idxOf k < P.idxOf i))) := by
  unfold xin; rw [decide_eq_decide]
/-- the fits of all places, and no crossing: one and the same -/
theorem Fx_ok {n : Nat} {P : List Nat} (hi : ∀ a b, a < n → b < n → P.idxOf a = P.idxOf b → a = b) : Fx n P ↔ okB n P = true := by
  rw [okB, decide_eq_true_eq]
  have x : ∀ a b, a < n → b < n → a ≠ b → P.idxOf a ≠ P.idxOf b := fun a b h1 h2 h3 h4 => h3 (hi a b h1 h2 h4)
  constructor
  · intro h i hin t ht h3
    rw [xin_iff]
    have p1 : prt n i (i % 2) = some (i + 1) := prt_iff.mpr ⟨by omega, by omega⟩
    have p2 : prt n (i + 1) (i % 2) = some i := prt_iff.mpr ⟨by omega, by omega⟩
    have p3 : prt n (i + 2 + 2 * t) (i % 2) = some (i + 3 + 2 * t) := prt_iff.mpr ⟨by omega, by omega⟩
    have p4 : prt n (i + 3 + 2 * t) (i % 2) = some (i + 2 + 2 * t) := prt_iff.mpr ⟨by omega, by omega⟩
    have o2 : i % 2 < 2 := by omega
    have a1 := h _ o2 i (i + 1) (i + 2 + 2 * t) (i + 3 + 2 * t) (by omega) p1 (by omega) p3
    have a2 := h _ o2 i (i + 1) (i + 3 + 2 * t) (i + 2 + 2 * t) (by omega) p1 (by omega) p4
    have a3 := h _ o2 (i + 1) i (i + 2 + 2 * t) (i + 3 + 2 * t) (by omega) p2 (by omega) p3
    have a4 := h _ o2 (i + 1) i (i + 3 + 2 * t) (i + 2 + 2 * t) (by omega) p2 (by omega) p4
    have x1 := x i (i + 2 + 2 * t) (by omega) (by omega) (by omega)
    have x2 := x i (i + 3 + 2 * t) (by omega) (by omega) (by omega)
    have x3 := x (i + 1) (i + 2 + 2 * t) (by omega) (by omega) (by omega)
    have x4 := x (i + 1) (i + 3 + 2 * t) (by omega) (by omega) (by omega)
    omega
  · intro h odd hodd l o m o' hl h1 hm h2 h3 h4
    have g1 := prt_iff.mp h1
    have g2 := prt_iff.mp h2
    have x1 := x l o hl g1.1 (by omega)
    have x2 := x m o' hm g2.1 (by omega)
    have x5 : m ≠ l := fun z => by rw [z] at h4; omega
    have x6 : m ≠ o := fun z => by rw [z] at h3; omega
    have x3 := x l o' hl g2.1 (by omega)
    have x4 := x o o' g1.1 g2.1 (by omega)
    have two : ∀ i j, i + 1 < n → j + 1 < n → (i + j) % 2 = 0 → i < j → (((P.idxOf i < P.idxOf j ∧ P.idxOf j < P.idxOf (i + 1)) ∨ (P.idxOf (i + 1) < P.idxOf j ∧ P.idxOf j < P.idxOf i)) ↔ ((P.idxOf i < P.idxOf (j + 1) ∧ P.idxOf (j + 1) < P.idxOf (i + 1)) ∨ (P.idxOf (i + 1) < P.idxOf (j + 1) ∧ P.idxOf (j + 1) < P.idxOf i))) := fun i j hi1 hj1 hp hij => by
      have := h i (by omega) ((j - i - 2) / 2) (by omega) (by omega)
      rw [xin_iff, show i + 2 + 2 * ((j - i - 2) / 2) = j by omega, show i + 3 + 2 * ((j - i - 2) / 2) = j + 1 by omega] at this
      exact this
    rcases g1.2 with ⟨q1, rfl⟩ | ⟨q1, rfl⟩ <;> rcases g2.2 with ⟨q2, rfl⟩ | ⟨q2, rfl⟩
    · rcases Nat.lt_or_ge l m with z | z
      · have := two l m (by omega) (by omega) (by omega) z; omega
      · have := two m l (by omega) (by omega) (by omega) (by omega); omega
    · rcases Nat.lt_or_ge l o' with z | z
      · have := two l o' (by omega) (by omega) (by omega) z; omega
      · have := two o' l (by omega) (by omega) (by omega) (by omega); omega
    · rcases Nat.lt_or_ge o m with z | z
      · have := two o m (by omega) (by omega) (by omega) z; omega
      · have := two m o (by omega) (by omega) (by omega) (by omega); omega
    · rcases Nat.lt_or_ge o o' with z | z
      · have := two o o' (by omega) (by omega) (by omega) z; omega
      · have := two o' o (by omega) (by omega) (by omega) (by omega); omega
theorem mG_cG (n : Nat) : mG n n [] = cG n n [] := by
  rw [mG_flt, cG_flt]
  refine List.filter_congr fun P hP => ?_
  obtain ⟨s, e, h2, h3, h4⟩ := aG_mem hP
  rw [List.nil_append] at e
  rw [← e] at h2 h3
  have hd := h4 List.nodup_nil
  have ha : ∀ x, x < n → x ∈ P := fun x hx => nd_all hd h3 h2 hx
  rw [Bool.eq_iff_iff]
  show okB n P = true ↔ ftF n 0 P = true
  rw [ftF_iff hd ha h3, ← Fx_ok]
  intro a b h1 h2 h3
  have e1 := (get_ix (ha a h1)).1
  have e2 := (get_ix (ha b h2)).1
  rw [← e1, h3, e2]
theorem fm_len {α β : Type} (f : α → List β) : ∀ (A B : List α), (A.flatMap f).length ≤ ((A ++ B).flatMap f).length := fun A B => by
  rw [List.flatMap_append, List.length_append]; omega

theorem cG_n1 : (cG 1 1 []).length = 1 := by decide +kernel
theorem cG_n2 : (cG 2 2 []).length = 2 := by decide +kernel
theorem cG_n3 : (cG 3 3 []).length = 6 := by decide +kernel
theorem cG_n4 : (cG 4 4 []).length = 16 := by decide +kernel
theorem cG_n5 : (cG 5 5 []).length = 50 := by decide +kernel
theorem cG_n6 : (cG 6 6 []).length = 144 := by decide +kernel

theorem cG_n7_0 : (cG 7 6 [0]).length = 66 := by decide +kernel
theorem cG_n7_1 : (cG 7 6 [1]).length = 66 := by decide +kernel
theorem cG_n7_2 : (cG 7 6 [2]).length = 66 := by decide +kernel
theorem cG_n7_3 : (cG 7 6 [3]).length = 66 := by decide +kernel
theorem cG_n7_4 : (cG 7 6 [4]).length = 66 := by decide +kernel
theorem cG_n7_5 : (cG 7 6 [5]).length = 66 := by decide +kernel
theorem cG_n7_6 : (cG 7 6 [6]).length = 66 := by decide +kernel
theorem cG_n7 : (cG 7 7 []).length = 462 := by
  have e : cG 7 7 [] = cG 7 6 [0] ++ cG 7 6 [1] ++ cG 7 6 [2] ++ cG 7 6 [3] ++ cG 7 6 [4] ++ cG 7 6 [5] ++ cG 7 6 [6] := by
    show (List.range 7).flatMap _ = _
    rw [show List.range 7 = [0, 1, 2, 3, 4, 5, 6] from rfl]
    simp only [List.flatMap_cons, List.flatMap_nil, List.not_mem_nil, if_false, List.nil_append, List.append_nil]
    rw [if_pos (show cFit 7 [] 0 = true from by decide), if_pos (show cFit 7 [] 1 = true from by decide), if_pos (show cFit 7 [] 2 = true from by decide), if_pos (show cFit 7 [] 3 = true from by decide), if_pos (show cFit 7 [] 4 = true from by decide), if_pos (show cFit 7 [] 5 = true from by decide), if_pos (show cFit 7 [] 6 = true from by decide)]
    simp only [List.append_assoc]
  rw [e]; simp only [List.length_append, cG_n7_0, cG_n7_1, cG_n7_2, cG_n7_3, cG_n7_4, cG_n7_5, cG_n7_6]
theorem cG_n8_0 : (cG 8 7 [0]).length = 174 := by decide +kernel
theorem cG_n8_1 : (cG 8 7 [1]).length = 174 := by decide +kernel
theorem cG_n8_2 : (cG 8 7 [2]).length = 174 := by decide +kernel
theorem cG_n8_3 : (cG 8 7 [3]).length = 174 := by decide +kernel
theorem cG_n8_4 : (cG 8 7 [4]).length = 174 := by decide +kernel
theorem cG_n8_5 : (cG 8 7 [5]).length = 174 := by decide +kernel
theorem cG_n8_6 : (cG 8 7 [6]).length = 174 := by decide +kernel
theorem cG_n8_7 : (cG 8 7 [7]).length = 174 := by decide +kernel
theorem cG_n8 : (cG 8 8 []).length = 1392 := by
  have e : cG 8 8 [] = cG 8 7 [0] ++ cG 8 7 [1] ++ cG 8 7 [2] ++ cG 8 7 [3] ++ cG 8 7 [4] ++ cG 8 7 [5] ++ cG 8 7 [6] ++ cG 8 7 [7] := by
    show (List.range 8).flatMap _ = _
    rw [show List.range 8 = [0, 1, 2, 3, 4, 5, 6, 7] from rfl]
    simp only [List.flatMap_cons, List.flatMap_nil, List.not_mem_nil, if_false, List.nil_append, List.append_nil]
    rw [if_pos (show cFit 8 [] 0 = true from by decide), if_pos (show cFit 8 [] 1 = true from by decide), if_pos (show cFit 8 [] 2 = true from by decide), if_pos (show cFit 8 [] 3 = true from by decide), if_pos (show cFit 8 [] 4 = true from by decide), if_pos (show cFit 8 [] 5 = true from by decide), if_pos (show cFit 8 [] 6 = true from by decide), if_pos (show cFit 8 [] 7 = true from by decide)]
    simp only [List.append_assoc]
  rw [e]; simp only [List.length_append, cG_n8_0, cG_n8_1, cG_n8_2, cG_n8_3, cG_n8_4, cG_n8_5, cG_n8_6, cG_n8_7]

theorem cG_len {n : Nat} (h1 : 1 ≤ n) (h8 : n ≤ 8) : 1 ≤ (cG n n []).length ∧ (cG n n []).length ≤ 1392 := by
  rcases (show n = 1 ∨ n = 2 ∨ n = 3 ∨ n = 4 ∨ n = 5 ∨ n = 6 ∨ n = 7 ∨ n = 8 by omega) with rfl | rfl | rfl | rfl | rfl | rfl | rfl | rfl
  · rw [cG_n1]; decide
  · rw [cG_n2]; decide
  · rw [cG_n3]; decide
  · rw [cG_n4]; decide
  · rw [cG_n5]; decide
  · rw [cG_n6]; decide
  · rw [cG_n7]; decide
  · rw [cG_n8]; decide
