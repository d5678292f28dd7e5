/-! objects by numbers: what a constructor does, run as it stands -/
/-- an object: kind, length, int fields, reference fields, int elements, reference elements (the newest first) -/
abbrev CO : Type := Nat × Nat × List (Nat × Int) × List (Nat × Option Nat) × List (Nat × Int) × List (Nat × Option Nat)
abbrev CSt : Type := List CO
def aI (l : List (Nat × Int)) (k : Nat) : Int := match asc k l with
  | some v => v
  | none => 0
def aQ (l : List (Nat × Option Nat)) (k : Nat) : Option Nat := match asc k l with
  | some v => v
  | none => none
def cnew (k n : Nat) : CO := (k, n, [], [], [], [])
def CS (r : Nat → Nat) (c : CSt) (S : zS) : Prop :=
  zL S = (List.range c.length).map r ∧ (∀ i j, i < c.length → j < c.length → r i = r j → i = j) ∧
  (∀ (i : Nat) (o : CO), c[i]? = some o → (∀ j t, aQ o.2.2.2.1 j = some t → t < c.length) ∧ ∀ j t, aQ o.2.2.2.2.2 j = some t → t < c.length) ∧
  ∀ (i : Nat) (o : CO), c[i]? = some o → zK S (r i) = o.1 ∧ zN S (r i) = o.2.1 ∧ (∀ j, (zI S j (r i)).toInt = aI o.2.2.1 j) ∧ (∀ j, zQ S j (r i) = (aQ o.2.2.2.1 j).map r) ∧ (∀ k, (zA S (r i) k).toInt = aI o.2.2.2.2.1 k) ∧ ∀ k, zR S (r i) k = (aQ o.2.2.2.2.2 k).map r
theorem aI_c {l : List (Nat × Int)} {k j : Nat} {v : Int} : aI ((k, v) :: l) j = if j = k then v else aI l j := by
  unfold aI
  show (match (match Nat.beq k j with | true => some v | false => asc j l) with | some v => v | none => 0) = _
  cases h : Nat.beq k j with
  | true => have := Nat.eq_of_beq_eq_true h; rw [if_pos this.symm]
  | false =>
    have : j ≠ k := fun q => by rw [q, Nat.beq_refl] at h; cases h
    rw [if_neg this]
theorem aQ_c {l : List (Nat × Option Nat)} {k j : Nat} {v : Option Nat} : aQ ((k, v) :: l) j = if j = k then v else aQ l j := by
  unfold aQ
  show (match (match Nat.beq k j with | true => some v | false => asc j l) with | some v => v | none => none) = _
  cases h : Nat.beq k j with
  | true => have := Nat.eq_of_beq_eq_true h; rw [if_pos this.symm]
  | false =>
    have : j ≠ k := fun q => by rw [q, Nat.beq_refl] at h; cases h
    rw [if_neg this]
section CS1
variable {r : Nat → Nat} {c : CSt} {S : zS}
theorem CS.mem (h : CS r c S) {i : Nat} (hi : i < c.length) : r i ∈ zL S := by rw [h.1]; exact List.mem_map.mpr ⟨i, List.mem_range.mpr hi, rfl⟩
theorem CS.new (h : CS r c S) {q k n : Nat} (hq : q ∉ zL S) : CS (va_up r c.length q) (c ++ [cnew k n]) (zNew S q k n) ∧ ∀ i, i < c.length → va_up r c.length q i = r i := by
  have hr : ∀ i, i < c.length → va_up r c.length q i = r i := fun i hi => va_up_ne _ _ (by omega)
  have hq0 : va_up r c.length q c.length = q := by simp [va_up]
  have hne : ∀ i, i < c.length → r i ≠ q := fun i hi e => hq (e ▸ h.mem hi)
  have hl : (c ++ [cnew k n]).length = c.length + 1 := by simp
  refine ⟨⟨?_, ?_, ?_, ?_⟩, hr⟩
  · show zL S ++ [q] = _
    rw [hl, List.range_succ, List.map_append, h.1]
    congr 1
    · exact List.map_congr_left (fun i hi => (hr i (List.mem_range.mp hi)).symm)
    · show [q] = [va_up r c.length q c.length]; rw [hq0]
  · intro i j hi hj e
    rw [hl] at hi hj
    rcases Nat.lt_or_ge i c.length with a | a <;> rcases Nat.lt_or_ge j c.length with b | b
    · rw [hr i a, hr j b] at e; exact h.2.1 i j a b e
    · have : j = c.length := by omega
      subst this
      rw [hr i a, hq0] at e; exact absurd e (hne i a)
    · have : i = c.length := by omega
      subst this
      rw [hr j b, hq0] at e; exact absurd e.symm (hne j b)
    · omega
  · intro i o ho
    rcases Nat.lt_or_ge i c.length with a | a
    · rw [List.getElem?_append_left a] at ho
      obtain ⟨h1, h2⟩ := h.2.2.1 i o ho
      exact ⟨fun j t e => by have := h1 j t e; omega, fun j t e => by have := h2 j t e; omega⟩
    · rw [List.getElem?_append_right a] at ho
      have : i - c.length = 0 := by
        rcases Nat.eq_zero_or_pos (i - c.length) with z | z
        · exact z
        · rw [List.getElem?_eq_none (by simp; omega)] at ho; cases ho
      rw [this] at ho
      cases ho
      exact ⟨fun j t e => (by cases e), fun j t e => (by cases e)⟩
  · intro i o ho
    rcases Nat.lt_or_ge i c.length with a | a
    · rw [List.getElem?_append_left a] at ho
      obtain ⟨h1, h2, h3, h4, h5, h6⟩ := h.2.2.2 i o ho
      obtain ⟨g1, g2⟩ := h.2.2.1 i o ho
      have n1 := hne i a
      rw [hr i a]
      refine ⟨(va_up_ne _ _ n1).trans h1, (va_up_ne _ _ n1).trans h2, fun j => ?_, fun j => ?_, fun j => ?_, fun j => ?_⟩
      · show (if r i = q then (0 : Int32) else zI S j (r i)).toInt = _
        rw [if_neg n1]; exact h3 j
      · show (if r i = q then none else zQ S j (r i)) = _
        rw [if_neg n1, h4 j]
        cases e : aQ o.2.2.2.1 j with
        | none => rfl
        | some t => show some (r t) = some (va_up r c.length q t); rw [hr t (g1 j t e)]
      · show (va_up (zA S) q (fun _ => 0) (r i) j).toInt = _
        rw [va_up_ne _ _ n1]; exact h5 j
      · show va_up (zR S) q (fun _ => none) (r i) j = _
        rw [va_up_ne _ _ n1, h6 j]
        cases e : aQ o.2.2.2.2.2 j with
        | none => rfl
        | some t => show some (r t) = some (va_up r c.length q t); rw [hr t (g2 j t e)]
    · rw [List.getElem?_append_right a] at ho
      have h0 : i - c.length = 0 := by
        rcases Nat.eq_zero_or_pos (i - c.length) with z | z
        · exact z
        · rw [List.getElem?_eq_none (by simp; omega)] at ho; cases ho
      rw [h0] at ho
      cases ho
      have : i = c.length := by omega
      subst this
      rw [hq0]
      refine ⟨by show va_up (zK S) q k q = k; simp [va_up], by show va_up (zN S) q n q = n; simp [va_up], fun j => ?_, fun j => ?_, fun j => ?_, fun j => ?_⟩
      · show (if q = q then (0 : Int32) else zI S j q).toInt = 0
        rw [if_pos rfl]; rfl
      · show (if q = q then none else zQ S j q) = none
        rw [if_pos rfl]
      · show (va_up (zA S) q (fun _ => 0) q j).toInt = 0
        simp [va_up]
      · show va_up (zR S) q (fun _ => none) q j = none
        simp [va_up]
/-- one object changed -/
theorem CS.put1 (h : CS r c S) {S' : zS} {i : Nat} {o o' : CO} (ho : c[i]? = some o) (hL : zL S' = zL S) (hK : zK S' = zK S) (hN : zN S' = zN S) (h1 : o'.1 = o.1) (h2 : o'.2.1 = o.2.1)
    (hw : (∀ j t, aQ o'.2.2.2.1 j = some t → t < c.length) ∧ ∀ j t, aQ o'.2.2.2.2.2 j = some t → t < c.length)
    (hs : (∀ j, (zI S' j (r i)).toInt = aI o'.2.2.1 j) ∧ (∀ j, zQ S' j (r i) = (aQ o'.2.2.2.1 j).map r) ∧ (∀ k, (zA S' (r i) k).toInt = aI o'.2.2.2.2.1 k) ∧ ∀ k, zR S' (r i) k = (aQ o'.2.2.2.2.2 k).map r)
    (hn : ∀ a, a ≠ r i → (∀ j, zI S' j a = zI S j a) ∧ (∀ j, zQ S' j a = zQ S j a) ∧ zA S' a = zA S a ∧ zR S' a = zR S a) : CS r (c.set i o') S' := by
  have hi : i < c.length := (List.getElem?_eq_some_iff.mp ho).1
  refine ⟨by rw [hL, h.1, List.length_set], by rw [List.length_set]; exact h.2.1, fun k x hx => ?_, fun k x hx => ?_⟩
  · rw [List.length_set]
    rw [List.getElem?_set] at hx
    split at hx
    · cases hx; exact hw
    · exact h.2.2.1 k x hx
  · rw [List.getElem?_set] at hx
    split at hx
    · rename_i e
      subst e
      cases hx
      obtain ⟨g1, g2, -⟩ := h.2.2.2 i o ho
      exact ⟨by rw [hK, g1, h1], by rw [hN, g2, h2], hs⟩
    · rename_i e
      have hk : k < c.length := (List.getElem?_eq_some_iff.mp hx).1
      obtain ⟨g1, g2, g3, g4, g5, g6⟩ := h.2.2.2 k x hx
      obtain ⟨n1, n2, n3, n4⟩ := hn (r k) (fun q => e (h.2.1 k i hk hi q).symm)
      exact ⟨by rw [hK]; exact g1, by rw [hN]; exact g2, fun j => by rw [n1]; exact g3 j, fun j => by rw [n2]; exact g4 j, fun j => by rw [n3]; exact g5 j, fun j => by rw [n4]; exact g6 j⟩
theorem CS.sI (h : CS r c S) {i j : Nat} {o : CO} {x : Int32} {v : Int} (ho : c[i]? = some o) (hv : x.toInt = v) : CS r (c.set i (o.1, o.2.1, (j, v) :: o.2.2.1, o.2.2.2)) (zsI S j (r i) x) := by
  obtain ⟨g1, g2, g3, g4, g5, g6⟩ := h.2.2.2 i o ho
  refine h.put1 (o' := (o.1, o.2.1, (j, v) :: o.2.2.1, o.2.2.2)) ho rfl rfl rfl rfl rfl (h.2.2.1 i o ho) ⟨fun j' => ?_, g4, g5, g6⟩ (fun a ha => ⟨fun j' => zu2_ne (Or.inl ha), fun _ => rfl, rfl, rfl⟩)
  rw [aI_c]
  split
  · rename_i e; subst e; rw [← hv]; show (zu2 (zI S) j' (r i) x j' (r i)).toInt = _; rw [zu2_self]
  · rename_i e; rw [← g3 j']; show (zu2 (zI S) j (r i) x j' (r i)).toInt = _; rw [zu2_ne (Or.inr e)]
theorem CS.sQ (h : CS r c S) {i j : Nat} {o : CO} {v : Option Nat} (ho : c[i]? = some o) (hv : ∀ t, v = some t → t < c.length) : CS r (c.set i (o.1, o.2.1, o.2.2.1, (j, v) :: o.2.2.2.1, o.2.2.2.2)) (zsQ S j (r i) (v.map r)) := by
  obtain ⟨g1, g2, g3, g4, g5, g6⟩ := h.2.2.2 i o ho
  obtain ⟨w1, w2⟩ := h.2.2.1 i o ho
  refine h.put1 (o' := (o.1, o.2.1, o.2.2.1, (j, v) :: o.2.2.2.1, o.2.2.2.2)) ho rfl rfl rfl rfl rfl ⟨fun j' t e => ?_, w2⟩ ⟨g3, fun j' => ?_, g5, g6⟩ (fun a ha => ⟨fun _ => rfl, fun j' => zu2_ne (Or.inl ha), rfl, rfl⟩)
  · rw [aQ_c] at e
    split at e
    · exact hv t e
    · exact w1 j' t e
  · rw [aQ_c]
    split
    · rename_i e; subst e; show zu2 (zQ S) j' (r i) (v.map r) j' (r i) = _; rw [zu2_self]
    · rename_i e; rw [← g4 j']; show zu2 (zQ S) j (r i) (v.map r) j' (r i) = _; rw [zu2_ne (Or.inr e)]
theorem CS.sA (h : CS r c S) {i k : Nat} {o : CO} {x : Int32} {v : Int} (ho : c[i]? = some o) (hv : x.toInt = v) : CS r (c.set i (o.1, o.2.1, o.2.2.1, o.2.2.2.1, (k, v) :: o.2.2.2.2.1, o.2.2.2.2.2)) (zsA S (r i) (upd (zA S (r i)) k x)) := by
  obtain ⟨g1, g2, g3, g4, g5, g6⟩ := h.2.2.2 i o ho
  refine h.put1 (o' := (o.1, o.2.1, o.2.2.1, o.2.2.2.1, (k, v) :: o.2.2.2.2.1, o.2.2.2.2.2)) ho rfl rfl rfl rfl rfl (h.2.2.1 i o ho) ⟨g3, g4, fun k' => ?_, g6⟩ (fun a ha => ⟨fun _ => rfl, fun _ => rfl, va_up_ne _ _ ha, rfl⟩)
  have e0 : zA (zsA S (r i) (upd (zA S (r i)) k x)) (r i) = upd (zA S (r i)) k x := by show va_up (zA S) (r i) _ (r i) = _; simp [va_up]
  rw [e0, aI_c]
  split
  · rename_i e; subst e; rw [← hv]; simp [upd]
  · rename_i e; rw [← g5 k']; simp [upd, e]
theorem CS.sR (h : CS r c S) {i k : Nat} {o : CO} {v : Nat} (ho : c[i]? = some o) (hv : v < c.length) : CS r (c.set i (o.1, o.2.1, o.2.2.1, o.2.2.2.1, o.2.2.2.2.1, (k, some v) :: o.2.2.2.2.2)) (zsR S (r i) (va_up (zR S (r i)) k (some (r v)))) := by
  obtain ⟨g1, g2, g3, g4, g5, g6⟩ := h.2.2.2 i o ho
  obtain ⟨w1, w2⟩ := h.2.2.1 i o ho
  refine h.put1 (o' := (o.1, o.2.1, o.2.2.1, o.2.2.2.1, o.2.2.2.2.1, (k, some v) :: o.2.2.2.2.2)) ho rfl rfl rfl rfl rfl ⟨w1, fun j' t e => ?_⟩ ⟨g3, g4, g5, fun k' => ?_⟩ (fun a ha => ⟨fun _ => rfl, fun _ => rfl, rfl, va_up_ne _ _ ha⟩)
  · rw [aQ_c] at e
    split at e
    · cases e; exact hv
    · exact w2 j' t e
  · have e0 : zR (zsR S (r i) (va_up (zR S (r i)) k (some (r v)))) (r i) = va_up (zR S (r i)) k (some (r v)) := by show va_up (zR S) (r i) _ (r i) = _; simp [va_up]
    rw [e0, aQ_c]
    split
    · rename_i e; subst e; simp [va_up]
    · rename_i e; rw [← g6 k', va_up_ne _ _ e]
end CS1
