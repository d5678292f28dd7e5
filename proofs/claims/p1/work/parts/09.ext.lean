/-! how a pool grows while an object x is made: x's references below m and ints below mi stay, places below ny of the row y stay, all else that was there stays -/
def zGE (m mi ny x y : Nat) (S S' : zS) : Prop := x ∈ zL S' ∧ zK S' x = zK S x ∧ (∀ j, j < m → zQ S' j x = zQ S j x) ∧ (∀ j, j < mi → zI S' j x = zI S j x) ∧ (∀ j, j < ny → zR S' y j = zR S y j) ∧ (∀ a, a ∈ zL S → a ≠ x → a ∈ zL S' ∧ zK S' a = zK S a ∧ zN S' a = zN S a ∧ (∀ j, zI S' j a = zI S j a) ∧ (∀ j, zQ S' j a = zQ S j a) ∧ zA S' a = zA S a ∧ zB S' a = zB S a ∧ (a ≠ y → zR S' a = zR S a))
theorem zGE_rf {m mi ny x y : Nat} {S : zS} (hx : x ∈ zL S) : zGE m mi ny x y S S := ⟨hx, rfl, fun _ _ => rfl, fun _ _ => rfl, fun _ _ => rfl, fun a h _ => ⟨h, rfl, rfl, fun _ => rfl, fun _ => rfl, rfl, rfl, fun _ => rfl⟩⟩
theorem zGE_tr {m mi ny m2 mi2 ny2 x y : Nat} {S S1 S2 : zS} (h1 : zGE m mi ny x y S S1) (h2 : zGE m2 mi2 ny2 x y S1 S2) (hm : m ≤ m2) (hi : mi ≤ mi2) (hn : ny ≤ ny2) : zGE m mi ny x y S S2 := by
  obtain ⟨a1, a2, a3, a4, a5, a6⟩ := h1
  obtain ⟨b1, b2, b3, b4, b5, b6⟩ := h2
  refine ⟨b1, b2.trans a2, fun j h => (b3 j (by omega)).trans (a3 j h), fun j h => (b4 j (by omega)).trans (a4 j h), fun j h => (b5 j (by omega)).trans (a5 j h), fun a h hx => ?_⟩
  obtain ⟨c1, c2, c3, c4, c5, c6, c7, c8⟩ := a6 a h hx
  obtain ⟨d1, d2, d3, d4, d5, d6, d7, d8⟩ := b6 a c1 hx
  exact ⟨d1, d2.trans c2, d3.trans c3, fun j => (d4 j).trans (c4 j), fun j => (d5 j).trans (c5 j), d6.trans c6, d7.trans c7, fun n => (d8 n).trans (c8 n)⟩
theorem zGE_new {m mi ny x y : Nat} {S S1 : zS} (h : zGE m mi ny x y S S1) {q k n : Nat} (hq : q ∉ zL S1) (hy : ny = 0 ∨ q ≠ y) : zGE m mi ny x y S (zNew S1 q k n) := by
  obtain ⟨a1, a2, a3, a4, a5, a6⟩ := h
  have hx : x ≠ q := fun e => hq (e ▸ a1)
  refine ⟨List.mem_append_left _ a1, (va_up_ne _ _ hx).trans a2, fun j h => ?_, fun j h => ?_, fun j h => ?_, fun a h hxa => ?_⟩
  · show (if x = q then none else zQ S1 j x) = _
    rw [if_neg hx]; exact a3 j h
  · show (if x = q then 0 else zI S1 j x) = _
    rw [if_neg hx]; exact a4 j h
  · have hyq : y ≠ q := by
      rcases hy with hy | hy
      · omega
      · exact fun e => hy e.symm
    show va_up (zR S1) q (fun _ => none) y j = _
    rw [va_up_ne _ _ hyq]; exact a5 j h
  · obtain ⟨c1, c2, c3, c4, c5, c6, c7, c8⟩ := a6 a h hxa
    have ha : a ≠ q := fun e => hq (e ▸ c1)
    refine ⟨List.mem_append_left _ c1, (va_up_ne _ _ ha).trans c2, (va_up_ne _ _ ha).trans c3, fun j => ?_, fun j => ?_, (va_up_ne _ _ ha).trans c6, (va_up_ne _ _ ha).trans c7, fun n => (va_up_ne _ _ ha).trans (c8 n)⟩
    · show (if a = q then 0 else zI S1 j a) = _
      rw [if_neg ha]; exact c4 j
    · show (if a = q then none else zQ S1 j a) = _
      rw [if_neg ha]; exact c5 j
theorem zGE_I {m mi ny x y : Nat} {S S1 : zS} (h : zGE m mi ny x y S S1) {q j : Nat} {v : Int32} (hq : q ∉ zL S) (hx : q ≠ x) : zGE m mi ny x y S (zsI S1 j q v) := by
  obtain ⟨a1, a2, a3, a4, a5, a6⟩ := h
  refine ⟨a1, a2, a3, fun i h => (zu2_ne (Or.inl (Ne.symm hx))).trans (a4 i h), a5, fun a h hxa => ?_⟩
  obtain ⟨c1, c2, c3, c4, c5, c6, c7, c8⟩ := a6 a h hxa
  have haq : a ≠ q := fun e => hq (e ▸ h)
  exact ⟨c1, c2, c3, fun i => (zu2_ne (Or.inl haq)).trans (c4 i), c5, c6, c7, c8⟩
theorem zGE_Q {m mi ny x y : Nat} {S S1 : zS} (h : zGE m mi ny x y S S1) {q j : Nat} {v : Option Nat} (hq : q ∉ zL S) (hx : q ≠ x) : zGE m mi ny x y S (zsQ S1 j q v) := by
  obtain ⟨a1, a2, a3, a4, a5, a6⟩ := h
  refine ⟨a1, a2, fun i h => (zu2_ne (Or.inl (Ne.symm hx))).trans (a3 i h), a4, a5, fun a h hxa => ?_⟩
  obtain ⟨c1, c2, c3, c4, c5, c6, c7, c8⟩ := a6 a h hxa
  have haq : a ≠ q := fun e => hq (e ▸ h)
  exact ⟨c1, c2, c3, c4, fun i => (zu2_ne (Or.inl haq)).trans (c5 i), c6, c7, c8⟩
theorem zGE_Ix {m mi ny x y : Nat} {S S1 : zS} (h : zGE m mi ny x y S S1) {j : Nat} {v : Int32} (hj : mi ≤ j) : zGE m mi ny x y S (zsI S1 j x v) := by
  obtain ⟨a1, a2, a3, a4, a5, a6⟩ := h
  refine ⟨a1, a2, a3, fun i h => (zu2_ne (Or.inr (by omega))).trans (a4 i h), a5, fun a h hxa => ?_⟩
  obtain ⟨c1, c2, c3, c4, c5, c6, c7, c8⟩ := a6 a h hxa
  exact ⟨c1, c2, c3, fun i => (zu2_ne (Or.inl hxa)).trans (c4 i), c5, c6, c7, c8⟩
theorem zGE_Qx {m mi ny x y : Nat} {S S1 : zS} (h : zGE m mi ny x y S S1) {j : Nat} {v : Option Nat} (hj : m ≤ j) : zGE m mi ny x y S (zsQ S1 j x v) := by
  obtain ⟨a1, a2, a3, a4, a5, a6⟩ := h
  refine ⟨a1, a2, fun i h => (zu2_ne (Or.inr (by omega))).trans (a3 i h), a4, a5, fun a h hxa => ?_⟩
  obtain ⟨c1, c2, c3, c4, c5, c6, c7, c8⟩ := a6 a h hxa
  exact ⟨c1, c2, c3, c4, fun i => (zu2_ne (Or.inl hxa)).trans (c5 i), c6, c7, c8⟩
theorem zGE_A {m mi ny x y : Nat} {S S1 : zS} (h : zGE m mi ny x y S S1) {q : Nat} {f : Nat → Int32} (hq : q ∉ zL S) : zGE m mi ny x y S (zsA S1 q f) := by
  obtain ⟨a1, a2, a3, a4, a5, a6⟩ := h
  refine ⟨a1, a2, a3, a4, a5, fun a h hxa => ?_⟩
  obtain ⟨c1, c2, c3, c4, c5, c6, c7, c8⟩ := a6 a h hxa
  have haq : a ≠ q := fun e => hq (e ▸ h)
  exact ⟨c1, c2, c3, c4, c5, (va_up_ne _ _ haq).trans c6, c7, c8⟩
/-- a place of the row y from ny on -/
theorem zGE_Ry {m mi ny x y : Nat} {S S1 : zS} (h : zGE m mi ny x y S S1) {k : Nat} {v : Option Nat} (hk : ny ≤ k) : zGE m mi ny x y S (zsR S1 y (va_up (zR S1 y) k v)) := by
  obtain ⟨a1, a2, a3, a4, a5, a6⟩ := h
  refine ⟨a1, a2, a3, a4, fun j h => ?_, fun a h hxa => ?_⟩
  · show va_up (zR S1) y (va_up (zR S1 y) k v) y j = _
    rw [va_up_self, va_up_ne _ _ (by omega)]; exact a5 j h
  · obtain ⟨c1, c2, c3, c4, c5, c6, c7, c8⟩ := a6 a h hxa
    exact ⟨c1, c2, c3, c4, c5, c6, c7, fun n => (va_up_ne _ _ n).trans (c8 n)⟩
theorem zNew_L {S : zS} {q k n : Nat} : zL (zNew S q k n) = zL S ++ [q] := rfl
theorem zNew_m {S : zS} {q k n : Nat} : q ∈ zL (zNew S q k n) := List.mem_append_right _ List.mem_cons_self
theorem zNew_K {S : zS} {q k n : Nat} : zK (zNew S q k n) q = k := va_up_self _ _ _
theorem zNew_N {S : zS} {q k n : Nat} : zN (zNew S q k n) q = n := va_up_self _ _ _
theorem zNew_A {S : zS} {q k n : Nat} : zA (zNew S q k n) q = fun _ => 0 := va_up_self _ _ _
theorem zNew_R {S : zS} {q k n : Nat} : zR (zNew S q k n) q = fun _ => none := va_up_self _ _ _
theorem zNew_I {S : zS} {q k n j : Nat} : zI (zNew S q k n) j q = 0 := by show (if q = q then 0 else _) = _; rw [if_pos rfl]
theorem zD_inj {cy : Nat → ClassId} {A : Nat → Prop} {S : zS} (h : va_D A (zW cy S)) {i j a : Nat} (hi : (zL S)[i]? = some a) (hj : (zL S)[j]? = some a) : i = j := by
  have e : ∀ k : Nat, (zL S)[k]? = some a → (zW cy S)[k]? = some (a, zF cy S a) := fun k hk => by
    show ((zL S).map (fun a => (a, zF cy S a)))[k]? = _
    rw [List.getElem?_map, hk]; rfl
  exact h.1 i j _ _ (e i hi) (e j hj) rfl
theorem zL_I {S : zS} {j a : Nat} {v : Int32} : zL (zsI S j a v) = zL S := rfl
theorem zL_Q {S : zS} {j a : Nat} {v : Option Nat} : zL (zsQ S j a v) = zL S := rfl
theorem zr_inj {cy : Nat → ClassId} {A : Nat → Prop} {S : zS} {l : List Nat} (h : va_D A (zW cy S)) (hl : zL S = l) (t : List Nat) (hb : ∀ i, i ∈ mF → t.getD i 0 < l.length) (hi : ∀ i, i ∈ mF → ∀ j, j ∈ mF → t.getD i 0 = t.getD j 0 → i = j) : ∀ i j, i ∈ mF → j ∈ mF → l.getD (t.getD i 0) 0 = l.getD (t.getD j 0) 0 → i = j := by
  intro i j h1 h2 e
  refine hi i h1 j h2 ?_
  have g : ∀ k : Nat, k < l.length → (zL S)[k]? = some (l.getD k 0) := fun k hk => by
    rw [hl, List.getD_eq_getElem?_getD, List.getElem?_eq_getElem hk]; rfl
  exact zD_inj h (g _ (hb i h1)) (by rw [e]; exact g _ (hb j h2))
theorem zr_inj2 {cy : Nat → ClassId} {A : Nat → Prop} {S : zS} {l : List Nat} (h : va_D A (zW cy S)) (hl : zL S = l) (t : List Nat) (hb : ∀ i, i < 33 → t.getD i 0 < l.length) (hi : ∀ i, i < 33 → ∀ j, j < 33 → t.getD i 0 = t.getD j 0 → i = j) : ∀ i j, i < 33 → j < 33 → l.getD (t.getD i 0) 0 = l.getD (t.getD j 0) 0 → i = j := by
  intro i j h1 h2 e
  refine hi i h1 j h2 ?_
  have g : ∀ k : Nat, k < l.length → (zL S)[k]? = some (l.getD k 0) := fun k hk => by
    rw [hl, List.getD_eq_getElem?_getD, List.getElem?_eq_getElem hk]; rfl
  exact zD_inj h (g _ (hb i h1)) (by rw [e]; exact g _ (hb j h2))
