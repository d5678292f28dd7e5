/-! the pool as one value: addresses, kinds, lengths, int fields, long fields, references, rows of ints, of longs, of references; every field has a number of its own -/
abbrev zS : Type := List Nat × (Nat → Nat) × (Nat → Nat) × (Nat → Nat → Int32) × (Nat → Nat → Int64) × (Nat → Nat → Option Nat) × (Nat → Nat → Int32) × (Nat → Nat → Int64) × (Nat → Nat → Option Nat)
def zL (S : zS) : List Nat := S.1
def zK (S : zS) : Nat → Nat := S.2.1
def zN (S : zS) : Nat → Nat := S.2.2.1
def zI (S : zS) : Nat → Nat → Int32 := S.2.2.2.1
def zJ (S : zS) : Nat → Nat → Int64 := S.2.2.2.2.1
def zQ (S : zS) : Nat → Nat → Option Nat := S.2.2.2.2.2.1
def zA (S : zS) : Nat → Nat → Int32 := S.2.2.2.2.2.2.1
def zB (S : zS) : Nat → Nat → Int64 := S.2.2.2.2.2.2.2.1
def zR (S : zS) : Nat → Nat → Option Nat := S.2.2.2.2.2.2.2.2
def zu2 {α : Type} (f : Nat → Nat → α) (i a : Nat) (v : α) : Nat → Nat → α := fun j b => if j = i then (if b = a then v else f j b) else f j b
def zsI (S : zS) (i a : Nat) (v : Int32) : zS := (zL S, zK S, zN S, zu2 (zI S) i a v, zJ S, zQ S, zA S, zB S, zR S)
def zsJ (S : zS) (i a : Nat) (v : Int64) : zS := (zL S, zK S, zN S, zI S, zu2 (zJ S) i a v, zQ S, zA S, zB S, zR S)
def zsQ (S : zS) (i a : Nat) (v : Option Nat) : zS := (zL S, zK S, zN S, zI S, zJ S, zu2 (zQ S) i a v, zA S, zB S, zR S)
def zsA (S : zS) (a : Nat) (f : Nat → Int32) : zS := (zL S, zK S, zN S, zI S, zJ S, zQ S, va_up (zA S) a f, zB S, zR S)
def zsB (S : zS) (a : Nat) (f : Nat → Int64) : zS := (zL S, zK S, zN S, zI S, zJ S, zQ S, zA S, va_up (zB S) a f, zR S)
def zsR (S : zS) (a : Nat) (f : Nat → Option Nat) : zS := (zL S, zK S, zN S, zI S, zJ S, zQ S, zA S, zB S, va_up (zR S) a f)
def zNew (S : zS) (q k n : Nat) : zS := (zL S ++ [q], va_up (zK S) q k, va_up (zN S) q n, (fun j b => if b = q then 0 else zI S j b), (fun j b => if b = q then 0 else zJ S j b), (fun j b => if b = q then none else zQ S j b), va_up (zA S) q (fun _ => 0), va_up (zB S) q (fun _ => 0), va_up (zR S) q (fun _ => none))
/-- the fields of a kind: 0 an int, 1 a long, 2 a reference; and the number of the first of them -/
def z_ft (k : Nat) : List Nat := match k with
  | 3 => [2, 2, 2, 2, 2, 0, 0]
  | 5 => [2, 0, 0, 0, 2, 0, 0]
  | 7 => [2, 0, 0, 0]
  | 10 => [2, 1, 1, 1, 1, 0]
  | 11 => [2, 2, 2, 2, 2, 2, 2, 2, 2, 2, 0, 0, 0]
  | 12 => [0, 0, 2, 2, 2, 2, 2, 2, 2, 2, 2, 2, 2, 2, 0, 0, 0, 0, 0, 0, 1, 2, 2, 2, 2, 2, 2, 2, 2, 2, 2, 1, 1, 2, 2, 2, 2, 2, 2, 0, 2, 2, 2, 2, 0, 0, 2, 2, 2, 0, 0, 2, 2, 2, 0, 0]
  | _ => [0, 0, 0, 1]
def z_bs (k : Nat) : Nat := match k with
  | 3 => 300
  | 5 => 500
  | 7 => 700
  | 10 => 1000
  | 11 => 1100
  | 12 => 1200
  | _ => 800
def z_v (S : zS) (a t j : Nat) : Value := match t with
  | 0 => .int (zI S j a)
  | 1 => .long (zJ S j a)
  | _ => va_rf (zQ S j a)
def z_fl (S : zS) (a : Nat) : List Nat → Nat → List Value
  | [], _ => []
  | t :: r, j => z_v S a t j :: z_fl S a r (j + 1)
def zF (cy : Nat → ClassId) (S : zS) (a : Nat) : va_E :=
  if zK S a < 13 then .inr (zK S a, z_fl S a (z_ft (zK S a)) (z_bs (zK S a)))
  else if zK S a = 13 then .inl (cy 0, zN S a, .inl (zA S a))
  else if zK S a = 14 then .inl (cy 1, zN S a, .inr (.inl (zB S a)))
  else if zK S a = 15 then .inl (cy 2, zN S a, .inr (.inr (.inr (.inr (zR S a)))))
  else .inl (cy 3, zN S a, .inr (.inr (.inr (.inr (zR S a)))))
def zW (cy : Nat → ClassId) (S : zS) : va_W := va_pl (zL S) (zF cy S)
theorem z_fl_get {S : zS} {a t : Nat} : ∀ {L : List Nat} {b i : Nat}, L[i]? = some t → (z_fl S a L b)[i]? = some (z_v S a t (b + i))
  | [], _, i, h => by simp at h
  | u :: r, b, 0, h => by
    have h : u = t := by simpa using h
    subst h
    rfl
  | u :: r, b, i + 1, h => by
    have h : r[i]? = some t := by simpa using h
    have := z_fl_get (S := S) (a := a) (b := b + 1) h
    simp only [z_fl, List.getElem?_cons_succ]
    rw [this, show b + 1 + i = b + (i + 1) by omega]
theorem z_fl_len {S : zS} {a : Nat} : ∀ (L : List Nat) (b : Nat), (z_fl S a L b).length = L.length
  | [], _ => rfl
  | _ :: r, b => by simp [z_fl, z_fl_len r (b + 1)]
theorem z_fl_congr {S S' : zS} {a a' : Nat} : ∀ (L : List Nat) (b : Nat), (∀ t j, b ≤ j → z_v S a t j = z_v S' a' t j) → z_fl S a L b = z_fl S' a' L b
  | [], _, _ => rfl
  | t :: r, b, h => by
    simp only [z_fl]
    rw [h t b (Nat.le_refl _), z_fl_congr r (b + 1) (fun t j hj => h t j (by omega))]
theorem z_fl_set {S S' : zS} {a t : Nat} {v : Value} : ∀ {L : List Nat} {b i : Nat}, L[i]? = some t → z_v S' a t (b + i) = v → (∀ u j, j ≠ b + i → z_v S a u j = z_v S' a u j) → (z_fl S a L b).set i v = z_fl S' a L b
  | [], _, i, h, _, _ => by simp at h
  | u :: r, b, 0, h, hv, ho => by
    have h : u = t := by simpa using h
    subst h
    simp only [z_fl, List.set_cons_zero]
    rw [← hv, z_fl_congr r (b + 1) (fun t j hj => ho t j (by omega))]
    rfl
  | u :: r, b, i + 1, h, hv, ho => by
    have h : r[i]? = some t := by simpa using h
    simp only [z_fl, List.set_cons_succ]
    rw [z_fl_set h (by rw [← hv]; congr 1; omega) (fun u j hj => ho u j (by omega)), ho u b (by omega)]
theorem z_fl_def {S : zS} {a : Nat} {d : Nat → Value} : ∀ (L : List Nat) (b : Nat), (∀ t j, z_v S a t j = d t) → z_fl S a L b = L.map d
  | [], _, _ => rfl
  | t :: r, b, h => by
    simp only [z_fl, List.map_cons]
    rw [h t b, z_fl_def r (b + 1) h]
theorem zW_get {cy : Nat → ClassId} {S : zS} {a : Nat} (h : a ∈ zL S) : ∃ k : Nat, (zW cy S)[k]? = some (a, zF cy S a) := by
  obtain ⟨k, hk⟩ := va_pl_get (X := []) (f := zF cy S) h
  exact ⟨k, hk⟩
theorem zW_set {cy : Nat → ClassId} {S S' : zS} {A : Nat → Prop} {a k : Nat} {e : va_E} (hD : va_D A (zW cy S)) (h : a ∈ zL S) (hk : (zW cy S)[k]? = some (a, zF cy S a)) (hL : zL S' = zL S) (hF : ∀ b, va_up (zF cy S) a e b = zF cy S' b) : (zW cy S).set k (a, e) = zW cy S' := by
  have := va_pl_set (X := []) (e := e) hD h hk
  show (zW cy S).set k (a, e) = va_pl (zL S') (zF cy S')
  rw [hL]
  exact this.trans (va_pl_congr hF)
theorem zF_o {cy : Nat → ClassId} {S : zS} {a k : Nat} (hk : zK S a = k) (h : k < 13) : zF cy S a = .inr (k, z_fl S a (z_ft k) (z_bs k)) := by
  subst hk
  simp only [zF]
  rw [if_pos h]
theorem zF_i {cy : Nat → ClassId} {S : zS} {a : Nat} (hk : zK S a = 13) : zF cy S a = .inl (cy 0, zN S a, .inl (zA S a)) := by simp [zF, hk]
theorem zF_l {cy : Nat → ClassId} {S : zS} {a : Nat} (hk : zK S a = 14) : zF cy S a = .inl (cy 1, zN S a, .inr (.inl (zB S a))) := by simp [zF, hk]
theorem zF_p {cy : Nat → ClassId} {S : zS} {a : Nat} (hk : zK S a = 15) : zF cy S a = .inl (cy 2, zN S a, .inr (.inr (.inr (.inr (zR S a))))) := by simp [zF, hk]
theorem zF_q {cy : Nat → ClassId} {S : zS} {a : Nat} (hk : zK S a = 16) : zF cy S a = .inl (cy 3, zN S a, .inr (.inr (.inr (.inr (zR S a))))) := by simp [zF, hk]
theorem zF_cong {cy : Nat → ClassId} {S S' : zS} {b : Nat} (hK : zK S b = zK S' b) (hN : zN S b = zN S' b) (hv : ∀ t j, z_v S b t j = z_v S' b t j) (hA : zA S b = zA S' b) (hB : zB S b = zB S' b) (hR : zR S b = zR S' b) : zF cy S b = zF cy S' b := by
  simp only [zF]
  rw [hK, hN, hA, hB, hR, z_fl_congr _ _ (fun t j _ => hv t j)]
theorem z_v_cong {S S' : zS} {a t j : Nat} (h1 : zI S j a = zI S' j a) (h2 : zJ S j a = zJ S' j a) (h3 : zQ S j a = zQ S' j a) : z_v S a t j = z_v S' a t j := by
  unfold z_v
  rw [h1, h2, h3]
/-- one field of one object becomes another: the pool's rows are those of the new value -/
theorem zF_set {cy : Nat → ClassId} {S S' : zS} {a k i t : Nat} {v : Value} (hk : zK S a = k) (h : k < 13) (ht : (z_ft k)[i]? = some t) (hK : zK S' = zK S) (hN : zN S' = zN S) (hA : zA S' = zA S) (hB : zB S' = zB S) (hR : zR S' = zR S) (hv : z_v S' a t (z_bs k + i) = v) (ho : ∀ b u j, (b ≠ a ∨ j ≠ z_bs k + i) → z_v S b u j = z_v S' b u j) (b : Nat) : va_up (zF cy S) a (.inr (k, (z_fl S a (z_ft k) (z_bs k)).set i v)) b = zF cy S' b := by
  by_cases hb : b = a
  · subst hb
    rw [va_up_self, zF_o (by rw [hK]; exact hk) h, z_fl_set ht hv (fun u j hj => ho b u j (Or.inr hj))]
  · rw [va_up_ne _ _ hb]
    exact zF_cong (by rw [hK]) (by rw [hN]) (fun t j => ho b t j (Or.inl hb)) (by rw [hA]) (by rw [hB]) (by rw [hR])
theorem zu2_ne {α : Type} {f : Nat → Nat → α} {i a j b : Nat} {v : α} (h : b ≠ a ∨ j ≠ i) : zu2 f i a v j b = f j b := by
  unfold zu2
  rcases h with h | h
  · rw [if_neg h]; split <;> rfl
  · rw [if_neg h]
theorem zu2_self {α : Type} {f : Nat → Nat → α} {i a : Nat} {v : α} : zu2 f i a v i a = v := by simp [zu2]
theorem zF_setI {cy : Nat → ClassId} {S : zS} {a k i : Nat} {v : Int32} (hk : zK S a = k) (h : k < 13) (ht : (z_ft k)[i]? = some 0) (b : Nat) : va_up (zF cy S) a (.inr (k, (z_fl S a (z_ft k) (z_bs k)).set i (.int v))) b = zF cy (zsI S (z_bs k + i) a v) b :=
  zF_set (S' := zsI S (z_bs k + i) a v) hk h ht rfl rfl rfl rfl rfl (by show Value.int (zu2 (zI S) (z_bs k + i) a v (z_bs k + i) a) = _; rw [zu2_self]) (fun b u j hj => z_v_cong (zu2_ne hj).symm rfl rfl) b
theorem zF_setJ {cy : Nat → ClassId} {S : zS} {a k i : Nat} {v : Int64} (hk : zK S a = k) (h : k < 13) (ht : (z_ft k)[i]? = some 1) (b : Nat) : va_up (zF cy S) a (.inr (k, (z_fl S a (z_ft k) (z_bs k)).set i (.long v))) b = zF cy (zsJ S (z_bs k + i) a v) b :=
  zF_set (S' := zsJ S (z_bs k + i) a v) hk h ht rfl rfl rfl rfl rfl (by show Value.long (zu2 (zJ S) (z_bs k + i) a v (z_bs k + i) a) = _; rw [zu2_self]) (fun b u j hj => z_v_cong rfl (zu2_ne hj).symm rfl) b
theorem zF_setQ {cy : Nat → ClassId} {S : zS} {a k i : Nat} {v : Option Nat} (hk : zK S a = k) (h : k < 13) (ht : (z_ft k)[i]? = some 2) (b : Nat) : va_up (zF cy S) a (.inr (k, (z_fl S a (z_ft k) (z_bs k)).set i (va_rf v))) b = zF cy (zsQ S (z_bs k + i) a v) b :=
  zF_set (S' := zsQ S (z_bs k + i) a v) hk h ht rfl rfl rfl rfl rfl (by show va_rf (zu2 (zQ S) (z_bs k + i) a v (z_bs k + i) a) = _; rw [zu2_self]) (fun b u j hj => z_v_cong rfl rfl (zu2_ne hj).symm) b
theorem zF_setA {cy : Nat → ClassId} {S : zS} {a : Nat} {f : Nat → Int32} (hk : zK S a = 13) (b : Nat) : va_up (zF cy S) a (.inl (cy 0, zN S a, .inl f)) b = zF cy (zsA S a f) b := by
  by_cases hb : b = a
  · subst hb
    rw [va_up_self, zF_i (S := zsA S b f) hk, show zA (zsA S b f) b = f from va_up_self _ _ _]
    rfl
  · rw [va_up_ne _ _ hb]
    exact zF_cong rfl rfl (fun _ _ => rfl) (va_up_ne _ _ hb).symm rfl rfl
theorem zF_setB {cy : Nat → ClassId} {S : zS} {a : Nat} {f : Nat → Int64} (hk : zK S a = 14) (b : Nat) : va_up (zF cy S) a (.inl (cy 1, zN S a, .inr (.inl f))) b = zF cy (zsB S a f) b := by
  by_cases hb : b = a
  · subst hb
    rw [va_up_self, zF_l (S := zsB S b f) hk, show zB (zsB S b f) b = f from va_up_self _ _ _]
    rfl
  · rw [va_up_ne _ _ hb]
    exact zF_cong rfl rfl (fun _ _ => rfl) rfl (va_up_ne _ _ hb).symm rfl
theorem zF_setP {cy : Nat → ClassId} {S : zS} {a : Nat} {f : Nat → Option Nat} (hk : zK S a = 15) (b : Nat) : va_up (zF cy S) a (.inl (cy 2, zN S a, .inr (.inr (.inr (.inr f))))) b = zF cy (zsR S a f) b := by
  by_cases hb : b = a
  · subst hb
    rw [va_up_self, zF_p (S := zsR S b f) hk, show zR (zsR S b f) b = f from va_up_self _ _ _]
    rfl
  · rw [va_up_ne _ _ hb]
    exact zF_cong rfl rfl (fun _ _ => rfl) rfl rfl (va_up_ne _ _ hb).symm
theorem zF_setR {cy : Nat → ClassId} {S : zS} {a : Nat} {f : Nat → Option Nat} (hk : zK S a = 16) (b : Nat) : va_up (zF cy S) a (.inl (cy 3, zN S a, .inr (.inr (.inr (.inr f))))) b = zF cy (zsR S a f) b := by
  by_cases hb : b = a
  · subst hb
    rw [va_up_self, zF_q (S := zsR S b f) hk, show zR (zsR S b f) b = f from va_up_self _ _ _]
    rfl
  · rw [va_up_ne _ _ hb]
    exact zF_cong rfl rfl (fun _ _ => rfl) rfl rfl (va_up_ne _ _ hb).symm
def z_d (t : Nat) : Value := match t with
  | 0 => .int 0
  | 1 => .long 0
  | _ => .null
theorem zF_new {cy : Nat → ClassId} {S : zS} {q k n : Nat} {e : va_E} (he : zF cy (zNew S q k n) q = e) (b : Nat) : va_up (zF cy S) q e b = zF cy (zNew S q k n) b := by
  by_cases hb : b = q
  · subst hb
    rw [va_up_self, he]
  · rw [va_up_ne _ _ hb]
    exact zF_cong (va_up_ne _ _ hb).symm (va_up_ne _ _ hb).symm (fun t j => z_v_cong (by show _ = (if b = q then _ else _); rw [if_neg hb]) (by show _ = (if b = q then _ else _); rw [if_neg hb]) (by show _ = (if b = q then _ else _); rw [if_neg hb])) (va_up_ne _ _ hb).symm (va_up_ne _ _ hb).symm (va_up_ne _ _ hb).symm
theorem zF_newo {cy : Nat → ClassId} {S : zS} {q k : Nat} (h : k < 13) : zF cy (zNew S q k 0) q = .inr (k, (z_ft k).map z_d) := by
  rw [zF_o (S := zNew S q k 0) (a := q) (k := k) (va_up_self _ _ _) h, z_fl_def (d := z_d) _ _ (fun t j => ?_)]
  unfold z_v z_d
  match t with
  | 0 => show Value.int (if q = q then 0 else _) = _; rw [if_pos rfl]; rfl
  | 1 => show Value.long (if q = q then 0 else _) = _; rw [if_pos rfl]; rfl
  | t + 2 => show va_rf (if q = q then none else _) = _; rw [if_pos rfl]; rfl
theorem zF_newi {cy : Nat → ClassId} {S : zS} {q n : Nat} : zF cy (zNew S q 13 n) q = .inl (cy 0, n, .inl (fun _ => 0)) := by
  rw [zF_i (S := zNew S q 13 n) (a := q) (va_up_self _ _ _), show zA (zNew S q 13 n) q = (fun _ => 0) from va_up_self _ _ _, show zN (zNew S q 13 n) q = n from va_up_self _ _ _]
theorem zF_newl {cy : Nat → ClassId} {S : zS} {q n : Nat} : zF cy (zNew S q 14 n) q = .inl (cy 1, n, .inr (.inl (fun _ => 0))) := by
  rw [zF_l (S := zNew S q 14 n) (a := q) (va_up_self _ _ _), show zB (zNew S q 14 n) q = (fun _ => 0) from va_up_self _ _ _, show zN (zNew S q 14 n) q = n from va_up_self _ _ _]
theorem zF_newp {cy : Nat → ClassId} {S : zS} {q n : Nat} : zF cy (zNew S q 15 n) q = .inl (cy 2, n, .inr (.inr (.inr (.inr (fun _ => none))))) := by
  rw [zF_p (S := zNew S q 15 n) (a := q) (va_up_self _ _ _), show zR (zNew S q 15 n) q = (fun _ => none) from va_up_self _ _ _, show zN (zNew S q 15 n) q = n from va_up_self _ _ _]
theorem zF_newq {cy : Nat → ClassId} {S : zS} {q n : Nat} : zF cy (zNew S q 16 n) q = .inl (cy 3, n, .inr (.inr (.inr (.inr (fun _ => none))))) := by
  rw [zF_q (S := zNew S q 16 n) (a := q) (va_up_self _ _ _), show zR (zNew S q 16 n) q = (fun _ => none) from va_up_self _ _ _, show zN (zNew S q 16 n) q = n from va_up_self _ _ _]
theorem zW_push {cy : Nat → ClassId} {S : zS} {q k n : Nat} {e : va_E} {A : Nat → Prop} (hD : va_D A (zW cy S ++ [(q, e)])) (he : zF cy (zNew S q k n) q = e) : zW cy S ++ [(q, e)] = zW cy (zNew S q k n) := by
  have hq : q ∉ zL S := va_pl_fresh2 (X := []) hD
  exact (va_pl_push hq).trans (va_pl_congr (zF_new he))
