/-! the runner -/
abbrev CV : Type := Int ⊕ Option Nat
def cv (r : Nat → Nat) (v : CV) : Value := match v with
  | .inl n => .int (Int32.ofInt n)
  | .inr x => va_rf (x.map r)
/-- a class' tables: links, Object's constructor, arrays of references by index -/
abbrev CB : Type := LK × List Nat × List (Nat × Nat)
abbrev CX : Type := CSt × Option Int × List CV × Nat × Nat × Nat
def lvs (r : Nat → Nat) (t : Nat) (iv : Option Int) : List (Nat × Value) := match iv with
  | some v => [(1, .int (Int32.ofInt v)), (0, .ref (r t))]
  | none => [(0, .ref (r t))]
def c15 (v : Int) : Bool := ile (-32768) v && ile v 32767
def clen (ins : ClassFile.Instr) : Nat := match ins with
  | .newarray _ => 2
  | .anewarray _ => 3
  | ins => ilen ins
def co0 : CO := (99, 0, [], [], [], [])
def cNw (lim : Nat × Nat) (k n : Nat) (c : CSt) (iv : Option Int) (K : List CV) (nc ns m pc : Nat) : Option CX := match Nat.ble (nc + 1) lim.1 && Nat.ble (ns + m) lim.2 with
  | true => some (c ++ [cnew k n], iv, .inr (some c.length) :: K, nc + 1, ns + m, pc)
  | false => none
def cPut (B : CB) (idx i : Nat) (v : CV) (o : CO) (c : CSt) : Option CSt := match asc idx B.1.2.1 with
  | some (f, bl, _, ks) => match Nat.blt o.1 13 && nin o.1 ks, (z_ft o.1)[f]?, v with
    | true, some 0, .inl x => match c15 x && (match bl with
        | true => ile 0 x && ile x 1
        | false => true) with
      | true => some (c.set i (o.1, o.2.1, (z_bs o.1 + f, x) :: o.2.2.1, o.2.2.2))
      | false => none
    | true, some 2, .inr x => some (c.set i (o.1, o.2.1, o.2.2.1, (z_bs o.1 + f, x) :: o.2.2.2.1, o.2.2.2.2))
    | _, _, _ => none
  | none => none
def cstep (B : CB) (lim : Nat × Nat) (t : Nat) (ins : ClassFile.Instr) (x : CX) : Option CX := match x with
  | (c, iv, K, nc, ns, pc) => match ins, K with
    | .aload_n k, K => match k.val with
      | 0 => some (c, iv, .inr (some t) :: K, nc, ns, pc + 1)
      | _ => none
    | .iload_n k, K => match k.val, iv with
      | 1, some v => some (c, iv, .inl v :: K, nc, ns, pc + 1)
      | _, _ => none
    | .istore_n k, .inl v :: K => match k.val with
      | 1 => some (c, some v, K, nc, ns, pc + 1)
      | _ => none
    | .iinc i n, K => match i, iv with
      | 1, some v => match c15 v && c15 n && c15 (v + n) with
        | true => some (c, some (v + n), K, nc, ns, pc + 3)
        | false => none
      | _, _ => none
    | .iconst v, K => match c15 v with
      | true => some (c, iv, .inl v :: K, nc, ns, pc + 1)
      | false => none
    | .bipush v, K => match ile (-128) v && ile v 127 with
      | true => some (c, iv, .inl v :: K, nc, ns, pc + 2)
      | false => none
    | .sipush v, K => match c15 v with
      | true => some (c, iv, .inl v :: K, nc, ns, pc + 3)
      | false => none
    | .aconst_null, K => some (c, iv, .inr none :: K, nc, ns, pc + 1)
    | .dup, v :: K => some (c, iv, v :: v :: K, nc, ns, pc + 1)
    | .goto off, K => match Int.ofNat pc + off with
      | .ofNat q => some (c, iv, K, nc, ns, q)
      | _ => none
    | .if_icmp .ge off, .inl y :: .inl x :: K => match c15 x && c15 y, Int.ofNat pc + off with
      | true, .ofNat q => match ile y x with
        | true => some (c, iv, K, nc, ns, q)
        | false => some (c, iv, K, nc, ns, pc + 3)
      | _, _ => none
    | .newarray .int, .inl n :: K => match ile 0 n && c15 n with
      | true => cNw lim 13 n.toNat c iv K nc ns n.toNat (pc + 2)
      | false => none
    | .newarray .long, .inl n :: K => match ile 0 n && c15 n with
      | true => cNw lim 14 n.toNat c iv K nc ns n.toNat (pc + 2)
      | false => none
    | .anewarray idx, .inl n :: K => match ile 0 n && c15 n, asc idx B.2.2 with
      | true, some k => match Nat.beq k 15 || Nat.beq k 16 with
        | true => cNw lim k n.toNat c iv K nc ns n.toNat (pc + 3)
        | false => none
      | _, _ => none
    | .new idx, K => match asc idx B.1.2.2.2.1 with
      | some (k, _, N) => cNw lim k 0 c iv K nc ns N (pc + 3)
      | none => none
    | .getfield idx, .inr (some i) :: K => match nth co0 c i with
      | o => match Nat.blt i c.length && Nat.blt o.1 13, asc idx B.1.1 with
        | true, some (f, ks) => match nin o.1 ks, (z_ft o.1)[f]? with
          | true, some 2 => some (c, iv, .inr (aQ o.2.2.2.1 (z_bs o.1 + f)) :: K, nc, ns, pc + 3)
          | _, _ => none
        | _, _ => none
    | .putfield idx, v :: .inr (some i) :: K => match Nat.blt i c.length with
      | true => match cPut B idx i v (nth co0 c i) c with
        | some c' => some (c', iv, K, nc, ns, pc + 3)
        | none => none
      | false => none
    | .iastore, .inl x :: .inl k :: .inr (some i) :: K => match nth co0 c i with
      | o => match Nat.blt i c.length && Nat.beq o.1 13 && c15 x && c15 k && ile 0 k && ile (k + 1) (Int.ofNat o.2.1) with
        | true => some (c.set i (o.1, o.2.1, o.2.2.1, o.2.2.2.1, (k.toNat, x) :: o.2.2.2.2.1, o.2.2.2.2.2), iv, K, nc, ns, pc + 1)
        | false => none
    | .aastore, .inr (some j) :: .inl k :: .inr (some i) :: K => match nth co0 c i with
      | o => match Nat.blt i c.length && Nat.beq o.1 15 && Nat.blt j c.length && Nat.beq (nth co0 c j).1 7 && c15 k && ile 0 k && ile (k + 1) (Int.ofNat o.2.1) with
        | true => some (c.set i (o.1, o.2.1, o.2.2.1, o.2.2.2.1, o.2.2.2.2.1, (k.toNat, some j) :: o.2.2.2.2.2), iv, K, nc, ns, pc + 1)
        | false => none
    | .invokespecial idx, .inr (some _) :: K => match nin idx B.2.1 with
      | true => some (c, iv, K, nc, ns, pc + 3)
      | false => none
    | _, _ => none
def RAn (own : String) (idx k : Nat) : Prop := match k with
  | 15 => Cond.classLink own idx "FoldedInHalf$Shelf" ∈ TB
  | 16 => Cond.classLink own idx "FoldedInHalf$Strip" ∈ TB
  | _ => False
def BOK (own : String) (B : CB) : Prop := LKOK own B.1 ∧ (∀ idx ∈ B.2.1, RObj own idx) ∧ (∀ idx k, (idx, k) ∈ B.2.2 → RAn own idx k) ∧ Cond.arrayClass .int ∈ TB ∧ Cond.arrayClass .long ∈ TB
def cwK (n : Nat) (K : List CV) : Prop := ∀ v ∈ K, ∀ i, v = .inr (some i) → i < n
section CRN
variable {xs : Nat → Nat} {cD : va_G} {cy : Nat → ClassId} {A : Nat → Prop}
variable {p : Program} {l : Launch} {e : Env} {R : Room} {s : State} {m : MethodId} {args : Array Value} {below : List Frame} {meth : Method} {c0 : Code} {Q : State → Prop} {cc : ByteArray} {nL : Nat} {Ts : List Cond} {own : String}
/-- from here it goes well -/
def CGl (cD : va_G) (cy : Nat → ClassId) (A : Nat → Prop) (p : Program) (l : Launch) (e : Env) (R : Room) (s : State) (m : MethodId) (args : Array Value) (below : List Frame) (meth : Method) (c0 : Code) (Q : State → Prop) (nL : Nat) (r0 : Nat → Nat) (n0 t : Nat) (x : CX) : Prop :=
  ∀ (r : Nat → Nat) (S : zS) (H : Heap) (locs : List Loc) (cells slots : Nat) (ls : Array Slot), CS r x.1 S → zPw cD cy A s.heap S H locs → lv_has ls nL (lvs r t x.2.1) → t < x.1.length → cwK x.1.length x.2.2.1 → cells ≤ x.2.2.2.1 → slots ≤ x.2.2.2.2.1 → n0 ≤ x.1.length → (∀ i, i < n0 → r i = r0 i) → W p l e R s m args below meth c0 H locs cells slots Q (F0 m x.2.2.2.2.2 ls (x.2.2.1.map (cv r)))
theorem cv_cat {r : Nat → Nat} {v : CV} : (cv r v).category = 1 := by
  match v with
  | .inl _ => rfl
  | .inr none => rfl
  | .inr (some _) => rfl
theorem cv_cong {r r' : Nat → Nat} {n : Nat} (h : ∀ i, i < n → r' i = r i) : ∀ {K : List CV}, cwK n K → K.map (cv r') = K.map (cv r)
  | [], _ => rfl
  | v :: K, w => by
    show cv r' v :: K.map (cv r') = cv r v :: K.map (cv r)
    rw [cv_cong h (K := K) (fun x hx => w x (List.mem_cons_of_mem _ hx))]
    congr 1
    match v, w v List.mem_cons_self with
    | .inl _, _ => rfl
    | .inr none, _ => rfl
    | .inr (some i), w => show va_rf (some (r' i)) = va_rf (some (r i)); rw [h i (w i rfl)]
theorem c15_ok {v : Int} (h : c15 v = true) : -32768 ≤ v ∧ v ≤ 32767 ∧ (Int32.ofInt v).toInt = v := by
  unfold c15 at h
  rw [Bool.and_eq_true] at h
  have h1 := ile_iff.mp h.1
  have h2 := ile_iff.mp h.2
  exact ⟨h1, h2, i32_of (by rw [k32l_eq, k32h_eq]; omega)⟩
theorem cw_tl {n : Nat} {v : CV} {K : List CV} (h : cwK n (v :: K)) : cwK n K := fun x hx => h x (List.mem_cons_of_mem _ hx)
theorem cw_int {n : Nat} {v : Int} {K : List CV} (h : cwK n K) : cwK n (.inl v :: K) := fun x hx i e => by
  rcases List.mem_cons.mp hx with q | q
  · rw [q] at e; cases e
  · exact h x q i e
theorem cw_ref {n : Nat} {v : Option Nat} {K : List CV} (h : cwK n K) (hv : ∀ t, v = some t → t < n) : cwK n (.inr v :: K) := fun x hx i e => by
  rcases List.mem_cons.mp hx with q | q
  · rw [q] at e; cases e; exact hv i rfl
  · exact h x q i e
theorem cw_mono {n n' : Nat} {K : List CV} (h : cwK n K) (hn : n ≤ n') : cwK n' K := fun x hx i e => Nat.lt_of_lt_of_le (h x hx i e) hn
theorem lvs_cong {r r' : Nat → Nat} {t : Nat} {iv : Option Int} (h : r' t = r t) : lvs r' t iv = lvs r t iv := by
  unfold lvs; rw [h]
theorem vp_c {k : Int} {n : Nat} (h0 : 0 ≤ k) (h1 : k + 1 ≤ (n : Int)) (hv : (Int32.ofInt k).toInt = k) : vp_in (Int32.ofInt k) n ∧ (Int32.ofInt k).toNatClampNeg = k.toNat := by
  refine ⟨vp_in_iff.mpr ⟨by omega, by omega⟩, ?_⟩
  show (Int32.ofInt k).toInt.toNat = _
  rw [hv]
/-- something made -/
theorem cNw_ok {lim : Nat × Nat} {r0 : Nat → Nat} {n0 t k n : Nat} {c : CSt} {iv : Option Int} {K : List CV} {nc ns M pc' : Nat} {x' : CX} (h : cNw lim k n c iv K nc ns M pc' = some x') (hs : CGl cD cy A p l e R s m args below meth c0 Q nL r0 n0 t x') {r : Nat → Nat} {S : zS} {H1 : Heap} {locs : List Loc} {cells slots : Nat} {ls : Array Slot} {q : Nat} (hC : CS r c S) (hq : q ∉ zL S) (hw : zPw cD cy A s.heap (zNew S q k n) H1 locs) (hl : lv_has ls nL (lvs r t iv)) (ht : t < c.length) (hK : cwK c.length K) (hc : cells ≤ nc) (hsl : slots ≤ ns) (hn : n0 ≤ c.length) (hr : ∀ i, i < n0 → r i = r0 i) : W p l e R s m args below meth c0 H1 locs (cells + 1) (slots + M) Q (F0 m pc' ls (.ref q :: K.map (cv r))) := by
  unfold cNw at h
  split at h
  · cases h
    obtain ⟨h1, h2⟩ := hC.new (k := k) (n := n) hq
    have hlen : (c ++ [cnew k n]).length = c.length + 1 := by simp
    have := hs (va_up r c.length q) (zNew S q k n) H1 locs (cells + 1) (slots + M) ls h1 hw (by rw [lvs_cong (h2 t ht)]; exact hl) (by show t < (c ++ [cnew k n]).length; omega) (by show cwK (c ++ [cnew k n]).length _; rw [hlen]; exact cw_ref (cw_mono hK (by omega)) (fun t e => by cases e; omega)) (by show cells + 1 ≤ nc + 1; omega) (by show slots + M ≤ ns + M; omega) (by show n0 ≤ (c ++ [cnew k n]).length; omega) (fun i hi => by rw [h2 i (by omega)]; exact hr i hi)
    have e1 : ((.inr (some c.length) :: K : List CV)).map (cv (va_up r c.length q)) = .ref q :: K.map (cv r) := by
      show va_rf (some (va_up r c.length q c.length)) :: K.map _ = _
      rw [cv_cong h2 hK]
      congr 1
      show Value.ref (va_up r c.length q c.length) = _
      congr 1
      simp [va_up]
    rw [← e1]; exact this
  · cases h
end CRN
