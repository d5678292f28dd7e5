/-! what the machine does at an instruction of a class, as rules; the links of a class by tables -/
abbrev FE : Type := Nat × List Nat
abbrev PE : Type := Nat × Bool × Bool × List Nat
abbrev Sv : Type := Nat ⊕ Int
/-- of one class: fields read, fields written, calls, objects made, constants (int, long), statics, fields of what lies outside, texts -/
abbrev LK : Type := List (Nat × FE) × List (Nat × PE) × List (Nat × Nat × Nat × List (Nat × Nat)) × List (Nat × Nat × Nat × Nat) × List (Nat × Int) × List (Nat × Int) × List (Nat × Sv) × List (Nat × List (Nat × Sv)) × List (Nat × Nat)
def asc {α : Type} (k : Nat) : List (Nat × α) → Option α
  | [] => none
  | q :: r => match Nat.beq q.1 k with
    | true => some q.2
    | false => asc k r
theorem asc_ok {α : Type} {k : Nat} {x : α} : ∀ {l : List (Nat × α)}, asc k l = some x → (k, x) ∈ l
  | [], h => by simp [asc] at h
  | q :: r, h => by
    simp only [asc] at h
    cases e : Nat.beq q.1 k with
    | true =>
      rw [e] at h
      have h := Option.some.inj h
      have e := Nat.eq_of_beq_eq_true e
      obtain ⟨a, b⟩ := q
      dsimp only at e h
      rw [← e, ← h]
      exact List.mem_cons_self
    | false => rw [e] at h; exact List.mem_cons_of_mem _ (asc_ok h)
def svV (v : Sv) : Vl := match v with
  | .inl k => .inr (.inr (.inr (.inr k)))
  | .inr n => .inl (lc n)
def svX (xs : Nat → Nat) (v : Sv) : Value := match v with
  | .inl k => .ref (xs k)
  | .inr n => .int (Int32.ofInt n)
theorem svV_ok {g : Nat → Int} {τ : Nat → Option Nat} {xs : Nat → Nat} {v : Sv} : γ g τ xs (svV v) = svX xs v := by
  match v with
  | .inl k => rfl
  | .inr n => show Value.int (Int32.ofInt (ev g (lc n))) = _
              rw [ev_lc]; rfl
theorem svV_wf {n r : Nat} {v : Sv} : wfV n r (svV v) := by
  match v with
  | .inl k => trivial
  | .inr k => exact wf_lc
def RGet (own : String) (idx k i : Nat) : Prop := ∀ (p : Program) (l : Launch) (e : Env) (R : Room) (s : State) (m : MethodId) (args : Array Value) (below : List Frame) (meth : Method) (c : Code) (H : Heap) (locs : List Loc) (cells slots : Nat) (Q : State → Prop) (xs : Nat → Nat) (cD : va_G) (cy : Nat → ClassId) (A : Nat → Prop) (cc : ByteArray) (nL : Nat) (Ts : List Cond) (S : zS) (a pc : Nat) (ls : Array Slot) (rest : List Value) (t : Nat), MX xs cD cy A p s m args c cc nL Ts own → zPw cD cy A s.heap S H locs → a ∈ zL S → zK S a = k → decode cc pc = .ok (.getfield idx, 3) → (z_ft k)[i]? = some t →
  W p l e R s m args below meth c H locs cells slots Q (F0 m (pc + 3) ls (z_v S a t (z_bs k + i) :: rest)) → W p l e R s m args below meth c H locs cells slots Q (F0 m pc ls (.ref a :: rest))
def RPutI (own : String) (idx k i : Nat) (bl fin : Bool) : Prop := ∀ (p : Program) (l : Launch) (e : Env) (R : Room) (s : State) (m : MethodId) (args : Array Value) (below : List Frame) (meth : Method) (c : Code) (H : Heap) (locs : List Loc) (cells slots : Nat) (Q : State → Prop) (xs : Nat → Nat) (cD : va_G) (cy : Nat → ClassId) (A : Nat → Prop) (cc : ByteArray) (nL : Nat) (Ts : List Cond) (S : zS) (a pc : Nat) (ls : Array Slot) (rest : List Value) (x : Int32), MX xs cD cy A p s m args c cc nL Ts own → (fin = true → meth.name = "<init>") → (bl = true → 0 ≤ x.toInt ∧ x.toInt ≤ 1) → zPw cD cy A s.heap S H locs → a ∈ zL S → zK S a = k → decode cc pc = .ok (.putfield idx, 3) →
  (∀ (H1 : Heap) (locs1 : List Loc), zPw cD cy A s.heap (zsI S (z_bs k + i) a x) H1 locs1 → W p l e R s m args below meth c H1 locs1 cells slots Q (F0 m (pc + 3) ls rest)) → W p l e R s m args below meth c H locs cells slots Q (F0 m pc ls (.int x :: .ref a :: rest))
def RPutJ (own : String) (idx k i : Nat) (fin : Bool) : Prop := ∀ (p : Program) (l : Launch) (e : Env) (R : Room) (s : State) (m : MethodId) (args : Array Value) (below : List Frame) (meth : Method) (c : Code) (H : Heap) (locs : List Loc) (cells slots : Nat) (Q : State → Prop) (xs : Nat → Nat) (cD : va_G) (cy : Nat → ClassId) (A : Nat → Prop) (cc : ByteArray) (nL : Nat) (Ts : List Cond) (S : zS) (a pc : Nat) (ls : Array Slot) (rest : List Value) (x : Int64), MX xs cD cy A p s m args c cc nL Ts own → (fin = true → meth.name = "<init>") → zPw cD cy A s.heap S H locs → a ∈ zL S → zK S a = k → decode cc pc = .ok (.putfield idx, 3) →
  (∀ (H1 : Heap) (locs1 : List Loc), zPw cD cy A s.heap (zsJ S (z_bs k + i) a x) H1 locs1 → W p l e R s m args below meth c H1 locs1 cells slots Q (F0 m (pc + 3) ls rest)) → W p l e R s m args below meth c H locs cells slots Q (F0 m pc ls (.long x :: .ref a :: rest))
def RPutQ (own : String) (idx k i : Nat) (fin : Bool) : Prop := ∀ (p : Program) (l : Launch) (e : Env) (R : Room) (s : State) (m : MethodId) (args : Array Value) (below : List Frame) (meth : Method) (c : Code) (H : Heap) (locs : List Loc) (cells slots : Nat) (Q : State → Prop) (xs : Nat → Nat) (cD : va_G) (cy : Nat → ClassId) (A : Nat → Prop) (cc : ByteArray) (nL : Nat) (Ts : List Cond) (S : zS) (a pc : Nat) (ls : Array Slot) (rest : List Value) (x : Option Nat), MX xs cD cy A p s m args c cc nL Ts own → (fin = true → meth.name = "<init>") → zPw cD cy A s.heap S H locs → a ∈ zL S → zK S a = k → decode cc pc = .ok (.putfield idx, 3) →
  (∀ (H1 : Heap) (locs1 : List Loc), zPw cD cy A s.heap (zsQ S (z_bs k + i) a x) H1 locs1 → W p l e R s m args below meth c H1 locs1 cells slots Q (F0 m (pc + 3) ls rest)) → W p l e R s m args below meth c H locs cells slots Q (F0 m pc ls (va_rf x :: .ref a :: rest))
def RPut (own : String) (idx k i : Nat) (bl fin : Bool) : Prop := match (z_ft k)[i]? with
  | some 0 => RPutI own idx k i bl fin
  | some 1 => RPutJ own idx k i fin
  | some 2 => RPutQ own idx k i fin
  | _ => False
def RNew (own : String) (idx k N : Nat) : Prop := ∀ (p : Program) (l : Launch) (e : Env) (R : Room) (s : State) (m : MethodId) (args : Array Value) (below : List Frame) (meth : Method) (c : Code) (H : Heap) (locs : List Loc) (cells slots : Nat) (Q : State → Prop) (xs : Nat → Nat) (cD : va_G) (cy : Nat → ClassId) (A : Nat → Prop) (cc : ByteArray) (nL : Nat) (Ts : List Cond) (S : zS) (pc : Nat) (ls : Array Slot) (rest : List Value), MX xs cD cy A p s m args c cc nL Ts own → zPw cD cy A s.heap S H locs → decode cc pc = .ok (.new idx, 3) → cells + 1 ≤ R.cells → slots + N ≤ R.slots →
  (∀ (q : Nat) (H1 : Heap), q ∉ zL S → zPw cD cy A s.heap (zNew S q k 0) H1 locs → W p l e R s m args below meth c H1 locs (cells + 1) (slots + N) Q (F0 m (pc + 3) ls (.ref q :: rest))) → W p l e R s m args below meth c H locs cells slots Q (F0 m pc ls rest)
/-- a constant, a static, a text: what is pushed -/
def RCst (own : String) (ins : ClassFile.Instr) (len : Nat) (v : (Nat → Nat) → Value) : Prop := ∀ (p : Program) (l : Launch) (e : Env) (R : Room) (s : State) (m : MethodId) (args : Array Value) (below : List Frame) (meth : Method) (c : Code) (H : Heap) (locs : List Loc) (cells slots : Nat) (Q : State → Prop) (xs : Nat → Nat) (cD : va_G) (cy : Nat → ClassId) (A : Nat → Prop) (cc : ByteArray) (nL : Nat) (Ts : List Cond) (S : zS) (pc : Nat) (ls : Array Slot) (rest : List Value), MX xs cD cy A p s m args c cc nL Ts own → zPw cD cy A s.heap S H locs → decode cc pc = .ok (ins, len) →
  W p l e R s m args below meth c H locs cells slots Q (F0 m (pc + len) ls (v xs :: rest)) → W p l e R s m args below meth c H locs cells slots Q (F0 m pc ls rest)
/-- a field of what lies outside the pool -/
def RSpG (own : String) (idx k : Nat) (v : Sv) : Prop := ∀ (p : Program) (l : Launch) (e : Env) (R : Room) (s : State) (m : MethodId) (args : Array Value) (below : List Frame) (meth : Method) (c : Code) (H : Heap) (locs : List Loc) (cells slots : Nat) (Q : State → Prop) (xs : Nat → Nat) (cD : va_G) (cy : Nat → ClassId) (A : Nat → Prop) (cc : ByteArray) (nL : Nat) (Ts : List Cond) (S : zS) (pc : Nat) (ls : Array Slot) (rest : List Value), MX xs cD cy A p s m args c cc nL Ts own → zPw cD cy A s.heap S H locs → decode cc pc = .ok (.getfield idx, 3) →
  W p l e R s m args below meth c H locs cells slots Q (F0 m (pc + 3) ls (svX xs v :: rest)) → W p l e R s m args below meth c H locs cells slots Q (F0 m pc ls (.ref (xs k) :: rest))
/-- an array outside the pool: its elements, its length -/
def RSpA (ins : ClassFile.Instr) (k : Nat) (L : List Int) : Prop := ∀ (p : Program) (l : Launch) (e : Env) (R : Room) (s : State) (m : MethodId) (args : Array Value) (below : List Frame) (meth : Method) (c : Code) (H : Heap) (locs : List Loc) (cells slots : Nat) (Q : State → Prop) (xs : Nat → Nat) (cD : va_G) (cy : Nat → ClassId) (A : Nat → Prop) (cc : ByteArray) (nL : Nat) (Ts : List Cond) (S : zS) (pc : Nat) (ls : Array Slot) (rest : List Value) (own : String), MX xs cD cy A p s m args c cc nL Ts own → zPw cD cy A s.heap S H locs →
  (decode cc pc = .ok (.arraylength, 1) → W p l e R s m args below meth c H locs cells slots Q (F0 m (pc + 1) ls (.int (Int32.ofInt L.length) :: rest)) → W p l e R s m args below meth c H locs cells slots Q (F0 m pc ls (.ref (xs k) :: rest))) ∧
  (decode cc pc = .ok (ins, 1) → ∀ j : Nat, j < L.length → W p l e R s m args below meth c H locs cells slots Q (F0 m (pc + 1) ls (.int (Int32.ofInt (nth 0 L j)) :: rest)) → W p l e R s m args below meth c H locs cells slots Q (F0 m pc ls (.int (Int32.ofInt j) :: .ref (xs k) :: rest)))
/-- the rules of a class' tables -/
def LKOK (own : String) (lk : LK) : Prop :=
  (∀ idx (x : FE), (idx, x) ∈ lk.1 → ∀ k ∈ x.2, RGet own idx k x.1) ∧
  (∀ idx (x : PE), (idx, x) ∈ lk.2.1 → ∀ k ∈ x.2.2.2, RPut own idx k x.1 x.2.1 x.2.2.1) ∧
  (∀ idx (x : Nat × Nat × Nat), (idx, x) ∈ lk.2.2.2.1 → RNew own idx x.1 x.2.2) ∧
  (∀ idx (v : Int), (idx, v) ∈ lk.2.2.2.2.1 → RCst own (.ldc idx) 2 (fun _ => .int (Int32.ofInt v)) ∧ RCst own (.ldc_w idx) 3 (fun _ => .int (Int32.ofInt v))) ∧
  (∀ idx (v : Int), (idx, v) ∈ lk.2.2.2.2.2.1 → RCst own (.ldc2_w idx) 3 (fun _ => .long (Int64.ofInt v))) ∧
  (∀ idx (v : Sv), (idx, v) ∈ lk.2.2.2.2.2.2.1 → RCst own (.getstatic idx) 3 (fun xs => svX xs v)) ∧
  (∀ idx (x : List (Nat × Sv)), (idx, x) ∈ lk.2.2.2.2.2.2.2.1 → ∀ k v, (k, v) ∈ x → RSpG own idx k v) ∧
  (∀ idx k, (idx, k) ∈ lk.2.2.2.2.2.2.2.2 → RCst own (.ldc idx) 2 (fun xs => .ref (xs k)))
/-! the null reference and Strips into an array of Strips -/
section ZQ
variable {p : Program} {l : Launch} {e : Env} {R : Room} {s : State} {m : MethodId} {args : Array Value} {below : List Frame} {meth : Method} {c : Code} {H : Heap} {locs : List Loc} {cells slots : Nat} {Q : State → Prop}
variable {cc : ByteArray} {pc : Nat} {ls : Array Slot} {rest st0 : List Value} {cD : va_G} {cy : Nat → ClassId} {A : Nat → Prop} {H0 : Heap} {S : zS} {a : Nat}
def sKs : List Nat := [0, 1, 2, 4, 6, 8, 9]
theorem z_qast {maxL : Nat} {Ts : List Cond} {own : String} {n v : Nat} {i : Int32} (hcf : CallFix p m c cc maxL s args Ts own) (hK : zKK cD cy s) (hE : zE s) (hw : zPw cD cy A H0 S H locs) (hL : a ∈ zL S) (hk : zK S a = 16) (hn : zN S a = n) (hLv : v ∈ zL S) (hkv : zK S v ∈ sKs) (hin : vp_in i n) (hdg : decode cc pc = .ok (.aastore, 1))
    (kk : ∀ (H1 : Heap) (locs1 : List Loc), zPw cD cy A H0 (zsR S a (va_up (zR S a) i.toNatClampNeg (some v))) H1 locs1 → W p l e R s m args below meth c H1 locs1 cells slots Q (F0 m (pc + 1) ls rest)) : W p l e R s m args below meth c H locs cells slots Q (F0 m pc ls (.ref v :: .int i :: .ref a :: rest)) := by
  obtain ⟨q0, hq0⟩ := zW_get (cy := cy) hL
  have hv : ∃ (k : Nat) (r : vw_C), k < 13 ∧ zK S v = k ∧ vwCl[k]? = some r ∧ ∀ comp c0 : ClassId, s.vm.findClass "FoldedInHalf$Strip" = some comp → s.vm.findClass r.1 = some c0 → s.vm.assignable c0 comp = true := by
    simp only [sKs, List.mem_cons, List.not_mem_nil, or_false] at hkv
    rcases hkv with h | h | h | h | h | h | h
    · exact ⟨0, _, by decide, h, rfl, vb_asgC (hE.nw (tm_8 8 rfl) rfl)⟩
    · exact ⟨1, _, by decide, h, rfl, vb_asgC (hE.nw (tm_8 7 rfl) rfl)⟩
    · exact ⟨2, _, by decide, h, rfl, vb_asgC (hE.nw (tm_8 9 rfl) rfl)⟩
    · exact ⟨4, _, by decide, h, rfl, vb_asgC (hE.nw (tm_8 10 rfl) rfl)⟩
    · exact ⟨6, _, by decide, h, rfl, vb_asgC (hE.nw (tm_8 5 rfl) rfl)⟩
    · refine ⟨8, _, by decide, h, rfl, fun comp c0 h1 h2 => ?_⟩
      cases h1.symm.trans h2
      exact va_asg _ _
    · exact ⟨9, _, by decide, h, rfl, vb_asgC (hE.nw (tm_8 6 rfl) rfl)⟩
  obtain ⟨k, r, h13, hkk, hr, hasg⟩ := hv
  obtain ⟨qv, hqv, -⟩ := z_obj (cy := cy) hw hLv hkk h13
  have hq := hq0
  subst hn
  rw [zF_q hk] at hq
  refine va_astqM hcf.1 hcf.2.1 hK hw.1 hw.2.1 hw.2.2 q0 3 hq rfl (va_rAny hK hw.1 hqv hr hasg) hin hdg fun H1 locs1 hP hD hS => ?_
  have e := zW_set (cy := cy) (S' := zsR S a (va_up (zR S a) i.toNatClampNeg (some v))) hw.2.1 hL hq0 rfl (fun b => zF_setR hk b)
  rw [e] at hP hD
  exact kk H1 locs1 ⟨hP, hD, hS⟩
end ZQ
