/-! the tables' words of nest mates and casts; statics and string constants outside the pool: they ride in every start -/
def isNW : Cond → Bool
  | .methodLinkNest .. => true
  | .fieldLinkNest .. => true
  | .castable .. => true
  | _ => false
def z_nw : List Cond := tables_1.filter isNW
def zE (U : State) : Prop := (∀ w ∈ z_nw, va_Nw w U) ∧ va_AO "FoldedInHalf$Shelf" U ∧ va_AO "FoldedInHalf$Strip" U
theorem z_nw_tab : ∀ w ∈ z_nw, w.onTables = true := by
  intro w h
  have h := (List.mem_filter.mp h).2
  cases w <;> first | rfl | cases h
theorem zE.same {u U : State} (h : u.vm = U.vm) (z : zE u) : zE U := ⟨fun w hw => va_Nw.same (z_nw_tab w hw) h (z.1 w hw), va_AO.moved (by rw [h]; exact Vm.Alike.refl _) z.2.1, va_AO.moved (by rw [h]; exact Vm.Alike.refl _) z.2.2⟩
theorem zE.warm {s U : State} (hW : s.WarmedH U.vm) (z : zE s) : zE U := by
  refine ⟨fun w hw => ?_, va_AO.moved hW.alike z.2.1, va_AO.moved hW.alike z.2.2⟩
  have h1 := z.1 w hw
  have h2 := (List.mem_filter.mp hw).2
  cases w <;> first | exact va_Nw.warmM hW h1 | exact va_Nw.warmF hW h1 | exact va_Nw.warmC hW h1 | cases h2
theorem zE.nw {U : State} (z : zE U) {w : Cond} (h : w ∈ tables_1) (g : isNW w = true) : va_Nw w U := z.1 w (List.mem_filter.mpr ⟨h, g⟩)
theorem zE.tab {args : Array Value} {U : State} (h : ∀ w ∈ tables_1, w.before args U = true) : zE U :=
  ⟨fun w hw => va_Nw.of (z_nw_tab w hw) (h w (List.mem_filter.mp hw).1), va_AO.of (h _ (tm_1 32 rfl)), va_AO.of (h _ (tm_1 34 rfl))⟩
def z_len : List Nat := [5, 4, 4]
def z_byt : List (List Int32) := [[115, 116, 114, 105, 112], [116, 117, 114, 110], [108, 101, 115, 115]]
def z_tx (i : Nat) : String := match i with
  | 0 => "strip"
  | 1 => "turn"
  | _ => "less"
def z_cp (i : Nat) : Nat := match i with
  | 0 => 89
  | 1 => 113
  | _ => 131
/-- the addresses: 0 EAST, 1 NORTH, 2 to 4 the texts, 5 to 7 their bytes, 8 what the JDK hands on when it tests an index -/
def zH (xs : Nat → Nat) (A : Nat → Prop) (U : State) (H : Heap) : Prop :=
  va_Z "FoldedInHalf" "EAST" "[I" (.ref (xs 0)) A U H ∧ va_T .int (xs 0) 4 (fun j => .int (([1, 0, -1, 0] : List Int32).getD j 0)) A U H ∧
  va_Z "FoldedInHalf" "NORTH" "[I" (.ref (xs 1)) A U H ∧ va_T .int (xs 1) 4 (fun j => .int (([0, 1, 0, -1] : List Int32).getD j 0)) A U H ∧
  va_Z "java/lang/String" "COMPACT_STRINGS" "Z" (.int 1) A U H ∧ va_Zq "jdk/internal/util/Preconditions" "SIOOBE_FORMATTER" "Ljava/util/function/BiFunction;" A U H ∧
  vk_S 3 z_len z_byt (fun i => xs (2 + i)) (fun i => xs (5 + i)) A U H ∧ ∀ i, i < 3 → vk_R "FoldedInHalf$Reader" (z_cp i) (z_tx i) (xs (2 + i)) U
theorem zH.warm {xs : Nat → Nat} {A : Nat → Prop} {s U : State} {H : Heap} (hW : s.WarmedH U.vm) (z : zH xs A s H) : zH xs A U H :=
  ⟨z.1.moved hW.alike, z.2.1.moved hW.alike, z.2.2.1.moved hW.alike, z.2.2.2.1.moved hW.alike, z.2.2.2.2.1.moved hW.alike, z.2.2.2.2.2.1.moved hW.alike, z.2.2.2.2.2.2.1.moved hW.alike, fun i hi => (z.2.2.2.2.2.2.2 i hi).warm hW⟩
theorem zH.same {xs : Nat → Nat} {A : Nat → Prop} {u U : State} {H : Heap} (hv : U.vm = u.vm) (z : zH xs A u H) : zH xs A U H := by
  have ha : u.vm.Alike U.vm := by rw [hv]; exact Vm.Alike.refl _
  exact ⟨z.1.moved ha, z.2.1.moved ha, z.2.2.1.moved ha, z.2.2.2.1.moved ha, z.2.2.2.2.1.moved ha, z.2.2.2.2.2.1.moved ha, z.2.2.2.2.2.2.1.moved ha, fun i hi => (z.2.2.2.2.2.2.2 i hi).same hv⟩
theorem zH.kept {xs : Nat → Nat} {A : Nat → Prop} {U : State} {H H1 : Heap} (z : zH xs A U H) (hq : ∀ a : Nat, a < H.size → ¬ A a → H1[a]? = H[a]?) : zH xs A U H1 :=
  ⟨z.1.kept hq, z.2.1.kept hq, z.2.2.1.kept hq, z.2.2.2.1.kept hq, z.2.2.2.2.1.kept hq, z.2.2.2.2.2.1.kept hq, z.2.2.2.2.2.2.1.kept hq, z.2.2.2.2.2.2.2⟩
theorem zH.narrow {xs : Nat → Nat} {A B : Nat → Prop} {U : State} {H : Heap} (z : zH xs A U H) (hAB : ∀ q, B q → A q) : zH xs B U H :=
  ⟨z.1.narrow hAB, z.2.1.narrow hAB, z.2.2.1.narrow hAB, z.2.2.2.1.narrow hAB, z.2.2.2.2.1.narrow hAB, z.2.2.2.2.2.1.narrow hAB, z.2.2.2.2.2.2.1.narrow hAB, z.2.2.2.2.2.2.2⟩
/-! the class ids of the arrays, the tables, the pool on a heap -/
def z_tys (cy : Nat → ClassId) : List (ClassId × FieldType) := [(cy 0, .int), (cy 1, .long), (cy 2, .object "FoldedInHalf$Shelf"), (cy 3, .object "FoldedInHalf$Strip")]
def zKK (cD : va_G) (cy : Nat → ClassId) (s : State) : Prop := va_K cD vwCl (z_tys cy) s
def zPw (cD : va_G) (cy : Nat → ClassId) (A : Nat → Prop) (H0 : Heap) (S : zS) (H : Heap) (locs : List Loc) : Prop := va_P cD vwCl (zW cy S) H ∧ va_D A (zW cy S) ∧ va_S A H0 H locs
def zAd (cy : Nat → ClassId) (S : zS) (sz : Nat) : Nat → Prop := va_A (zW cy S) sz
def zPre (xs : Nat → Nat) (cD : va_G) (cy : Nat → ClassId) (S : zS) (sz : Nat) : State → Prop := fun U => U.heap.size = sz ∧ va_P cD vwCl (zW cy S) U.heap ∧ zKK cD cy U ∧ va_D (fun _ => True) (zW cy S) ∧ zE U ∧ zH xs (zAd cy S sz) U U.heap
def zPost (cD : va_G) (cy : Nat → ClassId) (A : Nat → Prop) : zS → State → Prop := fun S t => va_P cD vwCl (zW cy S) t.heap ∧ va_D A (zW cy S)
theorem zPre_blind {xs : Nat → Nat} {cD : va_G} {cy : Nat → ClassId} {S : zS} {sz : Nat} {av : List Value} : FrameBlind (va_Pc av (zPre xs cD cy S sz)) := fun a U g mk q => by
  obtain ⟨q0, q1, q2, q3, q4, q5, q6⟩ := q
  exact ⟨q0, q1, q2, va_K.moved (u := U) (U := U.calling g mk a) (Vm.Alike.refl U.vm) q3, q4, zE.same (u := U) (U := U.calling g mk a) rfl q5, zH.same (u := U) (U := U.calling g mk a) rfl q6⟩
theorem z_ofW {xs : Nat → Nat} {l : Launch} {y : MethodName} {ws ws' : List Cond} {rm : Room} {S : zS} {sz : Nat} {cD : va_G} {cy : Nat → ClassId} {av : List Value} {QQ : (Nat → Prop) → Array Value → State → Outcome → State → Prop} {mc ms : Nat} {cc : ByteArray} {maxL : Nat} {ret : Option FieldType} {own : String} (hy : plainName y.cls = true) (ho : y.cls = own) (hw : ws = Cond.code y cc maxL ret :: ws') (hlen : (lg_sl av).length ≤ maxL)
    (body : ∀ (p : Program) (e : Env) (s : State) (m : MethodId) (args : Array Value) (below : List Frame) (meth : Method) (c : Code) (A : Nat → Prop) (ls : Array Slot), CallFix p m c cc maxL s args ws own → meth.sig.returnType = ret → meth.locks = false → meth.name = y.name → zKK cD cy s → zE s → zH xs A s s.heap → zPw cD cy A s.heap S s.heap [] → (∀ q, s.heap.size ≤ q → A q) → lv_has ls maxL (lv_args 0 av) → W p l e rm s m args below meth c s.heap [] 0 0 (MQ below (QQ A) args s mc ms A) (F0 m 0 ls [])) :
    Met l y ws rm (va_Pc av (zPre xs cD cy S sz)) (QQ (zAd cy S sz)) mc ms (zAd cy S sz) := by
  refine Met.ofW (cc := cc) (maxL := maxL) (ret := ret) hy hw ?_
  intro p e s m args below meth c s₁ B hml hv
  obtain ⟨rfl, hsz, hP, hK, hD0, hE, hZ⟩ := hv
  have hts := atoms_spec (ws := ws) B.pre
  have hown : s.vm.findClass own = some m.cls := by rw [← ho]; exact findClass_of_methodNamed B.named
  subst hsz
  have hD : va_D (zAd cy S s.heap.size) (zW cy S) := hD0.self (sz := s.heap.size)
  have hA : ∀ q : Nat, s.heap.size ≤ q → zAd cy S s.heap.size q := fun q h => Or.inr h
  have hl := lv_entry av (n := maxL) hlen
  rw [lg_entry_eq]
  exact body p e s m av.toArray below meth c (zAd cy S s.heap.size) _ ⟨B.exec, B.bytes, hml, hown, hts⟩ B.returns B.notSynchronized (name_of_methodNamed B.named B.method).1 hK hE hZ ⟨hP, hD, va_S.rf⟩ hA hl
section ZR
variable {p : Program} {l : Launch} {e : Env} {R : Room} {s : State} {m : MethodId} {args : Array Value} {below : List Frame} {meth : Method} {c : Code} {H : Heap} {locs : List Loc} {cells slots : Nat} {Q : State → Prop}
variable {cc : ByteArray} {pc : Nat} {ls : Array Slot} {rest st0 : List Value} {cD : va_G} {cy : Nat → ClassId} {A : Nat → Prop} {H0 : Heap} {S : zS} {a : Nat}
theorem z_obj (hw : zPw cD cy A H0 S H locs) (hL : a ∈ zL S) {k : Nat} (hk : zK S a = k) (h : k < 13) : ∃ q0 : Nat, (zW cy S)[q0]? = some (a, (Sum.inr (k, z_fl S a (z_ft k) (z_bs k)) : va_E)) ∧ (zW cy S)[q0]? = some (a, zF cy S a) := by
  obtain ⟨q0, hq⟩ := zW_get (cy := cy) hL
  exact ⟨q0, by rw [hq, zF_o hk h], hq⟩
theorem z_recv (hK : zKK cD cy s) (hw : zPw cD cy A H0 S H locs) (hL : a ∈ zL S) {k : Nat} (hk : zK S a = k) (h : k < 13) {q : vw_C} (hc : vwCl[k]? = some q) : ∃ cell : Cell, H[a]? = some cell ∧ cell.vm.isStatics = false ∧ s.vm.findClass q.1 = some cell.cls := by
  obtain ⟨q0, h1, -⟩ := z_obj hw hL hk h
  exact va_recv hK hw.1 hc h1
/-- getfield -/
theorem z_get {maxL : Nat} {Ts : List Cond} {own ref C : String} {T : u_T} {N k index i j t : Nat} {v : Value} (hcf : CallFix p m c cc maxL s args Ts own) (hK : zKK cD cy s) (hw : zPw cD cy A H0 S H locs) (hin : ∀ w ∈ u_ws C T N, w ∈ Ts) (hL : a ∈ zL S) (hk : zK S a = k) (hc : vwCl[k]? = some (C, T, N)) (hi : i < N) (h13 : k < 13) (ht : (z_ft k)[i]? = some t) (hj : z_bs k + i = j) (hv : z_v S a t j = v) (hlink : Cond.fieldLink own index ref (T i).2.1 (T i).2.2.1 ∈ Ts) (hsame : ∀ x, s.fieldFound? (T i).1 (T i).2.1 (T i).2.2.1 = some x → s.fieldFound? ref (T i).2.1 (T i).2.2.1 = some x) (hdg : decode cc pc = .ok (.getfield index, 3))
    (kk : W p l e R s m args below meth c H locs cells slots Q (F0 m (pc + 3) ls (v :: rest))) : W p l e R s m args below meth c H locs cells slots Q (F0 m pc ls (.ref a :: rest)) := by
  obtain ⟨q0, hq, -⟩ := z_obj hw hL hk h13
  obtain ⟨hx, hb, -, hown, hts⟩ := hcf
  exact va_get hx hb hts hin hown hK hw.1 q0 hq hc i hi (hts _ hlink) hsame (by rw [z_fl_get ht, hj, hv]) hdg kk
theorem z_getN {maxL : Nat} {Ts : List Cond} {own ref C host : String} {T : u_T} {N k index i j t : Nat} {v : Value} (hcf : CallFix p m c cc maxL s args Ts own) (hK : zKK cD cy s) (hw : zPw cD cy A H0 S H locs) (hin : ∀ w ∈ u_ws C T N, w ∈ Ts) (hL : a ∈ zL S) (hk : zK S a = k) (hc : vwCl[k]? = some (C, T, N)) (hi : i < N) (h13 : k < 13) (ht : (z_ft k)[i]? = some t) (hj : z_bs k + i = j) (hv : z_v S a t j = v) (hlink : va_Nw (.fieldLinkNest own index ref (T i).2.1 (T i).2.2.1 host) s) (hsame : ∀ x, s.fieldFound? (T i).1 (T i).2.1 (T i).2.2.1 = some x → s.fieldFound? ref (T i).2.1 (T i).2.2.1 = some x) (hdg : decode cc pc = .ok (.getfield index, 3))
    (kk : W p l e R s m args below meth c H locs cells slots Q (F0 m (pc + 3) ls (v :: rest))) : W p l e R s m args below meth c H locs cells slots Q (F0 m pc ls (.ref a :: rest)) := by
  obtain ⟨q0, hq, -⟩ := z_obj hw hL hk h13
  obtain ⟨hx, hb, -, hown, hts⟩ := hcf
  exact va_getN hx hb hts hin hown hK hw.1 q0 hq hc i hi (va_Nw.use rfl hlink) hsame (by rw [z_fl_get ht, hj, hv]) hdg kk
theorem z_putI {maxL : Nat} {Ts : List Cond} {own ref C : String} {T : u_T} {N k index i j : Nat} (ty0 : Nat → FieldType) (hcf : CallFix p m c cc maxL s args Ts own) (hK : zKK cD cy s) (hw : zPw cD cy A H0 S H locs) (hin : ∀ w ∈ u_ws C T N, w ∈ Ts) (hty : ∀ k, k < N → parseFieldDescriptor (T k).2.2.1 = some (ty0 k)) (hnm : ∀ a, a < N → ∀ b, b < N → a ≠ b → (T a).2.1 ≠ (T b).2.1) (hL : a ∈ zL S) (hk : zK S a = k) (hc : vwCl[k]? = some (C, T, N)) (hi : i < N) (h13 : k < 13) (hj : z_bs k + i = j) (ht : (z_ft k)[i]? = some 0) (hlink : Cond.fieldLink own index ref (T i).2.1 (T i).2.2.1 ∈ Ts) (hsame : ∀ x, s.fieldFound? (T i).1 (T i).2.1 (T i).2.2.1 = some x → s.fieldFound? ref (T i).2.1 (T i).2.2.1 = some x) (hfin : (T i).2.2.2 = false) {ty : FieldType} {x : Int32} {v : Value} (hv : .int x = v) (hd : parseFieldDescriptor (T i).2.2.1 = some ty) (hn : narrow ty v = v) (hfit : fits ty v = true) (hdg : decode cc pc = .ok (.putfield index, 3))
    (kk : ∀ (H1 : Heap) (locs1 : List Loc), zPw cD cy A H0 (zsI S j a x) H1 locs1 → W p l e R s m args below meth c H1 locs1 cells slots Q (F0 m (pc + 3) ls rest)) : W p l e R s m args below meth c H locs cells slots Q (F0 m pc ls (v :: .ref a :: rest)) := by
  subst hv
  obtain ⟨q0, hq, hq0⟩ := z_obj hw hL hk h13
  obtain ⟨hx, hb, -, hown, hts⟩ := hcf
  have hlen : i < (z_fl S a (z_ft k) (z_bs k)).length := by rw [z_fl_len]; exact (List.getElem?_eq_some_iff.mp ht).1
  refine va_put hx hb hts hin ty0 hty hnm hown hK hw.1 hw.2.1 hw.2.2 q0 hq hc i hi (hts _ hlink) hsame hfin hd hn hfit hlen hdg fun H1 locs1 hP hD hS => ?_
  have e := zW_set (cy := cy) (S' := zsI S j a x) hw.2.1 hL hq0 rfl (fun b => by rw [← hj]; exact zF_setI hk h13 ht b)
  rw [e] at hP hD
  exact kk H1 locs1 ⟨hP, hD, hS⟩
theorem z_putIF {maxL : Nat} {Ts : List Cond} {own ref C : String} {T : u_T} {N k index i j : Nat} (ty0 : Nat → FieldType) (hcf : CallFix p m c cc maxL s args Ts own) (hK : zKK cD cy s) (hw : zPw cD cy A H0 S H locs) (hin : ∀ w ∈ u_ws C T N, w ∈ Ts) (hty : ∀ k, k < N → parseFieldDescriptor (T k).2.2.1 = some (ty0 k)) (hnm : ∀ a, a < N → ∀ b, b < N → a ≠ b → (T a).2.1 ≠ (T b).2.1) (hL : a ∈ zL S) (hk : zK S a = k) (hc : vwCl[k]? = some (C, T, N)) (hi : i < N) (h13 : k < 13) (hj : z_bs k + i = j) (ht : (z_ft k)[i]? = some 0) (hlink : Cond.fieldLink own index ref (T i).2.1 (T i).2.2.1 ∈ Ts) (hsame : ∀ x, s.fieldFound? (T i).1 (T i).2.1 (T i).2.2.1 = some x → s.fieldFound? ref (T i).2.1 (T i).2.2.1 = some x) (hfin : (T i).2.2.2 = true) (hin2 : meth.name = "<init>") (hdecl : (T i).1 = own) {ty : FieldType} {x : Int32} {v : Value} (hv : .int x = v) (hd : parseFieldDescriptor (T i).2.2.1 = some ty) (hn : narrow ty v = v) (hfit : fits ty v = true) (hdg : decode cc pc = .ok (.putfield index, 3))
    (kk : ∀ (H1 : Heap) (locs1 : List Loc), zPw cD cy A H0 (zsI S j a x) H1 locs1 → W p l e R s m args below meth c H1 locs1 cells slots Q (F0 m (pc + 3) ls rest)) : W p l e R s m args below meth c H locs cells slots Q (F0 m pc ls (v :: .ref a :: rest)) := by
  subst hv
  obtain ⟨q0, hq, hq0⟩ := z_obj hw hL hk h13
  obtain ⟨hx, hb, -, hown, hts⟩ := hcf
  have hlen : i < (z_fl S a (z_ft k) (z_bs k)).length := by rw [z_fl_len]; exact (List.getElem?_eq_some_iff.mp ht).1
  refine va_putF hx hb hts hin ty0 hty hnm hown hK hw.1 hw.2.1 hw.2.2 q0 hq hc i hi (hts _ hlink) hsame hfin hin2 hdecl hd hn hfit hlen hdg fun H1 locs1 hP hD hS => ?_
  have e := zW_set (cy := cy) (S' := zsI S j a x) hw.2.1 hL hq0 rfl (fun b => by rw [← hj]; exact zF_setI hk h13 ht b)
  rw [e] at hP hD
  exact kk H1 locs1 ⟨hP, hD, hS⟩
theorem z_putIN {maxL : Nat} {Ts : List Cond} {own ref C host : String} {T : u_T} {N k index i j : Nat} (ty0 : Nat → FieldType) (hcf : CallFix p m c cc maxL s args Ts own) (hK : zKK cD cy s) (hw : zPw cD cy A H0 S H locs) (hin : ∀ w ∈ u_ws C T N, w ∈ Ts) (hty : ∀ k, k < N → parseFieldDescriptor (T k).2.2.1 = some (ty0 k)) (hnm : ∀ a, a < N → ∀ b, b < N → a ≠ b → (T a).2.1 ≠ (T b).2.1) (hL : a ∈ zL S) (hk : zK S a = k) (hc : vwCl[k]? = some (C, T, N)) (hi : i < N) (h13 : k < 13) (hj : z_bs k + i = j) (ht : (z_ft k)[i]? = some 0) (hlink : va_Nw (.fieldLinkNest own index ref (T i).2.1 (T i).2.2.1 host) s) (hsame : ∀ x, s.fieldFound? (T i).1 (T i).2.1 (T i).2.2.1 = some x → s.fieldFound? ref (T i).2.1 (T i).2.2.1 = some x) (hfin : (T i).2.2.2 = false) {ty : FieldType} {x : Int32} {v : Value} (hv : .int x = v) (hd : parseFieldDescriptor (T i).2.2.1 = some ty) (hn : narrow ty v = v) (hfit : fits ty v = true) (hdg : decode cc pc = .ok (.putfield index, 3))
    (kk : ∀ (H1 : Heap) (locs1 : List Loc), zPw cD cy A H0 (zsI S j a x) H1 locs1 → W p l e R s m args below meth c H1 locs1 cells slots Q (F0 m (pc + 3) ls rest)) : W p l e R s m args below meth c H locs cells slots Q (F0 m pc ls (v :: .ref a :: rest)) := by
  subst hv
  obtain ⟨q0, hq, hq0⟩ := z_obj hw hL hk h13
  obtain ⟨hx, hb, -, hown, hts⟩ := hcf
  have hlen : i < (z_fl S a (z_ft k) (z_bs k)).length := by rw [z_fl_len]; exact (List.getElem?_eq_some_iff.mp ht).1
  refine va_putN hx hb hts hin ty0 hty hnm hown hK hw.1 hw.2.1 hw.2.2 q0 hq hc i hi (va_Nw.use rfl hlink) hsame hfin hd hn hfit hlen hdg fun H1 locs1 hP hD hS => ?_
  have e := zW_set (cy := cy) (S' := zsI S j a x) hw.2.1 hL hq0 rfl (fun b => by rw [← hj]; exact zF_setI hk h13 ht b)
  rw [e] at hP hD
  exact kk H1 locs1 ⟨hP, hD, hS⟩
theorem z_putJ {maxL : Nat} {Ts : List Cond} {own ref C : String} {T : u_T} {N k index i j : Nat} (ty0 : Nat → FieldType) (hcf : CallFix p m c cc maxL s args Ts own) (hK : zKK cD cy s) (hw : zPw cD cy A H0 S H locs) (hin : ∀ w ∈ u_ws C T N, w ∈ Ts) (hty : ∀ k, k < N → parseFieldDescriptor (T k).2.2.1 = some (ty0 k)) (hnm : ∀ a, a < N → ∀ b, b < N → a ≠ b → (T a).2.1 ≠ (T b).2.1) (hL : a ∈ zL S) (hk : zK S a = k) (hc : vwCl[k]? = some (C, T, N)) (hi : i < N) (h13 : k < 13) (hj : z_bs k + i = j) (ht : (z_ft k)[i]? = some 1) (hlink : Cond.fieldLink own index ref (T i).2.1 (T i).2.2.1 ∈ Ts) (hsame : ∀ x, s.fieldFound? (T i).1 (T i).2.1 (T i).2.2.1 = some x → s.fieldFound? ref (T i).2.1 (T i).2.2.1 = some x) (hfin : (T i).2.2.2 = false) {ty : FieldType} {x : Int64} {v : Value} (hv : .long x = v) (hd : parseFieldDescriptor (T i).2.2.1 = some ty) (hn : narrow ty v = v) (hfit : fits ty v = true) (hdg : decode cc pc = .ok (.putfield index, 3))
    (kk : ∀ (H1 : Heap) (locs1 : List Loc), zPw cD cy A H0 (zsJ S j a x) H1 locs1 → W p l e R s m args below meth c H1 locs1 cells slots Q (F0 m (pc + 3) ls rest)) : W p l e R s m args below meth c H locs cells slots Q (F0 m pc ls (v :: .ref a :: rest)) := by
  subst hv
  obtain ⟨q0, hq, hq0⟩ := z_obj hw hL hk h13
  obtain ⟨hx, hb, -, hown, hts⟩ := hcf
  have hlen : i < (z_fl S a (z_ft k) (z_bs k)).length := by rw [z_fl_len]; exact (List.getElem?_eq_some_iff.mp ht).1
  refine va_put hx hb hts hin ty0 hty hnm hown hK hw.1 hw.2.1 hw.2.2 q0 hq hc i hi (hts _ hlink) hsame hfin hd hn hfit hlen hdg fun H1 locs1 hP hD hS => ?_
  have e := zW_set (cy := cy) (S' := zsJ S j a x) hw.2.1 hL hq0 rfl (fun b => by rw [← hj]; exact zF_setJ hk h13 ht b)
  rw [e] at hP hD
  exact kk H1 locs1 ⟨hP, hD, hS⟩
theorem z_putJF {maxL : Nat} {Ts : List Cond} {own ref C : String} {T : u_T} {N k index i j : Nat} (ty0 : Nat → FieldType) (hcf : CallFix p m c cc maxL s args Ts own) (hK : zKK cD cy s) (hw : zPw cD cy A H0 S H locs) (hin : ∀ w ∈ u_ws C T N, w ∈ Ts) (hty : ∀ k, k < N → parseFieldDescriptor (T k).2.2.1 = some (ty0 k)) (hnm : ∀ a, a < N → ∀ b, b < N → a ≠ b → (T a).2.1 ≠ (T b).2.1) (hL : a ∈ zL S) (hk : zK S a = k) (hc : vwCl[k]? = some (C, T, N)) (hi : i < N) (h13 : k < 13) (hj : z_bs k + i = j) (ht : (z_ft k)[i]? = some 1) (hlink : Cond.fieldLink own index ref (T i).2.1 (T i).2.2.1 ∈ Ts) (hsame : ∀ x, s.fieldFound? (T i).1 (T i).2.1 (T i).2.2.1 = some x → s.fieldFound? ref (T i).2.1 (T i).2.2.1 = some x) (hfin : (T i).2.2.2 = true) (hin2 : meth.name = "<init>") (hdecl : (T i).1 = own) {ty : FieldType} {x : Int64} {v : Value} (hv : .long x = v) (hd : parseFieldDescriptor (T i).2.2.1 = some ty) (hn : narrow ty v = v) (hfit : fits ty v = true) (hdg : decode cc pc = .ok (.putfield index, 3))
    (kk : ∀ (H1 : Heap) (locs1 : List Loc), zPw cD cy A H0 (zsJ S j a x) H1 locs1 → W p l e R s m args below meth c H1 locs1 cells slots Q (F0 m (pc + 3) ls rest)) : W p l e R s m args below meth c H locs cells slots Q (F0 m pc ls (v :: .ref a :: rest)) := by
  subst hv
  obtain ⟨q0, hq, hq0⟩ := z_obj hw hL hk h13
  obtain ⟨hx, hb, -, hown, hts⟩ := hcf
  have hlen : i < (z_fl S a (z_ft k) (z_bs k)).length := by rw [z_fl_len]; exact (List.getElem?_eq_some_iff.mp ht).1
  refine va_putF hx hb hts hin ty0 hty hnm hown hK hw.1 hw.2.1 hw.2.2 q0 hq hc i hi (hts _ hlink) hsame hfin hin2 hdecl hd hn hfit hlen hdg fun H1 locs1 hP hD hS => ?_
  have e := zW_set (cy := cy) (S' := zsJ S j a x) hw.2.1 hL hq0 rfl (fun b => by rw [← hj]; exact zF_setJ hk h13 ht b)
  rw [e] at hP hD
  exact kk H1 locs1 ⟨hP, hD, hS⟩
theorem z_putJN {maxL : Nat} {Ts : List Cond} {own ref C host : String} {T : u_T} {N k index i j : Nat} (ty0 : Nat → FieldType) (hcf : CallFix p m c cc maxL s args Ts own) (hK : zKK cD cy s) (hw : zPw cD cy A H0 S H locs) (hin : ∀ w ∈ u_ws C T N, w ∈ Ts) (hty : ∀ k, k < N → parseFieldDescriptor (T k).2.2.1 = some (ty0 k)) (hnm : ∀ a, a < N → ∀ b, b < N → a ≠ b → (T a).2.1 ≠ (T b).2.1) (hL : a ∈ zL S) (hk : zK S a = k) (hc : vwCl[k]? = some (C, T, N)) (hi : i < N) (h13 : k < 13) (hj : z_bs k + i = j) (ht : (z_ft k)[i]? = some 1) (hlink : va_Nw (.fieldLinkNest own index ref (T i).2.1 (T i).2.2.1 host) s) (hsame : ∀ x, s.fieldFound? (T i).1 (T i).2.1 (T i).2.2.1 = some x → s.fieldFound? ref (T i).2.1 (T i).2.2.1 = some x) (hfin : (T i).2.2.2 = false) {ty : FieldType} {x : Int64} {v : Value} (hv : .long x = v) (hd : parseFieldDescriptor (T i).2.2.1 = some ty) (hn : narrow ty v = v) (hfit : fits ty v = true) (hdg : decode cc pc = .ok (.putfield index, 3))
    (kk : ∀ (H1 : Heap) (locs1 : List Loc), zPw cD cy A H0 (zsJ S j a x) H1 locs1 → W p l e R s m args below meth c H1 locs1 cells slots Q (F0 m (pc + 3) ls rest)) : W p l e R s m args below meth c H locs cells slots Q (F0 m pc ls (v :: .ref a :: rest)) := by
  subst hv
  obtain ⟨q0, hq, hq0⟩ := z_obj hw hL hk h13
  obtain ⟨hx, hb, -, hown, hts⟩ := hcf
  have hlen : i < (z_fl S a (z_ft k) (z_bs k)).length := by rw [z_fl_len]; exact (List.getElem?_eq_some_iff.mp ht).1
  refine va_putN hx hb hts hin ty0 hty hnm hown hK hw.1 hw.2.1 hw.2.2 q0 hq hc i hi (va_Nw.use rfl hlink) hsame hfin hd hn hfit hlen hdg fun H1 locs1 hP hD hS => ?_
  have e := zW_set (cy := cy) (S' := zsJ S j a x) hw.2.1 hL hq0 rfl (fun b => by rw [← hj]; exact zF_setJ hk h13 ht b)
  rw [e] at hP hD
  exact kk H1 locs1 ⟨hP, hD, hS⟩
theorem z_putQ {maxL : Nat} {Ts : List Cond} {own ref C : String} {T : u_T} {N k index i j : Nat} (ty0 : Nat → FieldType) (hcf : CallFix p m c cc maxL s args Ts own) (hK : zKK cD cy s) (hw : zPw cD cy A H0 S H locs) (hin : ∀ w ∈ u_ws C T N, w ∈ Ts) (hty : ∀ k, k < N → parseFieldDescriptor (T k).2.2.1 = some (ty0 k)) (hnm : ∀ a, a < N → ∀ b, b < N → a ≠ b → (T a).2.1 ≠ (T b).2.1) (hL : a ∈ zL S) (hk : zK S a = k) (hc : vwCl[k]? = some (C, T, N)) (hi : i < N) (h13 : k < 13) (hj : z_bs k + i = j) (ht : (z_ft k)[i]? = some 2) (hlink : Cond.fieldLink own index ref (T i).2.1 (T i).2.2.1 ∈ Ts) (hsame : ∀ x, s.fieldFound? (T i).1 (T i).2.1 (T i).2.2.1 = some x → s.fieldFound? ref (T i).2.1 (T i).2.2.1 = some x) (hfin : (T i).2.2.2 = false) {ty : FieldType} {x : Option Nat} {v : Value} (hv : va_rf x = v) (hd : parseFieldDescriptor (T i).2.2.1 = some ty) (hn : narrow ty v = v) (hfit : fits ty v = true) (hdg : decode cc pc = .ok (.putfield index, 3))
    (kk : ∀ (H1 : Heap) (locs1 : List Loc), zPw cD cy A H0 (zsQ S j a x) H1 locs1 → W p l e R s m args below meth c H1 locs1 cells slots Q (F0 m (pc + 3) ls rest)) : W p l e R s m args below meth c H locs cells slots Q (F0 m pc ls (v :: .ref a :: rest)) := by
  subst hv
  obtain ⟨q0, hq, hq0⟩ := z_obj hw hL hk h13
  obtain ⟨hx, hb, -, hown, hts⟩ := hcf
  have hlen : i < (z_fl S a (z_ft k) (z_bs k)).length := by rw [z_fl_len]; exact (List.getElem?_eq_some_iff.mp ht).1
  refine va_put hx hb hts hin ty0 hty hnm hown hK hw.1 hw.2.1 hw.2.2 q0 hq hc i hi (hts _ hlink) hsame hfin hd hn hfit hlen hdg fun H1 locs1 hP hD hS => ?_
  have e := zW_set (cy := cy) (S' := zsQ S j a x) hw.2.1 hL hq0 rfl (fun b => by rw [← hj]; exact zF_setQ hk h13 ht b)
  rw [e] at hP hD
  exact kk H1 locs1 ⟨hP, hD, hS⟩
theorem z_putQF {maxL : Nat} {Ts : List Cond} {own ref C : String} {T : u_T} {N k index i j : Nat} (ty0 : Nat → FieldType) (hcf : CallFix p m c cc maxL s args Ts own) (hK : zKK cD cy s) (hw : zPw cD cy A H0 S H locs) (hin : ∀ w ∈ u_ws C T N, w ∈ Ts) (hty : ∀ k, k < N → parseFieldDescriptor (T k).2.2.1 = some (ty0 k)) (hnm : ∀ a, a < N → ∀ b, b < N → a ≠ b → (T a).2.1 ≠ (T b).2.1) (hL : a ∈ zL S) (hk : zK S a = k) (hc : vwCl[k]? = some (C, T, N)) (hi : i < N) (h13 : k < 13) (hj : z_bs k + i = j) (ht : (z_ft k)[i]? = some 2) (hlink : Cond.fieldLink own index ref (T i).2.1 (T i).2.2.1 ∈ Ts) (hsame : ∀ x, s.fieldFound? (T i).1 (T i).2.1 (T i).2.2.1 = some x → s.fieldFound? ref (T i).2.1 (T i).2.2.1 = some x) (hfin : (T i).2.2.2 = true) (hin2 : meth.name = "<init>") (hdecl : (T i).1 = own) {ty : FieldType} {x : Option Nat} {v : Value} (hv : va_rf x = v) (hd : parseFieldDescriptor (T i).2.2.1 = some ty) (hn : narrow ty v = v) (hfit : fits ty v = true) (hdg : decode cc pc = .ok (.putfield index, 3))
    (kk : ∀ (H1 : Heap) (locs1 : List Loc), zPw cD cy A H0 (zsQ S j a x) H1 locs1 → W p l e R s m args below meth c H1 locs1 cells slots Q (F0 m (pc + 3) ls rest)) : W p l e R s m args below meth c H locs cells slots Q (F0 m pc ls (v :: .ref a :: rest)) := by
  subst hv
  obtain ⟨q0, hq, hq0⟩ := z_obj hw hL hk h13
  obtain ⟨hx, hb, -, hown, hts⟩ := hcf
  have hlen : i < (z_fl S a (z_ft k) (z_bs k)).length := by rw [z_fl_len]; exact (List.getElem?_eq_some_iff.mp ht).1
  refine va_putF hx hb hts hin ty0 hty hnm hown hK hw.1 hw.2.1 hw.2.2 q0 hq hc i hi (hts _ hlink) hsame hfin hin2 hdecl hd hn hfit hlen hdg fun H1 locs1 hP hD hS => ?_
  have e := zW_set (cy := cy) (S' := zsQ S j a x) hw.2.1 hL hq0 rfl (fun b => by rw [← hj]; exact zF_setQ hk h13 ht b)
  rw [e] at hP hD
  exact kk H1 locs1 ⟨hP, hD, hS⟩
theorem z_putQN {maxL : Nat} {Ts : List Cond} {own ref C host : String} {T : u_T} {N k index i j : Nat} (ty0 : Nat → FieldType) (hcf : CallFix p m c cc maxL s args Ts own) (hK : zKK cD cy s) (hw : zPw cD cy A H0 S H locs) (hin : ∀ w ∈ u_ws C T N, w ∈ Ts) (hty : ∀ k, k < N → parseFieldDescriptor (T k).2.2.1 = some (ty0 k)) (hnm : ∀ a, a < N → ∀ b, b < N → a ≠ b → (T a).2.1 ≠ (T b).2.1) (hL : a ∈ zL S) (hk : zK S a = k) (hc : vwCl[k]? = some (C, T, N)) (hi : i < N) (h13 : k < 13) (hj : z_bs k + i = j) (ht : (z_ft k)[i]? = some 2) (hlink : va_Nw (.fieldLinkNest own index ref (T i).2.1 (T i).2.2.1 host) s) (hsame : ∀ x, s.fieldFound? (T i).1 (T i).2.1 (T i).2.2.1 = some x → s.fieldFound? ref (T i).2.1 (T i).2.2.1 = some x) (hfin : (T i).2.2.2 = false) {ty : FieldType} {x : Option Nat} {v : Value} (hv : va_rf x = v) (hd : parseFieldDescriptor (T i).2.2.1 = some ty) (hn : narrow ty v = v) (hfit : fits ty v = true) (hdg : decode cc pc = .ok (.putfield index, 3))
    (kk : ∀ (H1 : Heap) (locs1 : List Loc), zPw cD cy A H0 (zsQ S j a x) H1 locs1 → W p l e R s m args below meth c H1 locs1 cells slots Q (F0 m (pc + 3) ls rest)) : W p l e R s m args below meth c H locs cells slots Q (F0 m pc ls (v :: .ref a :: rest)) := by
  subst hv
  obtain ⟨q0, hq, hq0⟩ := z_obj hw hL hk h13
  obtain ⟨hx, hb, -, hown, hts⟩ := hcf
  have hlen : i < (z_fl S a (z_ft k) (z_bs k)).length := by rw [z_fl_len]; exact (List.getElem?_eq_some_iff.mp ht).1
  refine va_putN hx hb hts hin ty0 hty hnm hown hK hw.1 hw.2.1 hw.2.2 q0 hq hc i hi (va_Nw.use rfl hlink) hsame hfin hd hn hfit hlen hdg fun H1 locs1 hP hD hS => ?_
  have e := zW_set (cy := cy) (S' := zsQ S j a x) hw.2.1 hL hq0 rfl (fun b => by rw [← hj]; exact zF_setQ hk h13 ht b)
  rw [e] at hP hD
  exact kk H1 locs1 ⟨hP, hD, hS⟩
/-- arrays -/
theorem z_iald {maxL : Nat} {Ts : List Cond} {own : String} {n : Nat} {i : Int32} (hcf : CallFix p m c cc maxL s args Ts own) (hK : zKK cD cy s) (hw : zPw cD cy A H0 S H locs) (hL : a ∈ zL S) (hk : zK S a = 13) (hn : zN S a = n) (hin : vp_in i n) (hdg : decode cc pc = .ok (.iaload, 1))
    (kk : W p l e R s m args below meth c H locs cells slots Q (F0 m (pc + 1) ls (.int (zA S a i.toNatClampNeg) :: rest))) : W p l e R s m args below meth c H locs cells slots Q (F0 m pc ls (.int i :: .ref a :: rest)) := by
  obtain ⟨q0, hq⟩ := zW_get (cy := cy) hL
  rw [zF_i hk, hn] at hq
  exact va_iald hcf.1 hcf.2.1 hK hw.1 q0 0 hq rfl hin hdg kk
theorem z_lald {maxL : Nat} {Ts : List Cond} {own : String} {n : Nat} {i : Int32} (hcf : CallFix p m c cc maxL s args Ts own) (hK : zKK cD cy s) (hw : zPw cD cy A H0 S H locs) (hL : a ∈ zL S) (hk : zK S a = 14) (hn : zN S a = n) (hin : vp_in i n) (hdg : decode cc pc = .ok (.laload, 1))
    (kk : W p l e R s m args below meth c H locs cells slots Q (F0 m (pc + 1) ls (.long (zB S a i.toNatClampNeg) :: rest))) : W p l e R s m args below meth c H locs cells slots Q (F0 m pc ls (.int i :: .ref a :: rest)) := by
  obtain ⟨q0, hq⟩ := zW_get (cy := cy) hL
  rw [zF_l hk, hn] at hq
  exact va_lald hcf.1 hcf.2.1 hK hw.1 q0 1 hq rfl hin hdg kk
theorem z_pald {maxL : Nat} {Ts : List Cond} {own : String} {n : Nat} {i : Int32} (hcf : CallFix p m c cc maxL s args Ts own) (hK : zKK cD cy s) (hw : zPw cD cy A H0 S H locs) (hL : a ∈ zL S) (hk : zK S a = 15) (hn : zN S a = n) (hin : vp_in i n) {v : Value} (hv : va_rf (zR S a i.toNatClampNeg) = v) (hdg : decode cc pc = .ok (.aaload, 1))
    (kk : W p l e R s m args below meth c H locs cells slots Q (F0 m (pc + 1) ls (v :: rest))) : W p l e R s m args below meth c H locs cells slots Q (F0 m pc ls (.int i :: .ref a :: rest)) := by
  subst hv
  obtain ⟨q0, hq⟩ := zW_get (cy := cy) hL
  rw [zF_p hk, hn] at hq
  exact va_aldq hcf.1 hcf.2.1 hK hw.1 q0 2 hq rfl hin hdg kk
theorem z_qald {maxL : Nat} {Ts : List Cond} {own : String} {n : Nat} {i : Int32} (hcf : CallFix p m c cc maxL s args Ts own) (hK : zKK cD cy s) (hw : zPw cD cy A H0 S H locs) (hL : a ∈ zL S) (hk : zK S a = 16) (hn : zN S a = n) (hin : vp_in i n) {v : Value} (hv : va_rf (zR S a i.toNatClampNeg) = v) (hdg : decode cc pc = .ok (.aaload, 1))
    (kk : W p l e R s m args below meth c H locs cells slots Q (F0 m (pc + 1) ls (v :: rest))) : W p l e R s m args below meth c H locs cells slots Q (F0 m pc ls (.int i :: .ref a :: rest)) := by
  subst hv
  obtain ⟨q0, hq⟩ := zW_get (cy := cy) hL
  rw [zF_q hk, hn] at hq
  exact va_aldq hcf.1 hcf.2.1 hK hw.1 q0 3 hq rfl hin hdg kk
theorem z_iast {maxL : Nat} {Ts : List Cond} {own : String} {n : Nat} {i x : Int32} (hcf : CallFix p m c cc maxL s args Ts own) (hK : zKK cD cy s) (hw : zPw cD cy A H0 S H locs) (hL : a ∈ zL S) (hk : zK S a = 13) (hn : zN S a = n) (hin : vp_in i n) (hdg : decode cc pc = .ok (.iastore, 1))
    (kk : ∀ (H1 : Heap) (locs1 : List Loc), zPw cD cy A H0 (zsA S a (upd (zA S a) i.toNatClampNeg x)) H1 locs1 → W p l e R s m args below meth c H1 locs1 cells slots Q (F0 m (pc + 1) ls rest)) : W p l e R s m args below meth c H locs cells slots Q (F0 m pc ls (.int x :: .int i :: .ref a :: rest)) := by
  obtain ⟨q0, hq0⟩ := zW_get (cy := cy) hL
  have hq := hq0
  subst hn
  rw [zF_i hk] at hq
  refine va_iast hcf.1 hcf.2.1 hK hw.1 hw.2.1 hw.2.2 q0 0 hq rfl hin hdg fun H1 locs1 hP hD hS => ?_
  have e := zW_set (cy := cy) (S' := zsA S a (upd (zA S a) i.toNatClampNeg x)) hw.2.1 hL hq0 rfl (fun b => zF_setA hk b)
  rw [e] at hP hD
  exact kk H1 locs1 ⟨hP, hD, hS⟩
theorem z_last {maxL : Nat} {Ts : List Cond} {own : String} {n : Nat} {i : Int32} {x : Int64} (hcf : CallFix p m c cc maxL s args Ts own) (hK : zKK cD cy s) (hw : zPw cD cy A H0 S H locs) (hL : a ∈ zL S) (hk : zK S a = 14) (hn : zN S a = n) (hin : vp_in i n) (hdg : decode cc pc = .ok (.lastore, 1))
    (kk : ∀ (H1 : Heap) (locs1 : List Loc), zPw cD cy A H0 (zsB S a (vp_updL (zB S a) i.toNatClampNeg x)) H1 locs1 → W p l e R s m args below meth c H1 locs1 cells slots Q (F0 m (pc + 1) ls rest)) : W p l e R s m args below meth c H locs cells slots Q (F0 m pc ls (.long x :: .int i :: .ref a :: rest)) := by
  obtain ⟨q0, hq0⟩ := zW_get (cy := cy) hL
  have hq := hq0
  subst hn
  rw [zF_l hk] at hq
  refine va_last hcf.1 hcf.2.1 hK hw.1 hw.2.1 hw.2.2 q0 1 hq rfl hin hdg fun H1 locs1 hP hD hS => ?_
  have e := zW_set (cy := cy) (S' := zsB S a (vp_updL (zB S a) i.toNatClampNeg x)) hw.2.1 hL hq0 rfl (fun b => zF_setB hk b)
  rw [e] at hP hD
  exact kk H1 locs1 ⟨hP, hD, hS⟩
/-- a Shelf into the array of Shelves -/
theorem z_past {maxL : Nat} {Ts : List Cond} {own : String} {n v : Nat} {i : Int32} (hcf : CallFix p m c cc maxL s args Ts own) (hK : zKK cD cy s) (hw : zPw cD cy A H0 S H locs) (hL : a ∈ zL S) (hk : zK S a = 15) (hn : zN S a = n) (hLv : v ∈ zL S) (hkv : zK S v = 7) (hin : vp_in i n) (hdg : decode cc pc = .ok (.aastore, 1))
    (kk : ∀ (H1 : Heap) (locs1 : List Loc), zPw cD cy A H0 (zsR S a (va_up (zR S a) i.toNatClampNeg (some v))) H1 locs1 → W p l e R s m args below meth c H1 locs1 cells slots Q (F0 m (pc + 1) ls rest)) : W p l e R s m args below meth c H locs cells slots Q (F0 m pc ls (.ref v :: .int i :: .ref a :: rest)) := by
  obtain ⟨q0, hq0⟩ := zW_get (cy := cy) hL
  obtain ⟨qv, hqv, -⟩ := z_obj (cy := cy) hw hLv hkv (by decide)
  have hq := hq0
  subst hn
  rw [zF_p hk] at hq
  refine va_astq (ci := 7) (r := (RX7, TX7, 4)) hcf.1 hcf.2.1 hK hw.1 hw.2.1 hw.2.2 q0 2 qv hq rfl hqv rfl hin hdg fun H1 locs1 hP hD hS => ?_
  have e := zW_set (cy := cy) (S' := zsR S a (va_up (zR S a) i.toNatClampNeg (some v))) hw.2.1 hL hq0 rfl (fun b => zF_setP hk b)
  rw [e] at hP hD
  exact kk H1 locs1 ⟨hP, hD, hS⟩
/-- null into the array of Strips -/
theorem z_qastN {maxL : Nat} {Ts : List Cond} {own : String} {n : Nat} {i : Int32} (hcf : CallFix p m c cc maxL s args Ts own) (hK : zKK cD cy s) (hw : zPw cD cy A H0 S H locs) (hL : a ∈ zL S) (hk : zK S a = 16) (hn : zN S a = n) (hin : vp_in i n) (hdg : decode cc pc = .ok (.aastore, 1))
    (kk : ∀ (H1 : Heap) (locs1 : List Loc), zPw cD cy A H0 (zsR S a (va_up (zR S a) i.toNatClampNeg none)) H1 locs1 → W p l e R s m args below meth c H1 locs1 cells slots Q (F0 m (pc + 1) ls rest)) : W p l e R s m args below meth c H locs cells slots Q (F0 m pc ls (.null :: .int i :: .ref a :: rest)) := by
  obtain ⟨q0, hq0⟩ := zW_get (cy := cy) hL
  have hq := hq0
  subst hn
  rw [zF_q hk] at hq
  refine va_astqN hcf.1 hcf.2.1 hK hw.1 hw.2.1 hw.2.2 q0 3 hq rfl hin hdg fun H1 locs1 hP hD hS => ?_
  have e := zW_set (cy := cy) (S' := zsR S a (va_up (zR S a) i.toNatClampNeg none)) hw.2.1 hL hq0 rfl (fun b => zF_setR hk b)
  rw [e] at hP hD
  exact kk H1 locs1 ⟨hP, hD, hS⟩
theorem z_alen {maxL : Nat} {Ts : List Cond} {own : String} {n : Nat} {v : Int32} (hcf : CallFix p m c cc maxL s args Ts own) (hK : zKK cD cy s) (hw : zPw cD cy A H0 S H locs) (hL : a ∈ zL S) (hk : zK S a = 13 ∨ zK S a = 14 ∨ zK S a = 15 ∨ zK S a = 16) (hn : zN S a = n) (hv : Int32.ofNat n = v) (hdg : decode cc pc = .ok (.arraylength, 1))
    (kk : W p l e R s m args below meth c H locs cells slots Q (F0 m (pc + 1) ls (.int v :: rest))) : W p l e R s m args below meth c H locs cells slots Q (F0 m pc ls (.ref a :: rest)) := by
  obtain ⟨q0, hq⟩ := zW_get (cy := cy) hL
  rcases hk with hk | hk | hk | hk
  · rw [zF_i hk, hn] at hq
    exact va_alen hcf.1 hcf.2.1 hK hw.1 q0 0 hq (ty := .int) rfl hv hdg kk
  · rw [zF_l hk, hn] at hq
    exact va_alen hcf.1 hcf.2.1 hK hw.1 q0 1 hq (ty := .long) rfl hv hdg kk
  · rw [zF_p hk, hn] at hq
    exact va_alen hcf.1 hcf.2.1 hK hw.1 q0 2 hq (ty := .object "FoldedInHalf$Shelf") rfl hv hdg kk
  · rw [zF_q hk, hn] at hq
    exact va_alen hcf.1 hcf.2.1 hK hw.1 q0 3 hq (ty := .object "FoldedInHalf$Strip") rfl hv hdg kk
theorem z_tyI {cA : ClassId} (hK : va_K cD vwCl (z_tys cy ++ [(cA, .int)]) s) : cA = cy 0 := by
  have h1 := (hK.2 0 (cy 0, .int) rfl).2
  have h2 := (hK.2 4 (cA, .int) rfl).2
  exact (Option.some.inj ((show s.vm.findClass _ = some (cy 0) from h1).symm.trans h2)).symm
theorem z_tyL {cA : ClassId} (hK : va_K cD vwCl (z_tys cy ++ [(cA, .long)]) s) : cA = cy 1 := by
  have h1 := (hK.2 1 (cy 1, .long) rfl).2
  have h2 := (hK.2 4 (cA, .long) rfl).2
  exact (Option.some.inj ((show s.vm.findClass _ = some (cy 1) from h1).symm.trans h2)).symm
theorem z_tyP {cA : ClassId} (hK : va_K cD vwCl (z_tys cy ++ [(cA, .object "FoldedInHalf$Shelf")]) s) : cA = cy 2 := by
  obtain ⟨_, _, _, _, _, h1⟩ := (hK.2 2 (cy 2, .object "FoldedInHalf$Shelf") rfl).2
  obtain ⟨_, _, _, _, _, h2⟩ := (hK.2 4 (cA, .object "FoldedInHalf$Shelf") rfl).2
  exact (Option.some.inj (h1.symm.trans h2)).symm
theorem z_tyQ {cA : ClassId} (hK : va_K cD vwCl (z_tys cy ++ [(cA, .object "FoldedInHalf$Strip")]) s) : cA = cy 3 := by
  obtain ⟨_, _, _, _, _, h1⟩ := (hK.2 3 (cy 3, .object "FoldedInHalf$Strip") rfl).2
  obtain ⟨_, _, _, _, _, h2⟩ := (hK.2 4 (cA, .object "FoldedInHalf$Strip") rfl).2
  exact (Option.some.inj (h1.symm.trans h2)).symm
theorem z_newi {maxL N' : Nat} {Ts : List Cond} {own : String} {n : Int32} (hcf : CallFix p m c cc maxL s args Ts own) (hK : zKK cD cy s) (hw : zPw cD cy A H0 S H locs) (hA : ∀ q, H0.size ≤ q → A q) (harr : Cond.arrayClass .int ∈ Ts) (hn : ¬ n < 0) (hN : n.toNatClampNeg = N') (hbytes : N' * 4 ≤ 536870912) (hcells : cells + 1 ≤ R.cells) (hslots : slots + N' ≤ R.slots) (hdg : decode cc pc = .ok (.newarray .int, 2))
    (kk : ∀ (q : Nat) (H1 : Heap), q ∉ zL S → zPw cD cy A H0 (zNew S q 13 N') H1 locs → W p l e R s m args below meth c H1 locs (cells + 1) (slots + N') Q (F0 m (pc + 2) ls (.ref q :: rest))) : W p l e R s m args below meth c H locs cells slots Q (F0 m pc ls (.int n :: rest)) := by
  refine va_newa (atype := .int) (ty := .int) (a0 := (N', .inl (fun _ => 0))) hcf.1 hcf.2.1 (hcf.2.2.2.2 _ harr) rfl hK hw.1 hw.2.1 hw.2.2 hA (fun cA => rfl) hn hN hbytes hcells hslots hdg fun q cA H1 hK1 hP hD hS => ?_
  have hc := z_tyI hK1
  subst hc
  have hq : q ∉ zL S := va_pl_fresh2 (X := []) hD
  have e := zW_push (k := 13) (n := N') hD zF_newi
  rw [e] at hP hD
  exact kk q H1 hq ⟨hP, hD, hS⟩
theorem z_newl {maxL N' : Nat} {Ts : List Cond} {own : String} {n : Int32} (hcf : CallFix p m c cc maxL s args Ts own) (hK : zKK cD cy s) (hw : zPw cD cy A H0 S H locs) (hA : ∀ q, H0.size ≤ q → A q) (harr : Cond.arrayClass .long ∈ Ts) (hn : ¬ n < 0) (hN : n.toNatClampNeg = N') (hbytes : N' * 8 ≤ 536870912) (hcells : cells + 1 ≤ R.cells) (hslots : slots + N' ≤ R.slots) (hdg : decode cc pc = .ok (.newarray .long, 2))
    (kk : ∀ (q : Nat) (H1 : Heap), q ∉ zL S → zPw cD cy A H0 (zNew S q 14 N') H1 locs → W p l e R s m args below meth c H1 locs (cells + 1) (slots + N') Q (F0 m (pc + 2) ls (.ref q :: rest))) : W p l e R s m args below meth c H locs cells slots Q (F0 m pc ls (.int n :: rest)) := by
  refine va_newa (atype := .long) (ty := .long) (a0 := (N', .inr (.inl (fun _ => 0)))) hcf.1 hcf.2.1 (hcf.2.2.2.2 _ harr) rfl hK hw.1 hw.2.1 hw.2.2 hA (fun cA => rfl) hn hN hbytes hcells hslots hdg fun q cA H1 hK1 hP hD hS => ?_
  have hc := z_tyL hK1
  subst hc
  have hq : q ∉ zL S := va_pl_fresh2 (X := []) hD
  have e := zW_push (k := 14) (n := N') hD zF_newl
  rw [e] at hP hD
  exact kk q H1 hq ⟨hP, hD, hS⟩
theorem z_newp {maxL N' index : Nat} {Ts : List Cond} {own : String} {n : Int32} (hcf : CallFix p m c cc maxL s args Ts own) (hK : zKK cD cy s) (hE : zE s) (hw : zPw cD cy A H0 S H locs) (hA : ∀ q, H0.size ≤ q → A q) (hcl : Cond.classLink own index "FoldedInHalf$Shelf" ∈ Ts) (hn : ¬ n < 0) (hN : n.toNatClampNeg = N') (hbytes : N' * 4 ≤ 536870912) (hcells : cells + 1 ≤ R.cells) (hslots : slots + N' ≤ R.slots) (hdg : decode cc pc = .ok (.anewarray index, 3))
    (kk : ∀ (q : Nat) (H1 : Heap), q ∉ zL S → zPw cD cy A H0 (zNew S q 15 N') H1 locs → W p l e R s m args below meth c H1 locs (cells + 1) (slots + N') Q (F0 m (pc + 3) ls (.ref q :: rest))) : W p l e R s m args below meth c H locs cells slots Q (F0 m pc ls (.int n :: rest)) := by
  refine va_newq hcf.1 hcf.2.1 hcf.2.2.2.1 (hcf.2.2.2.2 _ hcl) hE.2.1 hK hw.1 hw.2.1 hw.2.2 hA hn hN hbytes hcells hslots hdg fun q cA H1 hK1 hP hD hS => ?_
  have hc := z_tyP hK1
  subst hc
  have hq : q ∉ zL S := va_pl_fresh2 (X := []) hD
  have e := zW_push (k := 15) (n := N') hD zF_newp
  rw [e] at hP hD
  exact kk q H1 hq ⟨hP, hD, hS⟩
theorem z_newq {maxL N' index : Nat} {Ts : List Cond} {own : String} {n : Int32} (hcf : CallFix p m c cc maxL s args Ts own) (hK : zKK cD cy s) (hE : zE s) (hw : zPw cD cy A H0 S H locs) (hA : ∀ q, H0.size ≤ q → A q) (hcl : Cond.classLink own index "FoldedInHalf$Strip" ∈ Ts) (hn : ¬ n < 0) (hN : n.toNatClampNeg = N') (hbytes : N' * 4 ≤ 536870912) (hcells : cells + 1 ≤ R.cells) (hslots : slots + N' ≤ R.slots) (hdg : decode cc pc = .ok (.anewarray index, 3))
    (kk : ∀ (q : Nat) (H1 : Heap), q ∉ zL S → zPw cD cy A H0 (zNew S q 16 N') H1 locs → W p l e R s m args below meth c H1 locs (cells + 1) (slots + N') Q (F0 m (pc + 3) ls (.ref q :: rest))) : W p l e R s m args below meth c H locs cells slots Q (F0 m pc ls (.int n :: rest)) := by
  refine va_newq hcf.1 hcf.2.1 hcf.2.2.2.1 (hcf.2.2.2.2 _ hcl) hE.2.2 hK hw.1 hw.2.1 hw.2.2 hA hn hN hbytes hcells hslots hdg fun q cA H1 hK1 hP hD hS => ?_
  have hc := z_tyQ hK1
  subst hc
  have hq : q ∉ zL S := va_pl_fresh2 (X := []) hD
  have e := zW_push (k := 16) (n := N') hD zF_newq
  rw [e] at hP hD
  exact kk q H1 hq ⟨hP, hD, hS⟩
/-- new: an object of kind k -/
theorem z_new {maxL k N index : Nat} {Ts : List Cond} {own C : String} {T : u_T} (ty : Nat → FieldType) (hcf : CallFix p m c cc maxL s args Ts own) (hK : zKK cD cy s) (hw : zPw cD cy A H0 S H locs) (hA : ∀ q, H0.size ≤ q → A q) (hin : ∀ w ∈ u_ws C T N, w ∈ Ts) (hty : ∀ k, k < N → parseFieldDescriptor (T k).2.2.1 = some (ty k)) (hcl : Cond.classLink own index C ∈ Ts) (hinst : Cond.instantiable C N ∈ Ts) (hini : Cond.initialized C ∈ Ts) (hc : vwCl[k]? = some (C, T, N)) (h13 : k < 13) (hfs : ∀ j, j < N → defaultValue (ty j) = vp_V ((z_ft k).map z_d) j) (hcells : cells + 1 ≤ R.cells) (hslots : slots + N ≤ R.slots) (hdg : decode cc pc = .ok (.new index, 3))
    (kk : ∀ (q : Nat) (H1 : Heap), q ∉ zL S → zPw cD cy A H0 (zNew S q k 0) H1 locs → W p l e R s m args below meth c H1 locs (cells + 1) (slots + N) Q (F0 m (pc + 3) ls (.ref q :: rest))) : W p l e R s m args below meth c H locs cells slots Q (F0 m pc ls rest) := by
  refine va_new (ci := k) (fs := (z_ft k).map z_d) hcf.1 hcf.2.1 hcf.2.2.2.2 hin ty hty hcf.2.2.2.1 (hcf.2.2.2.2 _ hcl) (hcf.2.2.2.2 _ hinst) (hcf.2.2.2.2 _ hini) hK hw.1 hw.2.1 hw.2.2 hA hc hfs hcells hslots hdg fun q H1 hP hD hS => ?_
  have hq : q ∉ zL S := va_pl_fresh2 (X := []) hD
  have e := zW_push (k := k) (n := 0) hD (zF_newo h13)
  rw [e] at hP hD
  exact kk q H1 hq ⟨hP, hD, hS⟩
/-- what a call gives back -/
theorem z_free (hw : zPw cD cy A H0 S H locs) (hA : ∀ q, H0.size ≤ q → A q) : ∀ q, zAd cy S H.size q → A q := by
  intro q h
  rcases h with ⟨k, e, h⟩ | h
  · exact hw.2.1.2 k (q, e) h
  · exact hA q (Nat.le_trans hw.2.2.1 h)
theorem z_back {S1 : zS} {H1 : Heap} {locs1 : List Loc} (hw : zPw cD cy A H0 S H locs) (hA : ∀ q, H0.size ≤ q → A q) (h1 : va_P cD vwCl (zW cy S1) H1) (h2 : va_D (zAd cy S H.size) (zW cy S1)) (h3 : va_S A H0 H1 locs1) : zPw cD cy A H0 S1 H1 locs1 :=
  ⟨h1, h2.weaken (fun k q _ h => z_free hw hA q.1 h), h3⟩
theorem z_ki {post : Int32 → zS → Prop} {mc ms : Nat} {av : Array Value} (hw : zPw cD cy A H0 S H locs) (hA : ∀ q, H0.size ≤ q → A q) (hr : va_Run p l e R s m args below meth c H locs cells slots mc ms (F0 m pc ls st0) rest (va_Qi post (zPost cD cy (zAd cy S H.size)) (zAd cy S H.size) av) (zAd cy S H.size))
    (kk : ∀ (r : Int32) (S1 : zS) (H1 : Heap) (locs1 : List Loc), post r S1 → zPw cD cy A H0 S1 H1 locs1 → W p l e R s m args below meth c H1 locs1 (cells + mc) (slots + ms) Q (F0 m (pc + 3) ls (.int r :: rest))) : W p l e R s m args below meth c H locs cells slots Q (F0 m pc ls st0) :=
  va_calli hr hw.2.2 (fun q _ h => z_free hw hA q h) (z_free hw hA) fun r u t H1 locs1 ht _ hp hB _ _ hS => kk r u H1 locs1 hp (z_back hw hA (by rw [← ht]; exact hB.1) hB.2 hS)
theorem z_kl {post : Int64 → zS → Prop} {mc ms : Nat} {av : Array Value} (hw : zPw cD cy A H0 S H locs) (hA : ∀ q, H0.size ≤ q → A q) (hr : va_Run p l e R s m args below meth c H locs cells slots mc ms (F0 m pc ls st0) rest (va_Ql post (zPost cD cy (zAd cy S H.size)) (zAd cy S H.size) av) (zAd cy S H.size))
    (kk : ∀ (r : Int64) (S1 : zS) (H1 : Heap) (locs1 : List Loc), post r S1 → zPw cD cy A H0 S1 H1 locs1 → W p l e R s m args below meth c H1 locs1 (cells + mc) (slots + ms) Q (F0 m (pc + 3) ls (.long r :: rest))) : W p l e R s m args below meth c H locs cells slots Q (F0 m pc ls st0) :=
  va_calll hr hw.2.2 (fun q _ h => z_free hw hA q h) (z_free hw hA) fun r u t H1 locs1 ht _ hp hB _ _ hS => kk r u H1 locs1 hp (z_back hw hA (by rw [← ht]; exact hB.1) hB.2 hS)
theorem z_kv {post : zS → Prop} {mc ms : Nat} {av : Array Value} (hw : zPw cD cy A H0 S H locs) (hA : ∀ q, H0.size ≤ q → A q) (hr : va_Run p l e R s m args below meth c H locs cells slots mc ms (F0 m pc ls st0) rest (va_Qv post (zPost cD cy (zAd cy S H.size)) (zAd cy S H.size) av) (zAd cy S H.size))
    (kk : ∀ (S1 : zS) (H1 : Heap) (locs1 : List Loc), post S1 → zPw cD cy A H0 S1 H1 locs1 → W p l e R s m args below meth c H1 locs1 (cells + mc) (slots + ms) Q (F0 m (pc + 3) ls rest)) : W p l e R s m args below meth c H locs cells slots Q (F0 m pc ls st0) :=
  va_callv hr hw.2.2 (fun q _ h => z_free hw hA q h) (z_free hw hA) fun u t H1 locs1 ht _ hp hB _ _ hS => kk u H1 locs1 hp (z_back hw hA (by rw [← ht]; exact hB.1) hB.2 hS)
theorem z_kq {post : Option Nat → zS → Prop} {mc ms : Nat} {av : Array Value} (hw : zPw cD cy A H0 S H locs) (hA : ∀ q, H0.size ≤ q → A q) (hr : va_Run p l e R s m args below meth c H locs cells slots mc ms (F0 m pc ls st0) rest (va_Qq post (zPost cD cy (zAd cy S H.size)) (zAd cy S H.size) av) (zAd cy S H.size))
    (kk : ∀ (r : Option Nat) (S1 : zS) (H1 : Heap) (locs1 : List Loc), post r S1 → zPw cD cy A H0 S1 H1 locs1 → W p l e R s m args below meth c H1 locs1 (cells + mc) (slots + ms) Q (F0 m (pc + 3) ls (va_rf r :: rest))) : W p l e R s m args below meth c H locs cells slots Q (F0 m pc ls st0) :=
  va_callq hr hw.2.2 (fun q _ h => z_free hw hA q h) (z_free hw hA) fun r u t H1 locs1 ht _ hp hB _ _ hS => kk r u H1 locs1 hp (z_back hw hA (by rw [← ht]; exact hB.1) hB.2 hS)
/-- what a call asks of the world -/
theorem z_wld {xs : Nat → Nat} (hK : zKK cD cy s) (hE : zE s) (hZ : zH xs A s s.heap) (hw : zPw cD cy A s.heap S H locs) (hA : ∀ q, s.heap.size ≤ q → A q) {U : State} (hU : U.heap = H) (hW : s.WarmedH U.vm) : zPre xs cD cy S H.size U :=
  ⟨by rw [hU], by rw [hU]; exact hw.1, va_K.moved hW.alike hK, hw.2.1.weaken (fun _ _ _ _ => trivial), zE.warm hW hE, by rw [hU]; exact ((hZ.kept (fun a h1 h2 => hw.2.2.2.1 a h1 h2)).narrow (z_free hw hA)).warm hW⟩
theorem z_preV {xs : Nat → Nat} {k b : Nat} {As : List Value} {C : String} {T : u_T} {N : Nat} (hK : zKK cD cy s) (hE : zE s) (hZ : zH xs A s s.heap) (hw : zPw cD cy A s.heap S H locs) (hA : ∀ q, s.heap.size ≤ q → A q) (hL : b ∈ zL S) (hk : zK S b = k) (h13 : k < 13) (hc : vwCl[k]? = some (C, T, N)) : PreV s H C b (va_Pc (Value.ref b :: As) (zPre xs cD cy S H.size)) As :=
  ⟨zPre_blind, z_recv hK hw hL hk h13 hc, fun U hU hW => ⟨rfl, z_wld hK hE hZ hw hA hU hW⟩⟩
theorem z_preS {xs : Nat → Nat} {As : List Value} (hK : zKK cD cy s) (hE : zE s) (hZ : zH xs A s s.heap) (hw : zPw cD cy A s.heap S H locs) (hA : ∀ q, s.heap.size ≤ q → A q) : PreS s H (va_Pc As (zPre xs cD cy S H.size)) As :=
  ⟨zPre_blind, fun U hU hW => ⟨rfl, z_wld hK hE hZ hw hA hU hW⟩⟩
/-- the ends -/
theorem z_iret {post : Int32 → zS → Prop} {maxL : Nat} {Ts : List Cond} {own : String} {v : Int32} {ty : FieldType} (hcf : CallFix p m c cc maxL s args Ts own) (hr : meth.sig.returnType = some ty) (hn : narrow ty (.int v) = .int v) (hlk : meth.locks = false) (hw : zPw cD cy A s.heap S H locs) (hp : post v S) (hdg : decode cc pc = .ok (.ireturn, 1)) : W p l e R s m args below meth c H locs cells slots (MQ below (va_Qi post (zPost cD cy A) A) args s cells slots A) (F0 m pc ls [.int v]) :=
  W.zret hcf.1 hcf.2.1 hr hn (fun t ht hW => ⟨⟨v, S, rfl, hp, by rw [ht]; exact hw.1, hw.2.1⟩, hw.2.2.F ht⟩) hw.2.2.2.2 hdg hlk
theorem z_lret {post : Int64 → zS → Prop} {maxL : Nat} {Ts : List Cond} {own : String} {v : Int64} (hcf : CallFix p m c cc maxL s args Ts own) (hr : meth.sig.returnType = some .long) (hlk : meth.locks = false) (hw : zPw cD cy A s.heap S H locs) (hp : post v S) (hdg : decode cc pc = .ok (.lreturn, 1)) : W p l e R s m args below meth c H locs cells slots (MQ below (va_Ql post (zPost cD cy A) A) args s cells slots A) (F0 m pc ls [.long v]) :=
  W.lret hcf.1 hcf.2.1 hr (fun t ht hW => ⟨⟨v, S, rfl, hp, by rw [ht]; exact hw.1, hw.2.1⟩, hw.2.2.F ht⟩) hw.2.2.2.2 hdg hlk
theorem z_vret {post : zS → Prop} {maxL : Nat} {Ts : List Cond} {own : String} (hcf : CallFix p m c cc maxL s args Ts own) (hr : meth.sig.returnType = none) (hlk : meth.locks = false) (hw : zPw cD cy A s.heap S H locs) (hp : post S) (hdg : decode cc pc = .ok (.return_, 1)) : W p l e R s m args below meth c H locs cells slots (MQ below (va_Qv post (zPost cD cy A) A) args s cells slots A) (F0 m pc ls []) :=
  W.vret hcf.1 hcf.2.1 hr (fun t ht hW => ⟨⟨S, rfl, hp, by rw [ht]; exact hw.1, hw.2.1⟩, hw.2.2.F ht⟩) hw.2.2.2.2 hdg hlk
theorem z_aret {post : Option Nat → zS → Prop} {maxL : Nat} {Ts : List Cond} {own n : String} {v : Option Nat} (hcf : CallFix p m c cc maxL s args Ts own) (hr : meth.sig.returnType = some (.object n)) (hlk : meth.locks = false) (hw : zPw cD cy A s.heap S H locs) (hp : post v S) (hdg : decode cc pc = .ok (.areturn, 1)) : W p l e R s m args below meth c H locs cells slots (MQ below (va_Qq post (zPost cD cy A) A) args s cells slots A) (F0 m pc ls [va_rf v]) :=
  W.aret hcf.1 hcf.2.1 hr (Or.inl ⟨n, rfl⟩) (va_rf_or v) (fun t ht hW => ⟨⟨v, S, rfl, hp, by rw [ht]; exact hw.1, hw.2.1⟩, hw.2.2.F ht⟩) hw.2.2.2.2 hdg hlk
theorem z_lc_eq (hcx : p.tables.exec = Jvm.exec) (hb : c.code = cc) {x y : Int64} {off : Int} {tgt : Nat} (hdg : decode cc pc = .ok (.lcmp, 1)) (hdg2 : decode cc (pc + 1) = .ok (.ifCond .eq off, 3)) (ht : ((pc + 1 : Nat) : Int) + off = (tgt : Int)) (kt : x = y → W p l e R s m args below meth c H locs cells slots Q (F0 m tgt ls rest)) (kf : ¬ (x = y) → W p l e R s m args below meth c H locs cells slots Q (F0 m (pc + 1 + 3) ls rest)) : W p l e R s m args below meth c H locs cells slots Q (F0 m pc ls (.long y :: .long x :: rest)) :=
  W.lcmp hcx hb hdg (lv_if_eq hcx hb hdg2 ht (fun h => (kt ((lg_cmp_eq x y).mp h))) (fun h => (kf (fun q => h ((lg_cmp_eq x y).mpr q)))))
theorem z_lc_ne (hcx : p.tables.exec = Jvm.exec) (hb : c.code = cc) {x y : Int64} {off : Int} {tgt : Nat} (hdg : decode cc pc = .ok (.lcmp, 1)) (hdg2 : decode cc (pc + 1) = .ok (.ifCond .ne off, 3)) (ht : ((pc + 1 : Nat) : Int) + off = (tgt : Int)) (kt : ¬ x = y → W p l e R s m args below meth c H locs cells slots Q (F0 m tgt ls rest)) (kf : x = y → W p l e R s m args below meth c H locs cells slots Q (F0 m (pc + 1 + 3) ls rest)) : W p l e R s m args below meth c H locs cells slots Q (F0 m pc ls (.long y :: .long x :: rest)) :=
  W.lcmp hcx hb hdg (lv_if_ne hcx hb hdg2 ht (fun h => (kt (fun q => h ((lg_cmp_eq x y).mpr q)))) (fun h => (kf ((lg_cmp_eq x y).mp h))))
theorem z_lc_lt (hcx : p.tables.exec = Jvm.exec) (hb : c.code = cc) {x y : Int64} {off : Int} {tgt : Nat} (hdg : decode cc pc = .ok (.lcmp, 1)) (hdg2 : decode cc (pc + 1) = .ok (.ifCond .lt off, 3)) (ht : ((pc + 1 : Nat) : Int) + off = (tgt : Int)) (kt : x < y → W p l e R s m args below meth c H locs cells slots Q (F0 m tgt ls rest)) (kf : ¬ (x < y) → W p l e R s m args below meth c H locs cells slots Q (F0 m (pc + 1 + 3) ls rest)) : W p l e R s m args below meth c H locs cells slots Q (F0 m pc ls (.long y :: .long x :: rest)) :=
  W.lcmp hcx hb hdg (lv_if_lt hcx hb hdg2 ht (fun h => (kt ((lg_cmp_lt x y).mp h))) (fun h => (kf (fun q => h ((lg_cmp_lt x y).mpr q)))))
theorem z_lc_ge (hcx : p.tables.exec = Jvm.exec) (hb : c.code = cc) {x y : Int64} {off : Int} {tgt : Nat} (hdg : decode cc pc = .ok (.lcmp, 1)) (hdg2 : decode cc (pc + 1) = .ok (.ifCond .ge off, 3)) (ht : ((pc + 1 : Nat) : Int) + off = (tgt : Int)) (kt : y ≤ x → W p l e R s m args below meth c H locs cells slots Q (F0 m tgt ls rest)) (kf : ¬ (y ≤ x) → W p l e R s m args below meth c H locs cells slots Q (F0 m (pc + 1 + 3) ls rest)) : W p l e R s m args below meth c H locs cells slots Q (F0 m pc ls (.long y :: .long x :: rest)) :=
  W.lcmp hcx hb hdg (lv_if_ge hcx hb hdg2 ht (fun h => (kt ((lg_cmp_ge x y).mp h))) (fun h => (kf (fun q => h ((lg_cmp_ge x y).mpr q)))))
theorem z_lc_gt (hcx : p.tables.exec = Jvm.exec) (hb : c.code = cc) {x y : Int64} {off : Int} {tgt : Nat} (hdg : decode cc pc = .ok (.lcmp, 1)) (hdg2 : decode cc (pc + 1) = .ok (.ifCond .gt off, 3)) (ht : ((pc + 1 : Nat) : Int) + off = (tgt : Int)) (kt : y < x → W p l e R s m args below meth c H locs cells slots Q (F0 m tgt ls rest)) (kf : ¬ (y < x) → W p l e R s m args below meth c H locs cells slots Q (F0 m (pc + 1 + 3) ls rest)) : W p l e R s m args below meth c H locs cells slots Q (F0 m pc ls (.long y :: .long x :: rest)) :=
  W.lcmp hcx hb hdg (lv_if_gt hcx hb hdg2 ht (fun h => (kt ((lg_cmp_gt x y).mp h))) (fun h => (kf (fun q => h ((lg_cmp_gt x y).mpr q)))))
theorem z_lc_le (hcx : p.tables.exec = Jvm.exec) (hb : c.code = cc) {x y : Int64} {off : Int} {tgt : Nat} (hdg : decode cc pc = .ok (.lcmp, 1)) (hdg2 : decode cc (pc + 1) = .ok (.ifCond .le off, 3)) (ht : ((pc + 1 : Nat) : Int) + off = (tgt : Int)) (kt : x ≤ y → W p l e R s m args below meth c H locs cells slots Q (F0 m tgt ls rest)) (kf : ¬ (x ≤ y) → W p l e R s m args below meth c H locs cells slots Q (F0 m (pc + 1 + 3) ls rest)) : W p l e R s m args below meth c H locs cells slots Q (F0 m pc ls (.long y :: .long x :: rest)) :=
  W.lcmp hcx hb hdg (lv_if_le hcx hb hdg2 ht (fun h => (kt ((lg_cmp_le x y).mp h))) (fun h => (kf (fun q => h ((lg_cmp_le x y).mpr q)))))
end ZR
