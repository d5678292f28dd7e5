/-! the rules of links, from the tables' words -/
theorem gi_ws {Ts : List Cond} (h : ∀ w ∈ TB, w ∈ Ts) {k : List Cond} {w : Cond} (hl : ∀ z ∈ k, z ∈ TB) (hc : w ∈ TB) : GoodIn Ts (k ++ (w :: TB)) := fun z hz => by
  have hz2 : z ∈ TB := by
    rcases List.mem_append.mp hz with q | q
    · exact hl z q
    · rcases List.mem_cons.mp q with q | q
      · rw [q]; exact hc
      · exact q
  exact ⟨h z hz2, TB_good z hz2⟩
theorem gi_w0 {Ts : List Cond} (h : ∀ w ∈ TB, w ∈ Ts) {w : Cond} (hc : w ∈ TB) : GoodIn Ts (w :: TB) := gi_ws (k := []) h (fun z hz => by cases hz) hc
section LNK
variable {own ref C owner : String} {T : u_T} {N k idx i n : Nat} {x y : MethodName} {cc' : ByteArray} {maxL' : Nat} {ret' : Option FieldType}
theorem md_m {A B : String} {y : MethodName} (h : ∃ d, parseMethodDescriptor y.desc = d ∧ d.map (fun d => d.parameters.length) = some n) : (parseMethodDescriptor y.desc).map (fun d => d.parameters.length) = some n := by
  obtain ⟨d, h1, h2⟩ := h
  rw [h1]; exact h2
theorem rc_V (m1 : Cond.methodLink own idx y ∈ TB) (m2 : Cond.instanceMethod y ∈ TB) (m3 : Cond.selects C y y ∈ TB) (m4 : Cond.initialized C ∈ TB) (m5 : Cond.code y cc' maxL' ret' ∈ TB) (hd : y.cls = C ∧ y.cls ≠ "java/lang/invoke/MethodHandle" ∧ y.cls ≠ "java/lang/invoke/VarHandle" ∧ (parseMethodDescriptor y.desc).map (fun d => d.parameters.length) = some n) (hk : k < 13) (hc : vwCl[k]? = some (C, T, N)) : RCall own 2 idx (n + 1) k y cc' maxL' ret' := by
  intro p l e R s m args below meth c H locs cells slots xs cD cy A cc nL Ts S pc ls rest As Qc rm mc ms free hM hw hn hr hMet h1 h2 h3 h4 h5 hdd h6 h7
  obtain ⟨hcf, htb, hK, hE, hZ, hA⟩ := hM
  rcases hr with rfl | ⟨_, b, r, rfl, hL, hkb⟩ | ⟨hx, _⟩
  · omega
  · rw [show (Value.ref b :: r).reverse ++ rest = r.reverse ++ .ref b :: rest by simp]
    refine va_runV (As := r) hcf hMet (cwV n hcf.2.2.2.2 (gi_ws (k := [.methodLink own idx y, .instanceMethod y, .selects C y y, .initialized C]) htb (fun z hz => ?_) m5) rfl h1 h2 hd ⟨h3, h4⟩) (z_preV hK hE hZ hw hA hL hkb hk hc) rfl (by simpa using hn) h7 rfl (by show 2 * 0 + _ ≤ 8; omega) hdd h6
    simp only [List.mem_cons, List.not_mem_nil, or_false] at hz
    rcases hz with rfl | rfl | rfl | rfl
    · exact m1
    · exact m2
    · exact m3
    · exact m4
  · omega
theorem rc_VN {host : String} (m1 : Cond.methodLinkNest own idx y host ∈ tables_1) (m2 : Cond.instanceMethod y ∈ TB) (m3 : Cond.selects C y y ∈ TB) (m4 : Cond.initialized y.cls ∈ TB) (m5 : Cond.code y cc' maxL' ret' ∈ TB) (hd : y.cls ≠ "java/lang/invoke/MethodHandle" ∧ y.cls ≠ "java/lang/invoke/VarHandle" ∧ (parseMethodDescriptor y.desc).map (fun d => d.parameters.length) = some n) (hk : k < 13) (hc : vwCl[k]? = some (C, T, N)) : RCall own 2 idx (n + 1) k y cc' maxL' ret' := by
  intro p l e R s m args below meth c H locs cells slots xs cD cy A cc nL Ts S pc ls rest As Qc rm mc ms free hM hw hn hr hMet h1 h2 h3 h4 h5 hdd h6 h7
  obtain ⟨hcf, htb, hK, hE, hZ, hA⟩ := hM
  rcases hr with rfl | ⟨_, b, r, rfl, hL, hkb⟩ | ⟨hx, _⟩
  · omega
  · rw [show (Value.ref b :: r).reverse ++ rest = r.reverse ++ .ref b :: rest by simp]
    exact va_runVN (As := r) hcf hMet ⟨va_cnB n hcf.2.2.2.2 (gi_w0 htb m5) rfl h1 h2 (zE.nw hE m1 rfl) (hcf.2.2.2.2 _ (htb _ m4)) hd ⟨h3, h4⟩, hcf.2.2.2.2 _ (htb _ m2), hcf.2.2.2.2 _ (htb _ m3)⟩ (z_preV hK hE hZ hw hA hL hkb hk hc) rfl (by simpa using hn) h7 rfl (by show 2 * 0 + _ ≤ 8; omega) hdd h6
  · omega
theorem rc_U (m1 : Cond.methodLink own idx x ∈ TB) (m6 : Cond.sameMethod x.cls owner x.name x.desc ∈ TB) (m3 : Cond.selects C x y ∈ TB) (m2 : Cond.instanceMethod y ∈ TB) (m4 : Cond.initialized y.cls ∈ TB) (m5 : Cond.code y cc' maxL' ret' ∈ TB) (hyx : y = ⟨owner, x.name, x.desc⟩) (hd : owner ≠ "java/lang/invoke/MethodHandle" ∧ owner ≠ "java/lang/invoke/VarHandle" ∧ (parseMethodDescriptor x.desc).map (fun d => d.parameters.length) = some n) (hk : k < 13) (hc : vwCl[k]? = some (C, T, N)) : RCall own 2 idx (n + 1) k y cc' maxL' ret' := by
  intro p l e R s m args below meth c H locs cells slots xs cD cy A cc nL Ts S pc ls rest As Qc rm mc ms free hM hw hn hr hMet h1 h2 h3 h4 h5 hdd h6 h7
  obtain ⟨hcf, htb, hK, hE, hZ, hA⟩ := hM
  rcases hr with rfl | ⟨_, b, r, rfl, hL, hkb⟩ | ⟨hx, _⟩
  · omega
  · rw [show (Value.ref b :: r).reverse ++ rest = r.reverse ++ .ref b :: rest by simp]
    refine va_runU (As := r) hcf hMet (va_cwU n hcf.2.2.2.2 (gi_ws (k := [.methodLink own idx x, .sameMethod x.cls owner x.name x.desc, .selects C x y, .instanceMethod y, .initialized y.cls]) htb (fun z hz => ?_) m5) rfl h1 h2 hyx hd ⟨h3, h4⟩) (z_preV hK hE hZ hw hA hL hkb hk hc) rfl (by simpa using hn) h7 rfl (by show 2 * 0 + _ ≤ 8; omega) hdd h6
    simp only [List.mem_cons, List.not_mem_nil, or_false] at hz
    rcases hz with rfl | rfl | rfl | rfl | rfl
    · exact m1
    · exact m6
    · exact m3
    · exact m2
    · exact m4
  · omega
theorem rc_O {b0 : ByteArray} {m0 : Nat} {r0 : Option FieldType} (m1 : Cond.methodLink own idx x ∈ TB) (m6 : Cond.sameMethod x.cls owner x.name x.desc ∈ TB) (m7 : Cond.instanceMethod ⟨owner, x.name, x.desc⟩ ∈ TB) (m3 : Cond.selects C x y ∈ TB) (m2 : Cond.instanceMethod y ∈ TB) (m4 : Cond.initialized y.cls ∈ TB) (m5 : Cond.code y cc' maxL' ret' ∈ TB) (m8 : Cond.code ⟨owner, x.name, x.desc⟩ b0 m0 r0 ∈ TB) (hd : owner ≠ "java/lang/invoke/MethodHandle" ∧ owner ≠ "java/lang/invoke/VarHandle" ∧ (parseMethodDescriptor x.desc).map (fun d => d.parameters.length) = some n) (hk : k < 13) (hc : vwCl[k]? = some (C, T, N)) : RCall own 2 idx (n + 1) k y cc' maxL' ret' := by
  intro p l e R s m args below meth c H locs cells slots xs cD cy A cc nL Ts S pc ls rest As Qc rm mc ms free hM hw hn hr hMet h1 h2 h3 h4 h5 hdd h6 h7
  obtain ⟨hcf, htb, hK, hE, hZ, hA⟩ := hM
  rcases hr with rfl | ⟨_, b, r, rfl, hL, hkb⟩ | ⟨hx, _⟩
  · omega
  · rw [show (Value.ref b :: r).reverse ++ rest = r.reverse ++ .ref b :: rest by simp]
    refine va_runU (As := r) hcf hMet (va_cwO n hcf.2.2.2.2 (gi_ws (k := [.methodLink own idx x, .sameMethod x.cls owner x.name x.desc, .instanceMethod ⟨owner, x.name, x.desc⟩, .selects C x y, .instanceMethod y, .initialized y.cls]) htb (fun z hz => ?_) m5) rfl h1 h2 (htb _ m8) hd ⟨h3, h4⟩) (z_preV hK hE hZ hw hA hL hkb hk hc) rfl (by simpa using hn) h7 rfl (by show 2 * 0 + _ ≤ 8; omega) hdd h6
    simp only [List.mem_cons, List.not_mem_nil, or_false] at hz
    rcases hz with rfl | rfl | rfl | rfl | rfl | rfl
    · exact m1
    · exact m6
    · exact m7
    · exact m3
    · exact m2
    · exact m4
  · omega
theorem rc_S (m1 : Cond.methodLink own idx y ∈ TB) (m2 : Cond.static y ∈ TB) (m4 : Cond.initialized y.cls ∈ TB) (m5 : Cond.code y cc' maxL' ret' ∈ TB) (hd : y.cls ≠ "java/lang/invoke/MethodHandle" ∧ y.cls ≠ "java/lang/invoke/VarHandle" ∧ (parseMethodDescriptor y.desc).map (fun d => d.parameters.length) = some n) : RCall own 0 idx n 99 y cc' maxL' ret' := by
  intro p l e R s m args below meth c H locs cells slots xs cD cy A cc nL Ts S pc ls rest As Qc rm mc ms free hM hw hn hr hMet h1 h2 h3 h4 h5 hdd h6 h7
  obtain ⟨hcf, htb, hK, hE, hZ, hA⟩ := hM
  refine va_runS (As := As) hcf hMet (va_cwS n hcf.2.2.2.2 (gi_ws (k := [.methodLink own idx y, .static y, .initialized y.cls]) htb (fun z hz => ?_) m5) rfl h1 h2 hd ⟨h3, h4⟩) (z_preS hK hE hZ hw hA) rfl hn h7 rfl (by show 2 * 0 + _ ≤ 8; omega) hdd h6
  simp only [List.mem_cons, List.not_mem_nil, or_false] at hz
  rcases hz with rfl | rfl | rfl
  · exact m1
  · exact m2
  · exact m4
theorem rc_SN {host : String} (m1 : Cond.methodLinkNest own idx y host ∈ tables_1) (m2 : Cond.static y ∈ TB) (m4 : Cond.initialized y.cls ∈ TB) (m5 : Cond.code y cc' maxL' ret' ∈ TB) (hd : y.cls ≠ "java/lang/invoke/MethodHandle" ∧ y.cls ≠ "java/lang/invoke/VarHandle" ∧ (parseMethodDescriptor y.desc).map (fun d => d.parameters.length) = some n) : RCall own 0 idx n 99 y cc' maxL' ret' := by
  intro p l e R s m args below meth c H locs cells slots xs cD cy A cc nL Ts S pc ls rest As Qc rm mc ms free hM hw hn hr hMet h1 h2 h3 h4 h5 hdd h6 h7
  obtain ⟨hcf, htb, hK, hE, hZ, hA⟩ := hM
  exact va_runSN (As := As) hcf hMet ⟨va_cnB n hcf.2.2.2.2 (gi_w0 htb m5) rfl h1 h2 (zE.nw hE m1 rfl) (hcf.2.2.2.2 _ (htb _ m4)) hd ⟨h3, h4⟩, hcf.2.2.2.2 _ (htb _ m2), trivial⟩ (z_preS hK hE hZ hw hA) rfl hn h7 rfl (by show 2 * 0 + _ ≤ 8; omega) hdd h6
theorem zK_at {cD : va_G} {cy : Nat → ClassId} {s : State} (hK : zKK cD cy s) (hc : vwCl[k]? = some (C, T, N)) : ClassAt s C (cD.1 k) := (hK.1 k _ hc).2
theorem rc_I (m1 : Cond.methodLink own idx y ∈ TB) (m2 : Cond.instanceMethod y ∈ TB) (m4 : Cond.initialized y.cls ∈ TB) (m5 : Cond.code y cc' maxL' none ∈ TB) (hy : y.name = "<init>") (hd : y.cls ≠ "java/lang/invoke/MethodHandle" ∧ y.cls ≠ "java/lang/invoke/VarHandle" ∧ (parseMethodDescriptor y.desc).map (fun d => d.parameters.length) = some n) (hk : k < 13) : RCall own 1 idx (n + 1) k y cc' maxL' none := by
  intro p l e R s m args below meth c H locs cells slots xs cD cy A cc nL Ts S pc ls rest As Qc rm mc ms free hM hw hn hr hMet h1 h2 h3 h4 h5 hdd h6 h7
  obtain ⟨hcf, htb, hK, hE, hZ, hA⟩ := hM
  rcases hr with rfl | ⟨_, b, r, rfl, hL, hkb⟩ | ⟨hx, _⟩
  · omega
  · rw [show (Value.ref b :: r).reverse ++ rest = r.reverse ++ .ref b :: rest by simp]
    exact va_runI (As := r) hcf hMet (cwI n hcf.2.2.2.2 (gi_w0 htb m5) rfl h1 h2 (hcf.2.2.2.2 _ (htb _ m4)) (hcf.2.2.2.2 _ (htb _ m1)) (hcf.2.2.2.2 _ (htb _ m2)) hy hd ⟨h3, h4⟩) (z_preS hK hE hZ hw hA) rfl (by simpa using hn) h7 rfl (by show 2 * 0 + _ ≤ 8; omega) hdd h6
  · omega
theorem rc_IN {host : String} (m1 : Cond.methodLinkNest own idx y host ∈ tables_1) (m2 : Cond.instanceMethod y ∈ TB) (m4 : Cond.initialized y.cls ∈ TB) (m5 : Cond.code y cc' maxL' none ∈ TB) (hy : y.name = "<init>") (hd : y.cls ≠ "java/lang/invoke/MethodHandle" ∧ y.cls ≠ "java/lang/invoke/VarHandle" ∧ (parseMethodDescriptor y.desc).map (fun d => d.parameters.length) = some n) (hk : k < 13) : RCall own 1 idx (n + 1) k y cc' maxL' none := by
  intro p l e R s m args below meth c H locs cells slots xs cD cy A cc nL Ts S pc ls rest As Qc rm mc ms free hM hw hn hr hMet h1 h2 h3 h4 h5 hdd h6 h7
  obtain ⟨hcf, htb, hK, hE, hZ, hA⟩ := hM
  rcases hr with rfl | ⟨_, b, r, rfl, hL, hkb⟩ | ⟨hx, _⟩
  · omega
  · rw [show (Value.ref b :: r).reverse ++ rest = r.reverse ++ .ref b :: rest by simp]
    exact va_runIN (As := r) hcf hMet ⟨va_cnB n hcf.2.2.2.2 (gi_w0 htb m5) rfl h1 h2 (zE.nw hE m1 rfl) (hcf.2.2.2.2 _ (htb _ m4)) hd ⟨h3, h4⟩, hy, hcf.2.2.2.2 _ (htb _ m2)⟩ (z_preS hK hE hZ hw hA) rfl (by simpa using hn) h7 rfl (by show 2 * 0 + _ ≤ 8; omega) hdd h6
  · omega
theorem rc_SU (m1 : Cond.methodLink own idx y ∈ TB) (m6 : Cond.sameMethod y.cls y.cls y.name y.desc ∈ TB) (m7 : Cond.superclass own y.cls ∈ TB) (m2 : Cond.instanceMethod y ∈ TB) (m4 : Cond.initialized y.cls ∈ TB) (m5 : Cond.code y cc' maxL' ret' ∈ TB) (hd : y.name ≠ "<init>" ∧ (parseMethodDescriptor y.desc).map (fun d => d.parameters.length) = some n) (hk : k < 13) (hc : vwCl[k]? = some (C, T, N)) : RCall own 1 idx (n + 1) k y cc' maxL' ret' := by
  intro p l e R s m args below meth c H locs cells slots xs cD cy A cc nL Ts S pc ls rest As Qc rm mc ms free hM hw hn hr hMet h1 h2 h3 h4 h5 hdd h6 h7
  obtain ⟨hcf, htb, hK, hE, hZ, hA⟩ := hM
  rcases hr with rfl | ⟨_, b, r, rfl, hL, hkb⟩ | ⟨hx, _⟩
  · omega
  · rw [show (Value.ref b :: r).reverse ++ rest = r.reverse ++ .ref b :: rest by simp]
    refine va_runSU (As := r) (zK_at hK hc) hcf hMet (va_cwSU n hcf.2.2.2.2 (gi_ws (k := [.methodLink own idx y, .sameMethod y.cls y.cls y.name y.desc, .superclass own y.cls, .instanceMethod y, .initialized y.cls]) htb (fun z hz => ?_) m5) rfl h1 h2 hd ⟨h3, h4⟩) (z_preV hK hE hZ hw hA hL hkb hk hc) rfl (by simpa using hn) h7 rfl (by show 2 * 0 + _ ≤ 8; omega) hdd h6
    simp only [List.mem_cons, List.not_mem_nil, or_false] at hz
    rcases hz with rfl | rfl | rfl | rfl | rfl
    · exact m1
    · exact m6
    · exact m7
    · exact m2
    · exact m4
  · omega
/-- of a text -/
theorem rc_X (m1 : Cond.methodLink own idx y ∈ TB) (m2 : Cond.instanceMethod y ∈ TB) (m3 : Cond.selects "java/lang/String" y y ∈ TB) (m4 : Cond.initialized "java/lang/String" ∈ TB) (m5 : Cond.code y cc' maxL' ret' ∈ TB) (hd : y.cls = "java/lang/String" ∧ y.cls ≠ "java/lang/invoke/MethodHandle" ∧ y.cls ≠ "java/lang/invoke/VarHandle" ∧ (parseMethodDescriptor y.desc).map (fun d => d.parameters.length) = some n) (hk : 202 ≤ k ∧ k < 205) : RCall own 2 idx (n + 1) k y cc' maxL' ret' := by
  intro p l e R s m args below meth c H locs cells slots xs cD cy A cc nL Ts S pc ls rest As Qc rm mc ms free hM hw hn hr hMet h1 h2 h3 h4 h5 hdd h6 h7
  obtain ⟨hcf, htb, hK, hE, hZ, hA⟩ := hM
  rcases hr with rfl | ⟨hx, _⟩ | ⟨hx, r, rfl⟩
  · omega
  · omega
  · rw [show (Value.ref (xs (k - 200)) :: r).reverse ++ rest = r.reverse ++ .ref (xs (k - 200)) :: rest by simp]
    obtain ⟨j, rfl⟩ : ∃ j, k = 202 + j := ⟨k - 202, by omega⟩
    have ej : 202 + j - 200 = 2 + j := by omega
    rw [ej] at hMet ⊢
    refine va_runV (As := r) hcf hMet (cwV n hcf.2.2.2.2 (gi_ws (k := [.methodLink own idx y, .instanceMethod y, .selects "java/lang/String" y y, .initialized "java/lang/String"]) htb (fun z hz => ?_) m5) rfl h1 h2 hd ⟨h3, h4⟩) ⟨zPre_blind, vk_recv (i := j) hZ.2.2.2.2.2.2.1 (by omega) hw.2.2, fun U hU hW => ⟨rfl, z_wld hK hE hZ hw hA hU hW⟩⟩ rfl (by simpa using hn) h7 rfl (by show 2 * 0 + _ ≤ 8; omega) hdd h6
    simp only [List.mem_cons, List.not_mem_nil, or_false] at hz
    rcases hz with rfl | rfl | rfl | rfl
    · exact m1
    · exact m2
    · exact m3
    · exact m4
end LNK
section ZSU
variable {p : Program} {l : Launch} {e : Env} {R : Room} {s : State} {m : MethodId} {args : Array Value} {below : List Frame} {meth : Method} {c : Code}
theorem zi_callSU {T : State} {locs : List Loc} {cells slots : Nat} (X : Stand p l e R s m args below meth c T locs cells slots) (hexec : p.tables.exec = Jvm.exec) {own : String} {index : Nat} {x y : MethodName} {bytes : ByteArray} {maxL : Nat} {ret : Option FieldType}
    (hown : s.vm.findClass own = some m.cls) (hlink : (Cond.methodLink own index x).before args s = true) (hsame : (Cond.sameMethod x.cls y.cls x.name x.desc).before args s = true) (hsup : (Cond.superclass own x.cls).before args s = true) (hsup2 : (Cond.superclass x.cls y.cls).before args s = true) (hxn : x.name = y.name) (hxd : x.desc = y.desc)
    (hinst : (Cond.instanceMethod y).before args s = true) (hcode : (Cond.code y bytes maxL ret).before args s = true) (hno : y.name ≠ "<init>")
    {W : Nat} {Pre : Pt → Array Value → Prop} {Post : Pt → Array Value → Option Value → Pt → Prop} (hK : Back l R p e below s args y 3 W Pre Post)
    {b : Addr} {cellB : Cell} {kB : Class} (hcell : T.heap[b]? = some cellB) (hobj : cellB.vm.isStatics = false) (hkB : s.vm.classes[cellB.cls]? = some kB)
    {g : JFrame} (hg : g.method = m) (hsize : g.locals.size = c.maxLocals) {argsL rest : List Value} (hlen : ∀ sig, parseMethodDescriptor y.desc = some sig → argsL.length = sig.parameters.length)
    (hstack : g.stack = argsL.reverse ++ .ref b :: rest) (hW : 2 * g.monitorRoom + (rest.map fun v => v.category).sum ≤ W) (hdg : decode c.code g.pc = .ok (.invokespecial index, 3))
    (hpre : ∀ vm₁, s.WarmedH vm₁ → Pre ⟨T.setVm vm₁, locs, cells, slots⟩ (Value.ref b :: argsL).toArray) :
    ∃ (v : Option Value) (vm₁ : Vm) (B : Pt), s.WarmedH vm₁ ∧ Stand p l e R s m args below meth c B.U B.locs B.cells B.slots ∧ Post ⟨T.setVm vm₁, locs, cells, slots⟩ (Value.ref b :: argsL).toArray v B ∧
      ∀ target, Steps p.tables e below (B.U.setTop { g with pc := g.pc + 3, stack := v.toList ++ rest }) target → Steps p.tables e below (T.setTop g) target := by
  obtain ⟨mk, methM, hnamed, hmethM, hstM, habM⟩ := Cond.instanceMethod_spec hinst
  obtain ⟨methM', cM, hmethM', -, -, -, -, -, -, hsigM⟩ := Cond.code_spec hnamed hcode
  cases hmethM.symm.trans hmethM'
  obtain ⟨ps, dk, kp, hps, hdk, hkp, hsuper, -, -, hnid⟩ := Cond.superclass_spec hown hsup
  have hn : s.methodNamed? ⟨y.cls, x.name, x.desc⟩ = some mk := by rw [hxn, hxd]; exact hnamed
  obtain ⟨ps2, dk2, kp2, hps2, hdk2, hkp2, hsuper2, -, -, -⟩ := Cond.superclass_spec hps hsup2
  have hpm : ps2 = mk.cls := Option.some.inj (hps2.symm.trans (findClass_of_methodNamed hnamed))
  have hsz : ∃ z, s.vm.classes.size = z + 1 := ⟨s.vm.classes.size - 1, by have := (Array.getElem?_eq_some_iff.mp hdk2).1; omega⟩
  have hsub : s.vm.isSubclass ps mk.cls = true := by
    obtain ⟨z, hz⟩ := hsz
    rw [← hpm]
    unfold Vm.isSubclass
    rw [hz]
    simp [Vm.isSubclassAux, hdk2, hsuper2]
  obtain ⟨vm₁, X₁, hstep₁⟩ := X.invokespecialUp hexec hown hlink hsame hn hmethM hstM habM (by rw [hxn]; exact hno) hdk hnid hps hsuper hsub (a := b) (cell := cellB) hcell
    (fun z h => by rw [h] at hobj; cases hobj) hkB (g := g) hg (argsL := argsL) (rest := rest) (hlen _ hsigM) hstack hdg
  obtain ⟨v, B, X', hpost, hsteps⟩ := hK m meth c ⟨T.setVm vm₁, locs, cells, slots⟩ { g with stack := rest } (.invokespecial index) mk (Value.ref b :: argsL).toArray X₁ hg hsize hdg hW (X₁.named hnamed) (hpre vm₁ X₁.warmed)
  exact ⟨v, vm₁, B, X₁.warmed, X', hpost, fun target h => hstep₁ _ (by rw [doInvoke_state]; exact hsteps.trans h)⟩
abbrev zi_CS (R : Room) (s : State) (args : Array Value) (own : String) (index : Nat) (x y : MethodName) (bytes : ByteArray) (maxL : Nat) (ret : Option FieldType) (ws : List Cond) (rm : Room) (mc ms n : Nat) : Prop :=
  (rm.cells = mc ∧ rm.slots = ms ∧ rm.frames + 1 ≤ R.frames ∧ 8 + (maxL + 11) + rm.locals ≤ R.locals ∧ (∀ w ∈ ws, ∀ (a' : Array Value) (U : State), s.WarmedH U.vm → w.before a' U = true) ∧ Cond.code y bytes maxL ret ∈ ws) ∧
  (Cond.methodLink own index x).before args s = true ∧ (Cond.sameMethod x.cls y.cls x.name x.desc).before args s = true ∧ (Cond.superclass own x.cls).before args s = true ∧ (Cond.superclass x.cls y.cls).before args s = true ∧ x.name = y.name ∧ x.desc = y.desc ∧ (Cond.instanceMethod y).before args s = true ∧ (Cond.initialized y.cls).before args s = true ∧ (Cond.code y bytes maxL ret).before args s = true ∧ y.name ≠ "<init>" ∧ (∀ sig, parseMethodDescriptor y.desc = some sig → n = sig.parameters.length)
variable {H : Heap} {locs : List Loc} {cells slots : Nat}
theorem zi_runSU {x y : MethodName} {bytes cc : ByteArray} {maxL nL mc ms n index : Nat} {ret : Option FieldType} {ws : List Cond} {rm : Room} {Pc : Array Value → State → Prop} {Qc : Array Value → State → Outcome → State → Prop} {free : Addr → Prop} {Ts : List Cond} {own C : String} {cC : ClassId} {b : Addr} {As rest : List Value} {g : JFrame}
    (hat : ClassAt s C cC) (S : CallFix p m c cc nL s args Ts own) (hM : Met l y ws rm Pc Qc mc ms free) (cw : zi_CS R s args own index x y bytes maxL ret ws rm mc ms n) (hp : PreV s H C b Pc As)
    (hg : g.method = m) (hn : As.length = n) (hsize : g.locals.size = nL) (hstack : g.stack = As.reverse ++ .ref b :: rest) (hW : 2 * g.monitorRoom + (rest.map fun v => v.category).sum ≤ 8) (hdg : decode cc g.pc = .ok (.invokespecial index, 3)) (hf : cells + mc ≤ R.cells ∧ slots + ms ≤ R.slots) :
    va_Run p l e R s m args below meth c H locs cells slots mc ms g rest (Qc (Value.ref b :: As).toArray) (free) := by
  obtain ⟨⟨hrc, hrs, hfr, hlo, hws, hcw⟩, hl1, hl2, hl3, hl5, hxn, hxd, hl4, hini, hcode, hno, hlen⟩ := cw
  have hK : Back l R p e below s args y 3 8 (PreOf R mc ms Pc) (PostOf Qc mc ms free) := back_of (bytes := bytes) (maxL := maxL) (ret := ret) hM hp.1 hrc hrs hfr hlo hws hcw (fun a' U hW => word_at hW (Or.inl (by first | rfl | simp [Cond.onTables, Cond.keeps, Cond.steady])) hini)
  obtain ⟨hx, hb, hml, ho, -⟩ := S
  obtain ⟨-, ⟨cellB, hcB, hoB, hclB⟩, hPc⟩ := hp
  obtain ⟨hfc, kB, hkB, -⟩ := hat
  cases hfc.symm.trans hclB
  intro T hT X
  obtain ⟨v, vm₁, ⟨U', l2, c2, s2⟩, hW₁, X', ⟨g', mk, t, L, e1, e2, hq, h1, hL, h2, h3⟩, st⟩ := zi_callSU X hx (bytes := bytes) (maxL := maxL) (ret := ret) ho hl1 hl2 hl3 hl5 hxn hxd hl4 hcode hno hK (by rw [hT]; exact hcB) hoB hkB hg (hsize.trans hml.symm) (argsL := As) (rest := rest) (fun sig h => hn.trans (hlen sig h)) hstack hW (by rw [hb]; exact hdg)
    (fun vm₁ hW₁ => ⟨hf.1, hf.2, hPc (T.setVm vm₁) hT hW₁⟩)
  dsimp only [Pt.U, Pt.locs, Pt.cells, Pt.slots] at X' e1 e2 h1 h2 h3 st
  subst h1; subst h2; subst h3
  exact ⟨v, (T.setVm vm₁).calling g' mk (Value.ref b :: As).toArray, t, U', L, hT, X', hL, e1, e2, hq, st⟩
end ZSU
theorem rc_SI {own C : String} {T : u_T} {N k idx n : Nat} {x y : MethodName} {cc' : ByteArray} {maxL' : Nat} {ret' : Option FieldType} (m1 : Cond.methodLink own idx x ∈ TB) (m6 : Cond.sameMethod x.cls y.cls x.name x.desc ∈ TB) (m7 : Cond.superclass own x.cls ∈ TB) (m8 : Cond.superclass x.cls y.cls ∈ TB) (hxn : x.name = y.name) (hxd : x.desc = y.desc) (m2 : Cond.instanceMethod y ∈ TB) (m4 : Cond.initialized y.cls ∈ TB) (m5 : Cond.code y cc' maxL' ret' ∈ TB) (hd : y.name ≠ "<init>" ∧ (parseMethodDescriptor y.desc).map (fun d => d.parameters.length) = some n) (hk : k < 13) (hc : vwCl[k]? = some (C, T, N)) : RCall own 1 idx (n + 1) k y cc' maxL' ret' := by
  intro p l e R s m args below meth c H locs cells slots xs cD cy A cc nL Ts S pc ls rest As Qc rm mc ms free hM hw hn hr hMet h1 h2 h3 h4 h5 hdd h6 h7
  obtain ⟨hcf, htb, hK, hE, hZ, hA⟩ := hM
  have hb : ∀ w ∈ TB, w.before args s = true := fun w hw => hcf.2.2.2.2 _ (htb _ hw)
  rcases hr with rfl | ⟨_, b, r, rfl, hL, hkb⟩ | ⟨hx, _⟩
  · omega
  · rw [show (Value.ref b :: r).reverse ++ rest = r.reverse ++ .ref b :: rest by simp]
    refine zi_runSU (As := r) (zK_at hK hc) hcf hMet ⟨⟨h1, h2, h3, h4, pay_in hcf.2.2.2.2 (gi_w0 htb m5), List.mem_cons_self⟩, hb _ m1, hb _ m6, hb _ m7, hb _ m8, hxn, hxd, hb _ m2, hb _ m4, hb _ m5, hd.1, fun sig h => ?_⟩ (z_preV hK hE hZ hw hA hL hkb hk hc) rfl (by simpa using hn) h7 rfl (by show 2 * 0 + _ ≤ 8; omega) hdd h6
    have h2 := hd.2
    rw [h] at h2
    exact (Option.some.inj h2).symm
  · omega
