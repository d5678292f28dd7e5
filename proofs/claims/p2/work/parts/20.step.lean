/-! one instruction -/
/-- of a run: types; links; what lies outside (ints, bytes), the script, a constructor, Object's constructor by index; locals, the methods' locals, contracts, where they stand, how many hold; the room; the calls -/
abbrev Cg : Type := Tt × LK × ((List (Nat × List Int) × List (Nat × List Int)) × (Bool × Bool × List Nat)) × (Nat × List Nat × List Sg × List KC × Nat) × Lim × List (Nat × List Alt)
def oObj (oi : List Nat) (lim : Lim) (idx : Nat) (L : Lc) (K : List Vl) (E : En) (n : Nn) (pc : Nat) : Option Suc := match K with
  | .inr (.inr (.inr (.inl i))) :: K => match nth (true, []) E.2.1 i, nin idx oi && Nat.ble 1 lim.1 && Nat.ble (20 + catS K) lim.2.2.2 with
    | (false, _), true => one L K E n (pc + 3)
    | _, _ => none
  | _ => none
def oLdc (KE : List (Nat × Int)) (KS : List (Nat × Nat)) (idx : Nat) (L : Lc) (K : List Vl) (E : En) (n : Nn) (pc : Nat) : Option Suc := match asc idx KE with
  | some v => one L (.inl (lc v) :: K) E n pc
  | none => match asc idx KS with
    | some k => one L (.inr (.inr (.inr (.inr k))) :: K) E n pc
    | none => none
def oLdcw (KE : List (Nat × Int)) (idx : Nat) (L : Lc) (K : List Vl) (E : En) (n : Nn) (pc : Nat) : Option Suc := match asc idx KE with
  | some v => one L (.inl (lc v) :: K) E n pc
  | none => none
def oLdc2 (KL : List (Nat × Int)) (idx : Nat) (L : Lc) (K : List Vl) (E : En) (n : Nn) (pc : Nat) : Option Suc := match asc idx KL with
  | some v => one L (.inr (.inl (lc v)) :: K) E n pc
  | none => none
def oStat (SE : List (Nat × Sv)) (idx : Nat) (L : Lc) (K : List Vl) (E : En) (n : Nn) (pc : Nat) : Option Suc := match asc idx SE with
  | some v => one L (svV v :: K) E n pc
  | none => none
def step (C : Cg) (ins : ClassFile.Instr) (L : Lc) (K : List Vl) (E : En) (n : Nn) (pc : Nat) : Option Suc := match C with
  | (T, lk, ((SA, SB), (scr, ini, oi)), (nL, ML, ST, KT, nK), lim, cs) => match ins with
    | .iconst v => oI v L K E n (pc + 1)
    | .bipush v => oBip v L K E n (pc + 2)
    | .sipush v => oSip v L K E n (pc + 3)
    | .lconst v => oJ (Int.ofNat v.val) L K E n (pc + 1)
    | .aconst_null => pR (true, []) L K E n (pc + 1)
    | .ldc i => oLdc lk.2.2.2.2.1 lk.2.2.2.2.2.2.2.2 i L K E n (pc + 2)
    | .ldc_w i => oLdcw lk.2.2.2.2.1 i L K E n (pc + 3)
    | .ldc2_w i => oLdc2 lk.2.2.2.2.2.1 i L K E n (pc + 3)
    | .getstatic i => oStat lk.2.2.2.2.2.2.1 i L K E n (pc + 3)
    | .iload i => oIload i L K E n (pc + 2)
    | .iload_n i => oIload i.val L K E n (pc + 1)
    | .lload i => oLload i L K E n (pc + 2)
    | .lload_n i => oLload i.val L K E n (pc + 1)
    | .aload i => oAload i L K E n (pc + 2)
    | .aload_n i => oAload i.val L K E n (pc + 1)
    | .istore i => oIstore i nL L K E n (pc + 2)
    | .istore_n i => oIstore i.val nL L K E n (pc + 1)
    | .lstore i => oLstore i nL L K E n (pc + 2)
    | .lstore_n i => oLstore i.val nL L K E n (pc + 1)
    | .astore i => oAstore i nL L K E n (pc + 2)
    | .astore_n i => oAstore i.val nL L K E n (pc + 1)
    | .iinc i k => oIinc i nL k L K E n (pc + 3)
    | .iadd => oBin (fun I x y => fz32 I (.inl (ladd x y))) L K E n (pc + 1)
    | .isub => oBin (fun I x y => fz32 I (.inl (lsub x y))) L K E n (pc + 1)
    | .imul => oBin (fun I x y => fz32 I (rMul k32l k32h x y)) L K E n (pc + 1)
    | .iand => oBin (fun I x y => rAnd I k32l k32h x y) L K E n (pc + 1)
    | .ior => oBin (fun _ _ _ => .inr (k32l, k32h)) L K E n (pc + 1)
    | .ixor => oBin (fun _ _ _ => .inr (k32l, k32h)) L K E n (pc + 1)
    | .ishl => oBin (fun I x y => fz32 I (rShlI I x y)) L K E n (pc + 1)
    | .ishr => oShr L K E n (pc + 1)
    | .iushr => oBin (fun _ _ y => rUshr y) L K E n (pc + 1)
    | .idiv => oDivI false L K E n (pc + 1)
    | .irem => oDivI true L K E n (pc + 1)
    | .ineg => oUn (fun I x => fz32 I (.inl (lneg x))) L K E n (pc + 1)
    | .ladd => oBinJ (fun I x y => fz64 I (.inl (ladd x y))) L K E n (pc + 1)
    | .lsub => oBinJ (fun I x y => fz64 I (.inl (lsub x y))) L K E n (pc + 1)
    | .lmul => oBinJ (fun I x y => fz64 I (rMul k64l k64h x y)) L K E n (pc + 1)
    | .land => oBinJ (fun I x y => rAnd I k64l k64h x y) L K E n (pc + 1)
    | .lor => oBinJ (fun _ _ _ => .inr (k64l, k64h)) L K E n (pc + 1)
    | .lxor => oBinJ (fun _ _ _ => .inr (k64l, k64h)) L K E n (pc + 1)
    | .ldiv => oDivJ false L K E n (pc + 1)
    | .lrem => oDivJ true L K E n (pc + 1)
    | .lneg => oUnJ (fun I x => fz64 I (.inl (lneg x))) L K E n (pc + 1)
    | .lshl => oShJ L K E n (pc + 1)
    | .lshr => oShJ L K E n (pc + 1)
    | .lushr => oShJ L K E n (pc + 1)
    | .i2l => oI2l L K E n (pc + 1)
    | .l2i => oL2i L K E n (pc + 1)
    | .i2b => oUn (fun _ _ => .inr (-128, 127)) L K E n (pc + 1)
    | .i2s => oUn (fun _ _ => .inr (-32768, 32767)) L K E n (pc + 1)
    | .i2c => oUn (fun _ _ => .inr (0, 65535)) L K E n (pc + 1)
    | .lcmp => oLcmp L K E n (pc + 1)
    | .dup => oDup L K E n (pc + 1)
    | .pop => oPop L K E n (pc + 1)
    | .dup_x1 => oDupX1 L K E n (pc + 1)
    | .dup2 => oDup2 L K E n (pc + 1)
    | .pop2 => oPop2 L K E n (pc + 1)
    | .ifCond c o => oIf c o L K E n pc
    | .if_icmp c o => oIcmp c o L K E n pc
    | .goto o => oGoto o L K E n pc
    | .tableswitch d lo hi o => oSw d lo hi o L K E n pc
    | .ifnull o => oNul true o L K E n pc
    | .ifnonnull o => oNul false o L K E n pc
    | .getfield i => oGetf T lk i L K E n pc
    | .putfield i => oPutf T lk ini i L K E n pc
    | .iaload => oIald T SA scr L K E n pc
    | .baload => oBald SB L K E n pc
    | .laload => oLald T L K E n pc
    | .aaload => oAald T L K E n pc
    | .iastore => oIast T L K E n pc
    | .lastore => oLast T L K E n pc
    | .aastore => oAast T L K E n pc
    | .arraylength => oAlen T SA SB scr L K E n pc
    | .new i => oNew T lk lim.2.1 lim.2.2.1 i L K E n pc
    | .invokestatic i => oCall T ML ST KT nK lk lim cs 0 i L K E n pc
    | .invokevirtual i => oCall T ML ST KT nK lk lim cs 2 i L K E n pc
    | .invokespecial i => match nin i oi with
      | true => oObj oi lim i L K E n pc
      | false => oCall T ML ST KT nK lk lim cs 1 i L K E n pc
    | _ => none
/-- how long an instruction is -/
def ilen (ins : ClassFile.Instr) : Nat := match ins with
  | .bipush _ => 2
  | .sipush _ => 3
  | .ldc _ => 2
  | .ldc_w _ => 3
  | .ldc2_w _ => 3
  | .getstatic _ => 3
  | .iload _ => 2
  | .lload _ => 2
  | .aload _ => 2
  | .istore _ => 2
  | .lstore _ => 2
  | .astore _ => 2
  | .iinc _ _ => 3
  | .ifCond _ _ => 3
  | .if_icmp _ _ => 3
  | .goto _ => 3
  | .tableswitch _ _ _ _ => 0
  | .ifnull _ => 3
  | .ifnonnull _ => 3
  | .getfield _ => 3
  | .putfield _ => 3
  | .new _ => 3
  | .invokestatic _ => 3
  | .invokevirtual _ => 3
  | .invokespecial _ => 3
  | _ => 1
def lenB (q : Nat × ClassFile.Instr × Nat) : Bool := match ilen q.2.1 with
  | 0 => true
  | k => Nat.beq q.2.2 k
def RObj (own : String) (idx : Nat) : Prop := Cond.methodLink own idx Lib.objectInit ∈ TB ∧ Cond.instanceMethod Lib.objectInit ∈ TB ∧ Cond.code Lib.objectInit ⟨#[0xb1]⟩ 1 none ∈ TB
def CgOK (ad : Nat → Nat) (gh : zS → Int → Int) (XI : zS → Prop) (xs : Nat → Nat) (cD : va_G) (cy : Nat → ClassId) (l : Launch) (own : String) (mY : Nat → MethodName) (mC : Nat → ByteArray) (mL : Nat → Nat) (mR : Nat → Option FieldType) (T : Tt) (lk : LK) (SA SB : List (Nat × List Int)) (oi ML : List Nat) (ST : List Sg) (KT : List KC) (nK : Nat) : Prop :=
  TOK T ad gh XI ∧ TZ T ∧ TA T ∧ LKOK own lk ∧ (∀ k l, (k, l) ∈ SA → RSpA .iaload k l) ∧ (∀ k l, (k, l) ∈ SB → RSpA .baload k l) ∧ LKC own lk mY mC mL mR ∧ (∀ i, nth 0 ML i = mL i ∨ ML.length ≤ i) ∧ (∀ idx (x : Nat × Nat × List (Nat × Nat)), (idx, x) ∈ lk.2.2.1 → ∀ rc mid, (rc, mid) ∈ x.2.2 → mid < ML.length) ∧ (∀ sg ∈ ST, wfSg sg = true) ∧
  (∀ pos, pos < nK → ∀ mid sgi rv fr lo, nth (0, 0, [], 0, 0) KT pos = (mid, sgi, rv, fr, lo) → sgi < ST.length ∧ Con T ad gh XI xs cD cy l (mY mid) (mC mid) (mL mid) (mR mid) fr lo (nth ([], [], [], [], [], [], (0, 0), none, []) ST sgi) rv) ∧ ∀ idx ∈ oi, RObj own idx
theorem i2c32 {k : Nat} {g : Nat → Int} {v : Int32} : Rs32 k g (.inr (0, 65535)) (v.toUInt32 % 65536).toInt32 := by
  show (0 : Int) ≤ ((v.toUInt32 % 65536).toInt32).toInt ∧ ((v.toUInt32 % 65536).toInt32).toInt ≤ 65535
  have h : (v.toUInt32 % 65536).toNat < 65536 := by
    rw [UInt32.toNat_mod]
    exact Nat.mod_lt _ (by decide)
  have e : ((v.toUInt32 % 65536).toInt32).toInt = ((v.toUInt32 % 65536).toNat : Int) := by
    generalize v.toUInt32 % 65536 = u at h ⊢
    show u.toBitVec.toInt = _
    rw [BitVec.toInt_eq_toNat_of_lt (by show 2 * u.toBitVec.toNat < 2 ^ 32; have : u.toBitVec.toNat = u.toNat := rfl; omega)]
    rfl
  omega
section STP
variable {T : Tt} {ad : Nat → Nat} {gh : zS → Int → Int} {XI : zS → Prop} {S0 : zS} {ρ0 : Nat → Nat} {xs : Nat → Nat} {cD : va_G} {cy : Nat → ClassId} {A : Nat → Prop}
variable {p : Program} {l : Launch} {e : Env} {R : Room} {s : State} {m : MethodId} {args : Array Value} {below : List Frame} {meth : Method} {c : Code} {Q : State → Prop} {cc : ByteArray} {nL : Nat} {Ts : List Cond} {own : String}
variable {L : Lc} {K : List Vl} {E E' : En} {n : Nn} {pc pc' : Nat} {sc : Suc}
variable {mY : Nat → MethodName} {mC : Nat → ByteArray} {mL : Nat → Nat} {mR : Nat → Option FieldType} {lk : LK} {SA SB : List (Nat × List Int)} {oi ML : List Nat} {ST : List Sg} {KT : List KC} {nK : Nat} {scr ini : Bool} {lim : Lim} {cs : List (Nat × List Alt)}
theorem oCallA_ok (hM : MX xs cD cy A p s m args c cc nL Ts own) (hC : CgOK ad gh XI xs cD cy l own mY mC mL mR T lk SA SB oi ML ST KT nK) (hR : lim.1 ≤ R.frames ∧ lim.2.1 ≤ R.cells ∧ lim.2.2.1 ≤ R.slots ∧ lim.2.2.2 ≤ R.locals) {op idx np : Nat} {tl : List (Nat × Nat)} (hce : (idx, (op, np, tl)) ∈ lk.2.2.1) (hd : decode cc pc = .ok (opI op idx, 3)) : ∀ {alts : List Alt}, oCallA T ML ST KT nK lim np tl L K E n pc alts = some sc → (∀ x ∈ sc, Gl T ad gh XI S0 ρ0 xs cD cy A p l e R s m args below meth c Q nL x.2 x.1) → Gl T ad gh XI S0 ρ0 xs cD cy A p l e R s m args below meth c Q nL pc ((L, K), E, n)
  | [], h, _ => by cases h
  | a :: r, h, hs => by
    simp only [oCallA] at h
    split at h
    · rename_i s1 h1
      cases h
      obtain ⟨c1, c2, c3, c4, c5, c6, c7, c8, c9, c10, c11, c12⟩ := hC
      exact oCall1_ok hM c1 c7 c8 c9 c10 c11 hR hce hd h1 hs
    · exact oCallA_ok hM hC hR hce hd h hs
theorem oCall_ok (hM : MX xs cD cy A p s m args c cc nL Ts own) (hC : CgOK ad gh XI xs cD cy l own mY mC mL mR T lk SA SB oi ML ST KT nK) (hR : lim.1 ≤ R.frames ∧ lim.2.1 ≤ R.cells ∧ lim.2.2.1 ≤ R.slots ∧ lim.2.2.2 ≤ R.locals) {op idx : Nat} (hd : decode cc pc = .ok (opI op idx, 3)) (h : oCall T ML ST KT nK lk lim cs op idx L K E n pc = some sc) (hs : ∀ x ∈ sc, Gl T ad gh XI S0 ρ0 xs cD cy A p l e R s m args below meth c Q nL x.2 x.1) : Gl T ad gh XI S0 ρ0 xs cD cy A p l e R s m args below meth c Q nL pc ((L, K), E, n) := by
  unfold oCall at h
  split at h
  · rename_i op' np tl alts h1 h2
    split at h
    · rename_i h3
      have h3 := Nat.eq_of_beq_eq_true h3
      subst h3
      exact oCallA_ok hM hC hR (asc_ok h1) hd h hs
    · cases h
  · cases h
theorem oObj_ok (hM : MX xs cD cy A p s m args c cc nL Ts own) (hnL : c.maxLocals = nL) (hO : ∀ idx ∈ oi, RObj own idx) (hR : lim.1 ≤ R.frames ∧ lim.2.1 ≤ R.cells ∧ lim.2.2.1 ≤ R.slots ∧ lim.2.2.2 ≤ R.locals) {idx : Nat} (hd : decode cc pc = .ok (.invokespecial idx, 3)) (h : oObj oi lim idx L K E n pc = some sc) (hs : ∀ x ∈ sc, Gl T ad gh XI S0 ρ0 xs cD cy A p l e R s m args below meth c Q nL x.2 x.1) : Gl T ad gh XI S0 ρ0 xs cD cy A p l e R s m args below meth c Q nL pc ((L, K), E, n) := by
  intro g τ S ρ H locs cells slots ls hA
  unfold oObj at h
  split at h
  · rename_i i K
    split at h
    · rename_i rs hR0 hc
      simp only [Bool.and_eq_true] at hc
      obtain ⟨⟨c1, c2⟩, c3⟩ := hc
      have c2 := Nat.le_of_ble_eq_true c2
      have c3 := Nat.le_of_ble_eq_true c3
      cases h
      obtain ⟨o1, o2, o3⟩ := hO idx (nin_iff.mp c1)
      obtain ⟨⟨m1, m2, m3, m4, m5⟩, m6, -⟩ := hM
      obtain ⟨b, hb, -⟩ := hA.1.ref hR0
      have wK := SatA_wfK hA
      have hsz : ls.size = nL := hA.2.2.2.2.2.2.2.1
      have e1 : γK g τ xs (.inr (.inr (.inr (.inl i))) :: K) = .ref b :: γK g τ xs K := by
        show va_rf (τ i) :: γK g τ xs K = _
        rw [hb]; rfl
      show W p l e R s m args below meth c H locs cells slots Q (F0 m pc ls (γK g τ xs (.inr (.inr (.inr (.inl i))) :: K)))
      rw [e1]
      refine W.objInit (a := b) (rest := γK g τ xs K) m1 m2 m4 (m5 _ (m6 _ o1)) (m5 _ (m6 _ o2)) (m5 _ (m6 _ o3)) rfl (by show ls.size = _; rw [hnL]; exact hsz) rfl hd (by omega) (by rw [catS_eq]; show 2 * 0 + catS K + 12 ≤ R.locals; omega) ?_
      exact hs _ List.mem_cons_self g τ S ρ H locs cells slots ls (hA.xt (K' := K) Xt.refl hA.1 (wfK_tl wK) hA.2.2.2.2.2.2.1)
    · cases h
  · cases h
end STP
