/-! one instruction -/
/-- of a run: types; links; what lies outside (ints, bytes), the script, a constructor, Object's constructor by index; locals, the methods' locals, contracts, where they stand, how many hold; the room; the calls -/
abbrev Cg : Type := Tt × LK × ((List (Nat × List Int) × List (Nat × List Int)) × (Bool × Bool × List Nat)) × (Nat × List Nat × List Sg × List KC × Nat) × Lim × List (Nat × List Alt)
def oObj (oi : List Nat) (lim : Lim) (idx : Nat) (L : Lc) (K : List Vl) (E : En) (n : Nn) (pc : Nat) : Option Suc := match K with
  | .inr (.inr (.inr (.inl i))) :: K => match nth (true, []) E.2.1 i, nin idx oi && Nat.blt idx 100000 && Nat.ble 1 lim.1 && Nat.ble (20 + catS K) lim.2.2.2 with
    | (false, _), true => one L K E n (pc + 3)
    | _, _ => none
  | _ => none
/-- System.arraycopy between rows of longs of which no region tells -/
def oAcp (T : Tt) (oi : List Nat) (lim : Lim) (idx : Nat) (L : Lc) (K : List Vl) (E : En) (n : Nn) (pc : Nat) : Option Suc := match K with
  | .inl nn :: .inl dp :: .inr (.inr (.inr (.inl j1))) :: .inl sp :: .inr (.inr (.inr (.inl j0))) :: K' => match nth (true, []) E.2.1 j0, nth (true, []) E.2.1 j1 with
    | (false, r0), (false, r1) => match aLen T 14 r0, aLen T 14 r1 with
      | some l0, some l1 => match nin (100000 + idx) oi && Nat.blt idx 100000 && Nat.ble 1 lim.1 && Nat.ble (18 + catS K') lim.2.2.2 && ixOK E nn (l0 + 1) && ixOK E sp (l0 + 1) && ixOK E dp (l1 + 1) && ent E.1 E.2.2.1 (lpl (lneg (ladd sp nn)) (Int.ofNat l0)) && ent E.1 E.2.2.1 (lpl (lneg (ladd dp nn)) (Int.ofNat l1)), tch T r1 true 1 with
        | true, [] => one L K' E n (pc + 3)
        | _, _ => none
      | _, _ => none
    | _, _ => none
  | _ => none
def mnI (a b : Int) : Int := match ile a b with
  | true => a
  | false => b
def mxI (a b : Int) : Int := match ile a b with
  | true => b
  | false => a
def mmI (k : Nat) (a b : Itv) : Itv := match k with
  | 2 => (mxI a.1 b.1, mxI a.2 b.2)
  | _ => (mnI a.1 b.1, mnI a.2 b.2)
def oMM (k : Nat) (oi : List Nat) (lim : Lim) (idx : Nat) (L : Lc) (K : List Vl) (E : En) (n : Nn) (pc : Nat) : Option Suc := match nin (k * 100000 + idx) oi && Nat.blt idx 100000 && Nat.ble 1 lim.1 && ile (rg E.1 n.1).2 (Int.ofNat lim.2.1) && ile (rg E.1 n.2).2 (Int.ofNat lim.2.2.1), k, K with
  | true, 2, .inl y :: .inl x :: K' => match fit32 E.1 x && fit32 E.1 y && Nat.ble (15 + catS K') lim.2.2.2 with
    | true => some (br L (.inl (lsy E.1.length) :: K') (eI E (mmI 2 (rg E.1 x) (rg E.1 y))) n [lsub (lsy E.1.length) x, lsub (lsy E.1.length) y] (pc + 3))
    | false => none
  | true, 3, .inl y :: .inl x :: K' => match fit32 E.1 x && fit32 E.1 y && Nat.ble (15 + catS K') lim.2.2.2 with
    | true => some (br L (.inl (lsy E.1.length) :: K') (eI E (mmI 3 (rg E.1 x) (rg E.1 y))) n [lsub x (lsy E.1.length), lsub y (lsy E.1.length)] (pc + 3))
    | false => none
  | true, 4, .inr (.inl y) :: .inr (.inl x) :: K' => match fit64 E.1 x && fit64 E.1 y && Nat.ble (15 + catS K') lim.2.2.2 with
    | true => some (br L (.inr (.inl (lsy E.1.length)) :: K') (eI E (mmI 4 (rg E.1 x) (rg E.1 y))) n [lsub x (lsy E.1.length), lsub y (lsy E.1.length)] (pc + 3))
    | false => none
  | _, _, _ => none
def oAbs (oi : List Nat) (lim : Lim) (idx : Nat) (L : Lc) (K : List Vl) (E : En) (n : Nn) (pc : Nat) : Option Suc := match nin (500000 + idx) oi && Nat.blt idx 100000 && Nat.ble 1 lim.1 && ile (rg E.1 n.1).2 (Int.ofNat lim.2.1) && ile (rg E.1 n.2).2 (Int.ofNat lim.2.2.1), K with
  | true, .inl x :: K' => match Nat.ble (15 + catS K') lim.2.2.2 with
    | true => pI (.inr (k32l, k32h)) L K' E n (pc + 3)
    | false => none
  | _, _ => none
def oLdc (KE : List (Nat × Int)) (KS : List (Nat × Nat)) (idx : Nat) (L : Lc) (K : List Vl) (E : En) (n : Nn) (pc : Nat) : Option Suc := match asc idx KE with
  | some v => one L (.inl (lc v) :: K) E n pc
  | none => match asc idx KS with
    | some k => one L (.inr (.inr (.inr (.inr k))) :: K) E n pc
    | none => none
def oLdcw (KE : List (Nat × Int)) (idx : Nat) (L : Lc) (K : List Vl) (E : En) (n : Nn) (pc : Nat) : Option Suc := match asc idx KE with
  | some v => one L (.inl (lc v) :: K) E n pc
  | none => none
def oLdc2 (KL : List (Nat × Int)) (idx : Nat) (L : Lc) (K : List Vl) (E : En) (n : Nn) (pc : Nat) : Option Suc := match asc idx KL with
  | some v => one L (.inr (.inl (lc v)) :: K) E n pc
  | none => none
def oStat (SE : List (Nat × Sv)) (idx : Nat) (L : Lc) (K : List Vl) (E : En) (n : Nn) (pc : Nat) : Option Suc := match asc idx SE with
  | some v => one L (svV v :: K) E n pc
  | none => none
def step (C : Cg) (ins : ClassFile.Instr) (L : Lc) (K : List Vl) (E : En) (n : Nn) (pc : Nat) : Option Suc := match C with
  | (T, lk, ((SA, SB), (scr, ini, oi)), (nL, ML, ST, KT, nK), lim, cs) => match ins with
    | .iconst v => oI v L K E n (pc + 1)
    | .bipush v => oBip v L K E n (pc + 2)
    | .sipush v => oSip v L K E n (pc + 3)
    | .lconst v => oJ (Int.ofNat v.val) L K E n (pc + 1)
    | .aconst_null => pR (true, []) L K E n (pc + 1)
    | .ldc i => oLdc lk.2.2.2.2.1 lk.2.2.2.2.2.2.2.2 i L K E n (pc + 2)
    | .ldc_w i => oLdcw lk.2.2.2.2.1 i L K E n (pc + 3)
    | .ldc2_w i => oLdc2 lk.2.2.2.2.2.1 i L K E n (pc + 3)
    | .getstatic i => oStat lk.2.2.2.2.2.2.1 i L K E n (pc + 3)
    | .iload i => oIload i L K E n (pc + 2)
    | .iload_n i => oIload i.val L K E n (pc + 1)
    | .lload i => oLload i L K E n (pc + 2)
    | .lload_n i => oLload i.val L K E n (pc + 1)
    | .aload i => oAload i L K E n (pc + 2)
    | .aload_n i => oAload i.val L K E n (pc + 1)
    | .istore i => oIstore i nL L K E n (pc + 2)
    | .istore_n i => oIstore i.val nL L K E n (pc + 1)
    | .lstore i => oLstore i nL L K E n (pc + 2)
    | .lstore_n i => oLstore i.val nL L K E n (pc + 1)
    | .astore i => oAstore i nL L K E n (pc + 2)
    | .astore_n i => oAstore i.val nL L K E n (pc + 1)
    | .iinc i k => oIinc i nL k L K E n (pc + 3)
    | .iadd => oBin (fun I x y => fz32 I (.inl (ladd x y))) L K E n (pc + 1)
    | .isub => oBin (fun I x y => fz32 I (.inl (lsub x y))) L K E n (pc + 1)
    | .imul => oBin (fun I x y => fz32 I (rMul k32l k32h x y)) L K E n (pc + 1)
    | .iand => oBin (fun I x y => rAnd I k32l k32h x y) L K E n (pc + 1)
    | .ior => oBin (fun _ _ _ => .inr (k32l, k32h)) L K E n (pc + 1)
    | .ixor => oBin (fun _ _ _ => .inr (k32l, k32h)) L K E n (pc + 1)
    | .ishl => oBin (fun I x y => fz32 I (rShlI I x y)) L K E n (pc + 1)
    | .ishr => oShr L K E n (pc + 1)
    | .iushr => oBin (fun _ _ y => rUshr y) L K E n (pc + 1)
    | .idiv => oDivI false L K E n (pc + 1)
    | .irem => oDivI true L K E n (pc + 1)
    | .ineg => oUn (fun I x => fz32 I (.inl (lneg x))) L K E n (pc + 1)
    | .ladd => oBinJ (fun I x y => fz64 I (.inl (ladd x y))) L K E n (pc + 1)
    | .lsub => oBinJ (fun I x y => fz64 I (.inl (lsub x y))) L K E n (pc + 1)
    | .lmul => oBinJ (fun I x y => fz64 I (rMul k64l k64h x y)) L K E n (pc + 1)
    | .land => oBinJ (fun I x y => rAnd I k64l k64h x y) L K E n (pc + 1)
    | .lor => oBinJ (fun _ _ _ => .inr (k64l, k64h)) L K E n (pc + 1)
    | .lxor => oBinJ (fun _ _ _ => .inr (k64l, k64h)) L K E n (pc + 1)
    | .ldiv => oDivJ false L K E n (pc + 1)
    | .lrem => oDivJ true L K E n (pc + 1)
    | .lneg => oUnJ (fun I x => fz64 I (.inl (lneg x))) L K E n (pc + 1)
    | .lshl => oShJ L K E n (pc + 1)
    | .lshr => oShJ L K E n (pc + 1)
    | .lushr => oShJ L K E n (pc + 1)
    | .i2l => oI2l L K E n (pc + 1)
    | .l2i => oL2i L K E n (pc + 1)
    | .i2b => oUn (fun _ _ => .inr (-128, 127)) L K E n (pc + 1)
    | .i2s => oUn (fun _ _ => .inr (-32768, 32767)) L K E n (pc + 1)
    | .i2c => oUn (fun _ _ => .inr (0, 65535)) L K E n (pc + 1)
    | .lcmp => oLcmp L K E n (pc + 1)
    | .dup => oDup L K E n (pc + 1)
    | .pop => oPop L K E n (pc + 1)
    | .dup_x1 => oDupX1 L K E n (pc + 1)
    | .dup2 => oDup2 L K E n (pc + 1)
    | .pop2 => oPop2 L K E n (pc + 1)
    | .ifCond c o => oIf c o L K E n pc
    | .if_icmp c o => oIcmp c o L K E n pc
    | .goto o => oGoto o L K E n pc
    | .tableswitch d lo hi o => oSw d lo hi o L K E n pc
    | .ifnull o => oNul true o L K E n pc
    | .ifnonnull o => oNul false o L K E n pc
    | .getfield i => oGetf T lk i L K E n pc
    | .putfield i => oPutf T lk ini i L K E n pc
    | .iaload => oIald T SA scr L K E n pc
    | .baload => oBald SB L K E n pc
    | .laload => oLald T L K E n pc
    | .aaload => oAald T L K E n pc
    | .iastore => oIast T L K E n pc
    | .lastore => oLast T L K E n pc
    | .aastore => oAast T L K E n pc
    | .arraylength => oAlen T SA SB scr L K E n pc
    | .new i => oNew T lk lim.2.1 lim.2.2.1 i L K E n pc
    | .invokestatic i => match nin (100000 + i) oi with
      | true => oAcp T oi lim i L K E n pc
      | false => match nin (200000 + i) oi with
        | true => oMM 2 oi lim i L K E n pc
        | false => match nin (300000 + i) oi with
          | true => oMM 3 oi lim i L K E n pc
          | false => match nin (400000 + i) oi with
            | true => oMM 4 oi lim i L K E n pc
            | false => match nin (500000 + i) oi with
              | true => oAbs oi lim i L K E n pc
              | false => oCall T ML ST KT nK lk lim cs 0 i L K E n pc
    | .invokevirtual i => oCall T ML ST KT nK lk lim cs 2 i L K E n pc
    | .invokespecial i => match nin i oi with
      | true => oObj oi lim i L K E n pc
      | false => oCall T ML ST KT nK lk lim cs 1 i L K E n pc
    | _ => none
/-- how long an instruction is -/
def ilen (ins : ClassFile.Instr) : Nat := match ins with
  | .bipush _ => 2
  | .sipush _ => 3
  | .ldc _ => 2
  | .ldc_w _ => 3
  | .ldc2_w _ => 3
  | .getstatic _ => 3
  | .iload _ => 2
  | .lload _ => 2
  | .aload _ => 2
  | .istore _ => 2
  | .lstore _ => 2
  | .astore _ => 2
  | .iinc _ _ => 3
  | .ifCond _ _ => 3
  | .if_icmp _ _ => 3
  | .goto _ => 3
  | .tableswitch _ _ _ _ => 0
  | .ifnull _ => 3
  | .ifnonnull _ => 3
  | .getfield _ => 3
  | .putfield _ => 3
  | .new _ => 3
  | .invokestatic _ => 3
  | .invokevirtual _ => 3
  | .invokespecial _ => 3
  | _ => 1
def lenB (q : Nat × ClassFile.Instr × Nat) : Bool := match ilen q.2.1 with
  | 0 => true
  | k => Nat.beq q.2.2 k
def RObj (own : String) (idx : Nat) : Prop := Cond.methodLink own idx Lib.objectInit ∈ TB ∧ Cond.instanceMethod Lib.objectInit ∈ TB ∧ Cond.code Lib.objectInit ⟨#[0xb1]⟩ 1 none ∈ TB
def RAcp (own : String) (idx : Nat) : Prop := Cond.methodLink own idx arraycopyName ∈ TB ∧ Cond.native arraycopyName ∈ TB ∧ Cond.static arraycopyName ∈ TB ∧ Cond.initialized "java/lang/System" ∈ TB
/-- Math.max of ints, Math.min of ints, of longs -/
def RMM (own : String) (k idx : Nat) : Prop := match k with
  | 2 => Cond.methodLink own idx Lib.Math.max.name ∈ TB ∧ Cond.static Lib.Math.max.name ∈ TB ∧ Cond.initialized "java/lang/Math" ∈ TB ∧ Cond.code Lib.Math.max.name Lib.Math.max.code 2 (some .int) ∈ TB
  | 3 => Cond.methodLink own idx Lib.Math.min.name ∈ TB ∧ Cond.static Lib.Math.min.name ∈ TB ∧ Cond.initialized "java/lang/Math" ∈ TB ∧ Cond.code Lib.Math.min.name Lib.Math.min.code 2 (some .int) ∈ TB
  | 5 => Cond.methodLink own idx Lib.Math.abs.name ∈ TB ∧ Cond.static Lib.Math.abs.name ∈ TB ∧ Cond.initialized "java/lang/Math" ∈ TB ∧ Cond.code Lib.Math.abs.name Lib.Math.abs.code 1 (some .int) ∈ TB
  | 4 => Cond.methodLink own idx Lib.MathLoose.min_long.x ∈ TB ∧ Cond.static Lib.MathLoose.min_long.x ∈ TB ∧ Cond.initialized "java/lang/Math" ∈ TB ∧ Cond.code Lib.MathLoose.min_long.x Lib.MathLoose.min_long.code 4 (some .long) ∈ TB
  | _ => False
def ROI (own : String) (idx : Nat) : Prop := match idx / 100000 with
  | 0 => RObj own idx
  | 1 => RAcp own (idx % 100000)
  | k => RMM own k (idx % 100000)
def CgOK (ad : Nat → Nat) (gh : zS → Int → Int) (XI : zS → Prop) (xs : Nat → Nat) (cD : va_G) (cy : Nat → ClassId) (l : Launch) (own : String) (mY : Nat → MethodName) (mC : Nat → ByteArray) (mL : Nat → Nat) (mR : Nat → Option FieldType) (T : Tt) (lk : LK) (SA SB : List (Nat × List Int)) (oi ML : List Nat) (ST : List Sg) (KT : List KC) (nK : Nat) : Prop :=
  TOK T ad gh XI ∧ TZ T ∧ TA T ∧ LKOK own lk ∧ (∀ k l, (k, l) ∈ SA → RSpA .iaload k l) ∧ (∀ k l, (k, l) ∈ SB → RSpA .baload k l) ∧ LKC own lk mY mC mL mR ∧ (∀ i, nth 0 ML i = mL i ∨ ML.length ≤ i) ∧ (∀ idx (x : Nat × Nat × List (Nat × Nat)), (idx, x) ∈ lk.2.2.1 → ∀ rc mid, (rc, mid) ∈ x.2.2 → mid < ML.length) ∧ (∀ sg ∈ ST, wfSg sg = true) ∧
  (∀ pos, pos < nK → ∀ mid sgi rv fr lo, nth (0, 0, [], 0, 0) KT pos = (mid, sgi, rv, fr, lo) → sgi < ST.length ∧ Con T ad gh XI xs cD cy l (mY mid) (mC mid) (mL mid) (mR mid) fr lo (nth ([], [], [], [], [], [], (0, 0), none, []) ST sgi) rv) ∧ ∀ idx ∈ oi, ROI own idx
theorem i2c32 {k : Nat} {g : Nat → Int} {v : Int32} : Rs32 k g (.inr (0, 65535)) (v.toUInt32 % 65536).toInt32 := by
  show (0 : Int) ≤ ((v.toUInt32 % 65536).toInt32).toInt ∧ ((v.toUInt32 % 65536).toInt32).toInt ≤ 65535
  have h : (v.toUInt32 % 65536).toNat < 65536 := by
    rw [UInt32.toNat_mod]
    exact Nat.mod_lt _ (by decide)
  have e : ((v.toUInt32 % 65536).toInt32).toInt = ((v.toUInt32 % 65536).toNat : Int) := by
    generalize v.toUInt32 % 65536 = u at h ⊢
    show u.toBitVec.toInt = _
    rw [BitVec.toInt_eq_toNat_of_lt (by show 2 * u.toBitVec.toNat < 2 ^ 32; have : u.toBitVec.toNat = u.toNat := rfl; omega)]
    rfl
  omega
theorem z_acp {cD : va_G} {cy : Nat → ClassId} {A : Nat → Prop} {p : Program} {l : Launch} {e : Env} {R : Room} {s : State} {m : MethodId} {args : Array Value} {below : List Frame} {meth : Method} {c : Code} {Q : State → Prop} {cc : ByteArray} {maxL : Nat} {Ts : List Cond} {own : String} {H0 H : Heap} {S : zS} {locs : List Loc} {cells slots : Nat} {ls : Array Slot} {rest : List Value} {pc a0 a1 idx : Nat} {sp dp n : Int32} (hcf : CallFix p m c cc maxL s args Ts own) (hml : c.maxLocals = ls.size) (hK : zKK cD cy s) (hw : zPw cD cy A H0 S H locs) (hlk : ∀ w ∈ TB, w ∈ Ts) (hr : RAcp own idx) (h0 : a0 ∈ zL S) (h1 : a1 ∈ zL S) (k0 : zK S a0 = 14) (k1 : zK S a1 = 14) (p1 : 0 ≤ sp.toInt) (p2 : 0 ≤ dp.toInt) (p3 : 0 ≤ n.toInt) (p4 : sp.toInt + n.toInt ≤ (zN S a0 : Int)) (p5 : dp.toInt + n.toInt ≤ (zN S a1 : Int)) (hfr : 1 ≤ R.frames) (hlo : (rest.map fun v => v.category).sum + 18 ≤ R.locals) (hdg : decode cc pc = .ok (.invokestatic idx, 3))
    (kk : ∀ (H1 : Heap) (locs1 : List Loc), zPw cD cy A H0 (zsB S a1 (va_cpy (zB S a0) (zB S a1) sp.toNatClampNeg dp.toNatClampNeg n.toNatClampNeg)) H1 locs1 → W p l e R s m args below meth c H1 locs1 cells slots Q (F0 m (pc + 3) ls rest)) : W p l e R s m args below meth c H locs cells slots Q (F0 m pc ls (.int n :: .int dp :: .ref a1 :: .int sp :: .ref a0 :: rest)) := by
  obtain ⟨q0, hq0⟩ := zW_get (cy := cy) h0
  obtain ⟨q1, hq1⟩ := zW_get (cy := cy) h1
  obtain ⟨m1, m2, m3, m4, m5⟩ := hcf
  obtain ⟨r1, r2, r3, r4⟩ := hr
  have hq := hq1
  rw [zF_l k0] at hq0
  rw [zF_l k1] at hq
  have ng : ∀ z : Int32, 0 ≤ z.toInt → ¬ z < 0 := fun z hz q => by
    rw [Int32.lt_iff_toInt_lt] at q
    have e0 : (0 : Int32).toInt = 0 := rfl
    omega
  have nn : ∀ z : Int32, z.toNatClampNeg = z.toInt.toNat := fun z => rfl
  refine va_copyl m1 m2 hml m4 (m5 _ (hlk _ r1)) (m5 _ (hlk _ r2)) (m5 _ (hlk _ r3)) (m5 _ (hlk _ r4)) hK hw.1 hw.2.1 hw.2.2 q0 q1 1 1 hq0 hq rfl rfl rfl (ng _ p1) (ng _ p2) (ng _ p3) (by rw [nn, nn]; omega) (by rw [nn, nn]; omega) (fun _ _ => rfl) hfr (by show _ + (7 + 11) ≤ _; omega) hdg fun H1 locs1 hP hD hS => ?_
  have e := zW_set (cy := cy) (S' := zsB S a1 (va_cpy (zB S a0) (zB S a1) sp.toNatClampNeg dp.toNatClampNeg n.toNatClampNeg)) hw.2.1 h1 hq1 rfl (fun b => zF_setB k1 b)
  rw [e] at hP hD
  exact kk H1 locs1 ⟨hP, hD, hS⟩
section STP
variable {T : Tt} {ad : Nat → Nat} {gh : zS → Int → Int} {XI : zS → Prop} {S0 : zS} {ρ0 : Nat → Nat} {xs : Nat → Nat} {cD : va_G} {cy : Nat → ClassId} {A : Nat → Prop}
variable {p : Program} {l : Launch} {e : Env} {R : Room} {s : State} {m : MethodId} {args : Array Value} {below : List Frame} {meth : Method} {c : Code} {Q : State → Prop} {cc : ByteArray} {nL : Nat} {Ts : List Cond} {own : String}
variable {L : Lc} {K : List Vl} {E E' : En} {n : Nn} {pc pc' : Nat} {sc : Suc}
variable {mY : Nat → MethodName} {mC : Nat → ByteArray} {mL : Nat → Nat} {mR : Nat → Option FieldType} {lk : LK} {SA SB : List (Nat × List Int)} {oi ML : List Nat} {ST : List Sg} {KT : List KC} {nK : Nat} {scr ini : Bool} {lim : Lim} {cs : List (Nat × List Alt)}
theorem oCallA_ok (hM : MX xs cD cy A p s m args c cc nL Ts own) (hC : CgOK ad gh XI xs cD cy l own mY mC mL mR T lk SA SB oi ML ST KT nK) (hR : lim.1 ≤ R.frames ∧ lim.2.1 ≤ R.cells ∧ lim.2.2.1 ≤ R.slots ∧ lim.2.2.2 ≤ R.locals) {op idx np : Nat} {tl : List (Nat × Nat)} (hce : (idx, (op, np, tl)) ∈ lk.2.2.1) (hd : decode cc pc = .ok (opI op idx, 3)) : ∀ {alts : List Alt}, oCallA T ML ST KT nK lim np tl L K E n pc alts = some sc → (∀ x ∈ sc, Gl T ad gh XI S0 ρ0 xs cD cy A p l e R s m args below meth c Q nL x.2 x.1) → Gl T ad gh XI S0 ρ0 xs cD cy A p l e R s m args below meth c Q nL pc ((L, K), E, n)
  | [], h, _ => by cases h
  | a :: r, h, hs => by
    simp only [oCallA] at h
    split at h
    · rename_i s1 h1
      cases h
      obtain ⟨c1, c2, c3, c4, c5, c6, c7, c8, c9, c10, c11, c12⟩ := hC
      exact oCall1_ok hM c1 c7 c8 c9 c10 c11 hR hce hd h1 hs
    · exact oCallA_ok hM hC hR hce hd h hs
theorem oCall_ok (hM : MX xs cD cy A p s m args c cc nL Ts own) (hC : CgOK ad gh XI xs cD cy l own mY mC mL mR T lk SA SB oi ML ST KT nK) (hR : lim.1 ≤ R.frames ∧ lim.2.1 ≤ R.cells ∧ lim.2.2.1 ≤ R.slots ∧ lim.2.2.2 ≤ R.locals) {op idx : Nat} (hd : decode cc pc = .ok (opI op idx, 3)) (h : oCall T ML ST KT nK lk lim cs op idx L K E n pc = some sc) (hs : ∀ x ∈ sc, Gl T ad gh XI S0 ρ0 xs cD cy A p l e R s m args below meth c Q nL x.2 x.1) : Gl T ad gh XI S0 ρ0 xs cD cy A p l e R s m args below meth c Q nL pc ((L, K), E, n) := by
  unfold oCall at h
  split at h
  · rename_i op' np tl alts h1 h2
    split at h
    · rename_i h3
      have h3 := Nat.eq_of_beq_eq_true h3
      subst h3
      exact oCallA_ok hM hC hR (asc_ok h1) hd h hs
    · cases h
  · cases h
theorem oObj_ok (hM : MX xs cD cy A p s m args c cc nL Ts own) (hnL : c.maxLocals = nL) (hO : ∀ idx ∈ oi, ROI own idx) (hR : lim.1 ≤ R.frames ∧ lim.2.1 ≤ R.cells ∧ lim.2.2.1 ≤ R.slots ∧ lim.2.2.2 ≤ R.locals) {idx : Nat} (hd : decode cc pc = .ok (.invokespecial idx, 3)) (h : oObj oi lim idx L K E n pc = some sc) (hs : ∀ x ∈ sc, Gl T ad gh XI S0 ρ0 xs cD cy A p l e R s m args below meth c Q nL x.2 x.1) : Gl T ad gh XI S0 ρ0 xs cD cy A p l e R s m args below meth c Q nL pc ((L, K), E, n) := by
  intro g τ S ρ H locs cells slots ls hA
  unfold oObj at h
  split at h
  · rename_i i K
    split at h
    · rename_i rs hR0 hc
      simp only [Bool.and_eq_true] at hc
      obtain ⟨⟨⟨c1, c0⟩, c2⟩, c3⟩ := hc
      have c0 : idx < 100000 := Nat.le_of_ble_eq_true c0
      have c2 := Nat.le_of_ble_eq_true c2
      have c3 := Nat.le_of_ble_eq_true c3
      cases h
      have hroi := hO idx (nin_iff.mp c1)
      unfold ROI at hroi
      rw [show idx / 100000 = 0 by omega] at hroi
      obtain ⟨o1, o2, o3⟩ := hroi
      obtain ⟨⟨m1, m2, m3, m4, m5⟩, m6, -⟩ := hM
      obtain ⟨b, hb, -⟩ := hA.1.ref hR0
      have wK := SatA_wfK hA
      have hsz : ls.size = nL := hA.2.2.2.2.2.2.2.1
      have e1 : γK g τ xs (.inr (.inr (.inr (.inl i))) :: K) = .ref b :: γK g τ xs K := by
        show va_rf (τ i) :: γK g τ xs K = _
        rw [hb]; rfl
      show W p l e R s m args below meth c H locs cells slots Q (F0 m pc ls (γK g τ xs (.inr (.inr (.inr (.inl i))) :: K)))
      rw [e1]
      refine W.objInit (a := b) (rest := γK g τ xs K) m1 m2 m4 (m5 _ (m6 _ o1)) (m5 _ (m6 _ o2)) (m5 _ (m6 _ o3)) rfl (by show ls.size = _; rw [hnL]; exact hsz) rfl hd (by omega) (by rw [catS_eq]; show 2 * 0 + catS K + 12 ≤ R.locals; omega) ?_
      exact hs _ List.mem_cons_self g τ S ρ H locs cells slots ls (hA.xt (K' := K) Xt.refl hA.1 (wfK_tl wK) hA.2.2.2.2.2.2.1)
    · cases h
  · cases h
theorem oAcp_ok (hM : MX xs cD cy A p s m args c cc nL Ts own) (hT : TOK T ad gh XI) (hnL : c.maxLocals = nL) (hO : ∀ idx ∈ oi, ROI own idx) (hR : lim.1 ≤ R.frames ∧ lim.2.1 ≤ R.cells ∧ lim.2.2.1 ≤ R.slots ∧ lim.2.2.2 ≤ R.locals) {idx : Nat} (hd : decode cc pc = .ok (.invokestatic idx, 3)) (h : oAcp T oi lim idx L K E n pc = some sc) (hs : ∀ x ∈ sc, Gl T ad gh XI S0 ρ0 xs cD cy A p l e R s m args below meth c Q nL x.2 x.1) : Gl T ad gh XI S0 ρ0 xs cD cy A p l e R s m args below meth c Q nL pc ((L, K), E, n) := by
  intro g τ S ρ H locs cells slots ls hA
  unfold oAcp at h
  split at h
  · rename_i nn dp j1 sp j0 K'
    have wK := SatA_wfK hA
    have wn : wfL E.1.length nn := wfK_hd wK
    have wd : wfL E.1.length dp := wfK_hd (wfK_tl wK)
    have ws : wfL E.1.length sp := wfK_hd (wfK_tl (wfK_tl (wfK_tl wK)))
    have wK' := wfK_tl (wfK_tl (wfK_tl (wfK_tl (wfK_tl wK))))
    split at h
    · rename_i r0 r1 hr0 hr1
      obtain ⟨a0, ht0, hl0, hq0, -, hc0⟩ := hA.1.ref hr0
      obtain ⟨a1, ht1, hl1, hq1, -, hc1⟩ := hA.1.ref hr1
      split at h
      · rename_i l0 l1 e0 e1
        obtain ⟨u1, u2⟩ := aLen_ok e0 _ hq0
        obtain ⟨v1, v2⟩ := aLen_ok e1 _ hq1
        split at h
        · rename_i hc htd
          cases h
          simp only [Bool.and_eq_true] at hc
          obtain ⟨⟨⟨⟨⟨⟨⟨⟨b1, b0⟩, b2⟩, b3⟩, b4⟩, b5⟩, b6⟩, b7⟩, b8⟩ := hc
          have b0 : idx < 100000 := Nat.le_of_ble_eq_true b0
          have b2 := Nat.le_of_ble_eq_true b2
          have b3 := Nat.le_of_ble_eq_true b3
          obtain ⟨n1, n2, n3⟩ := ixOK_ok hA.1 wn b4
          obtain ⟨s1, s2, s3⟩ := ixOK_ok hA.1 ws b5
          obtain ⟨d1, d2, d3⟩ := ixOK_ok hA.1 wd b6
          have c7 := hA.1.ok (wf_lpl (wf_lneg (wf_ladd ws wn))) b7
          have c8 := hA.1.ok (wf_lpl (wf_lneg (wf_ladd wd wn))) b8
          rw [ev_lpl, ev_lneg, ev_ladd] at c7 c8
          have z0 : zN S a0 = (tRi T (ρ a0)).2.1 := hc0.2.1 (by omega)
          have z1 : zN S a1 = (tRi T (ρ a1)).2.1 := hc1.2.1 (by omega)
          have hTy := hA.1.2.2.2.2.2.2.2.2.1
          have hrr := hO _ (nin_iff.mp b1)
          unfold ROI at hrr
          rw [show (100000 + idx) / 100000 = 1 by omega, show (100000 + idx) % 100000 = idx by omega] at hrr
          have hsz : ls.size = nL := hA.2.2.2.2.2.2.2.1
          have q7 : (Int.ofNat l0 : Int) = (l0 : Int) := rfl
          have q8 : (Int.ofNat l1 : Int) = (l1 : Int) := rfl
          show W p l e R s m args below meth c H locs cells slots Q (F0 m pc ls (.int (Int32.ofInt (ev g nn)) :: .int (Int32.ofInt (ev g dp)) :: va_rf (τ j1) :: .int (Int32.ofInt (ev g sp)) :: va_rf (τ j0) :: γK g τ xs K'))
          rw [ht0, ht1]
          refine z_acp hM.1 (by rw [hnL]; exact hsz.symm) hM.2.2.1 hA.2.2.2.2.2.2.1 hM.2.1 hrr hl0 hl1 (hc0.1.trans u1) (hc1.1.trans v1) (by omega) (by omega) (by omega) (by omega) (by omega) (by omega) (by rw [catS_eq]; omega) hd (fun H1 locs1 hw1 => ?_)
          have hfr := fr_B (S := S) (f := va_cpy (zB S a0) (zB S a1) (Int32.ofInt (ev g sp)).toNatClampNeg (Int32.ofInt (ev g dp)).toNatClampNeg (Int32.ofInt (ev g nn)).toNatClampNeg) hT hTy (a := a1) hq1
          exact hs _ List.mem_cons_self g τ _ ρ H1 locs1 cells slots ls (hA.xt (K' := K') Xt.refl (hA.1.step0 hT hfr htd hTy.putB) wK' hw1)
        · cases h
      · cases h
    · cases h
  · cases h
theorem oAbs_ok (hM : MX xs cD cy A p s m args c cc nL Ts own) (hnL : c.maxLocals = nL) (hO : ∀ idx ∈ oi, ROI own idx) (hR : lim.1 ≤ R.frames ∧ lim.2.1 ≤ R.cells ∧ lim.2.2.1 ≤ R.slots ∧ lim.2.2.2 ≤ R.locals) {idx : Nat} (hd : decode cc pc = .ok (.invokestatic idx, 3)) (h : oAbs oi lim idx L K E n pc = some sc) (hs : ∀ x ∈ sc, Gl T ad gh XI S0 ρ0 xs cD cy A p l e R s m args below meth c Q nL x.2 x.1) : Gl T ad gh XI S0 ρ0 xs cD cy A p l e R s m args below meth c Q nL pc ((L, K), E, n) := by
  intro g τ S ρ H locs cells slots ls hA
  have wK := SatA_wfK hA
  have hsz : ls.size = nL := hA.2.2.2.2.2.2.2.1
  unfold oAbs at h
  split at h
  rotate_left
  · cases h
  rename_i x K' hc
  simp only [Bool.and_eq_true] at hc
  obtain ⟨⟨⟨⟨c1, c0⟩, c2⟩, c3⟩, c4⟩ := hc
  have c0 : idx < 100000 := Nat.le_of_ble_eq_true c0
  have c2 := Nat.le_of_ble_eq_true c2
  have hroi := hO _ (nin_iff.mp c1)
  have hN := hA.2.2.2.1
  have hn1 : ev g n.1 ≤ (rg E.1 n.1).2 := (rg_ok hA.1.1 hN.1).2
  have hn2 : ev g n.2 ≤ (rg E.1 n.2).2 := (rg_ok hA.1.1 hN.2).2
  have hcc : cells ≤ R.cells := by
    have q2 := ile_iff.mp c3
    have q3 : (Int.ofNat lim.2.1 : Int) = (lim.2.1 : Int) := rfl
    have q4 : (cells : Int) ≤ ev g n.1 := hA.2.2.2.2.1
    omega
  have hss : slots ≤ R.slots := by
    have q2 := ile_iff.mp c4
    have q3 : (Int.ofNat lim.2.2.1 : Int) = (lim.2.2.1 : Int) := rfl
    have q4 : (slots : Int) ≤ ev g n.2 := hA.2.2.2.2.2.1
    omega
  obtain ⟨⟨m1, m2, m3, m4, m5⟩, m6, -⟩ := hM
  have wK' := wfK_tl wK
  unfold ROI at hroi
  rw [show (500000 + idx) / 100000 = 5 by omega, show (500000 + idx) % 100000 = idx by omega] at hroi
  obtain ⟨o1, o2, o3, o4⟩ := hroi
  split at h
  rotate_left
  · cases h
  rename_i f3
  have f3 := Nat.le_of_ble_eq_true f3
  show W p l e R s m args below meth c H locs cells slots Q (F0 m pc ls (.int (Int32.ofInt (ev g x)) :: γK g τ xs K'))
  refine va_mabs m1 m2 (by rw [hnL]; exact hsz.symm) m4 (m5 _ (m6 _ o1)) (m5 _ (m6 _ o2)) (m5 _ (m6 _ o3)) (m5 _ (m6 _ o4)) (by omega) (by rw [catS_eq]; omega) hcc hss hd ?_
  exact pI_ok h hs hA wK' full32
theorem mnI_le {a b : Int} : mnI a b ≤ a ∧ mnI a b ≤ b ∧ (mnI a b = a ∨ mnI a b = b) := by
  unfold mnI
  cases h : ile a b with
  | true => have := ile_iff.mp h; exact ⟨Int.le_refl _, this, Or.inl rfl⟩
  | false =>
    have : ¬ a ≤ b := fun q => by rw [ile_iff.mpr q] at h; cases h
    exact ⟨by show b ≤ a; omega, Int.le_refl _, Or.inr rfl⟩
theorem mxI_le {a b : Int} : a ≤ mxI a b ∧ b ≤ mxI a b ∧ (mxI a b = a ∨ mxI a b = b) := by
  unfold mxI
  cases h : ile a b with
  | true => have := ile_iff.mp h; exact ⟨this, Int.le_refl _, Or.inr rfl⟩
  | false =>
    have : ¬ a ≤ b := fun q => by rw [ile_iff.mpr q] at h; cases h
    exact ⟨Int.le_refl _, by show b ≤ a; omega, Or.inl rfl⟩
theorem oMM_ok {k : Nat} (hM : MX xs cD cy A p s m args c cc nL Ts own) (hnL : c.maxLocals = nL) (hO : ∀ idx ∈ oi, ROI own idx) (hR : lim.1 ≤ R.frames ∧ lim.2.1 ≤ R.cells ∧ lim.2.2.1 ≤ R.slots ∧ lim.2.2.2 ≤ R.locals) {idx : Nat} (hd : decode cc pc = .ok (.invokestatic idx, 3)) (h : oMM k oi lim idx L K E n pc = some sc) (hs : ∀ x ∈ sc, Gl T ad gh XI S0 ρ0 xs cD cy A p l e R s m args below meth c Q nL x.2 x.1) : Gl T ad gh XI S0 ρ0 xs cD cy A p l e R s m args below meth c Q nL pc ((L, K), E, n) := by
  intro g τ S ρ H locs cells slots ls hA
  have wK := SatA_wfK hA
  have hsz : ls.size = nL := hA.2.2.2.2.2.2.2.1
  have hw := hA.2.2.2.2.2.2.1
  unfold oMM at h
  split at h
  rotate_left 3
  · cases h
  all_goals
    rename_i y x K' hc
    simp only [Bool.and_eq_true] at hc
    obtain ⟨⟨⟨⟨c1, c0⟩, c2⟩, c3⟩, c4⟩ := hc
    have c0 : idx < 100000 := Nat.le_of_ble_eq_true c0
    have c2 := Nat.le_of_ble_eq_true c2
    have hroi := hO _ (nin_iff.mp c1)
    have hN := hA.2.2.2.1
    have hn1 : ev g n.1 ≤ (rg E.1 n.1).2 := (rg_ok hA.1.1 hN.1).2
    have hn2 : ev g n.2 ≤ (rg E.1 n.2).2 := (rg_ok hA.1.1 hN.2).2
    have hcc : cells ≤ R.cells := by
      have q1 := hA.2.2.2.2.1
      have q2 := ile_iff.mp c3
      have q3 : (Int.ofNat lim.2.1 : Int) = (lim.2.1 : Int) := rfl
      have q4 : (cells : Int) ≤ ev g n.1 := q1
      omega
    have hss : slots ≤ R.slots := by
      have q1 := hA.2.2.2.2.2.1
      have q2 := ile_iff.mp c4
      have q3 : (Int.ofNat lim.2.2.1 : Int) = (lim.2.2.1 : Int) := rfl
      have q4 : (slots : Int) ≤ ev g n.2 := q1
      omega
    obtain ⟨⟨m1, m2, m3, m4, m5⟩, m6, -⟩ := hM
    have wy : wfL E.1.length y := wfK_hd wK
    have wx : wfL E.1.length x := wfK_hd (wfK_tl wK)
    have wK' := wfK_tl (wfK_tl wK)
    unfold ROI at hroi
    split at h
    rotate_left
    · cases h
    rename_i hf
    cases h
    simp only [Bool.and_eq_true] at hf
    obtain ⟨⟨f1, f2⟩, f3⟩ := hf
    have f3 := Nat.le_of_ble_eq_true f3
    have ix : (rg E.1 x).1 ≤ ev g x ∧ ev g x ≤ (rg E.1 x).2 := rg_ok hA.1.1 wx
    have iy : (rg E.1 y).1 ≤ ev g y ∧ ev g y ≤ (rg E.1 y).2 := rg_ok hA.1.1 wy
  · rw [show (2 * 100000 + idx) / 100000 = 2 by omega, show (2 * 100000 + idx) % 100000 = idx by omega] at hroi
    obtain ⟨o1, o2, o3, o4⟩ := hroi
    have vx := fit32_of hA.1.1 wx f1
    have vy := fit32_of hA.1.1 wy f2
    show W p l e R s m args below meth c H locs cells slots Q (F0 m pc ls (.int (Int32.ofInt (ev g y)) :: .int (Int32.ofInt (ev g x)) :: γK g τ xs K'))
    refine va_mmax m1 m2 (by rw [hnL]; exact hsz.symm) m4 (m5 _ (m6 _ o1)) (m5 _ (m6 _ o2)) (m5 _ (m6 _ o3)) (m5 _ (m6 _ o4)) (by omega) (by rw [catS_eq]; omega) hcc hss hd ?_
    generalize hv0 : (if (Int32.ofInt (ev g x)) < (Int32.ofInt (ev g y)) then (Int32.ofInt (ev g y)) else (Int32.ofInt (ev g x))) = v
    have hv : ev g x ≤ v.toInt ∧ ev g y ≤ v.toInt ∧ (v.toInt = ev g x ∨ v.toInt = ev g y) := by
      rw [← hv0]
      split
      · rename_i q; rw [Int32.lt_iff_toInt_lt, vx, vy] at q; rw [vy]; omega
      · rename_i q; rw [Int32.lt_iff_toInt_lt, vx, vy] at q; rw [vx]; omega
    have l1 := mxI_le (a := (rg E.1 x).1) (b := (rg E.1 y).1)
    have l2 := mxI_le (a := (rg E.1 x).2) (b := (rg E.1 y).2)
    have hf := SatE.fresh hA.1 (x := mmI 2 (rg E.1 x) (rg E.1 y)) (n := v.toInt) ⟨by show mxI _ _ ≤ _; omega, by show _ ≤ mxI _ _; omega⟩
    have hX : Xt E (eI E (mmI 2 (rg E.1 x) (rg E.1 y))) g (gup g E.1.length v.toInt) τ τ := ⟨by show E.1.length ≤ (E.1 ++ [_]).length; simp, fun i hi => gup_lt hi, Nat.le_refl _, fun _ _ => rfl⟩
    have hk := hX.K (xs := xs) wK'
    have wl : wfL (eI E (mmI 2 (rg E.1 x) (rg E.1 y))).1.length (lsy E.1.length) := wf_lsy (by show E.1.length < (E.1 ++ [_]).length; simp)
    have hx2 := hX.f wx
    have hy2 := hX.f wy
    have e0 : ev (gup g E.1.length v.toInt) (lsy E.1.length) = v.toInt := by rw [ev_lsy, gup_self]
    have e2 : (.int v :: γK g τ xs K' : List Value) = γK (gup g E.1.length v.toInt) τ xs (.inl (lsy E.1.length) :: K') := by
      show _ = .int (Int32.ofInt (ev (gup g E.1.length v.toInt) (lsy E.1.length))) :: γK _ τ xs K'
      rw [e0, ofInt_toInt32, hk.2]
    rw [e2]
    refine br_ok hs (hA.xt (K' := .inl (lsy E.1.length) :: K') hX hf (wfK_cons wl hk.1) hw) (wfK_cons wl hk.1) (fun f hf => ?_)
    simp only [List.mem_cons, List.not_mem_nil, or_false] at hf
    rcases hf with rfl | rfl
    · exact ⟨wf_lsub wl hx2.1, by rw [ev_lsub, e0, hx2.2]; omega⟩
    · exact ⟨wf_lsub wl hy2.1, by rw [ev_lsub, e0, hy2.2]; omega⟩
  · rw [show (3 * 100000 + idx) / 100000 = 3 by omega, show (3 * 100000 + idx) % 100000 = idx by omega] at hroi
    obtain ⟨o1, o2, o3, o4⟩ := hroi
    have vx := fit32_of hA.1.1 wx f1
    have vy := fit32_of hA.1.1 wy f2
    show W p l e R s m args below meth c H locs cells slots Q (F0 m pc ls (.int (Int32.ofInt (ev g y)) :: .int (Int32.ofInt (ev g x)) :: γK g τ xs K'))
    refine va_mmin m1 m2 (by rw [hnL]; exact hsz.symm) m4 (m5 _ (m6 _ o1)) (m5 _ (m6 _ o2)) (m5 _ (m6 _ o3)) (m5 _ (m6 _ o4)) (by omega) (by rw [catS_eq]; omega) hcc hss hd ?_
    generalize hv0 : (if (Int32.ofInt (ev g y)) < (Int32.ofInt (ev g x)) then (Int32.ofInt (ev g y)) else (Int32.ofInt (ev g x))) = v
    have hv : v.toInt ≤ ev g x ∧ v.toInt ≤ ev g y ∧ (v.toInt = ev g x ∨ v.toInt = ev g y) := by
      rw [← hv0]
      split
      · rename_i q; rw [Int32.lt_iff_toInt_lt, vx, vy] at q; rw [vy]; omega
      · rename_i q; rw [Int32.lt_iff_toInt_lt, vx, vy] at q; rw [vx]; omega
    have l1 := mnI_le (a := (rg E.1 x).1) (b := (rg E.1 y).1)
    have l2 := mnI_le (a := (rg E.1 x).2) (b := (rg E.1 y).2)
    have hf := SatE.fresh hA.1 (x := mmI 3 (rg E.1 x) (rg E.1 y)) (n := v.toInt) ⟨by show mnI _ _ ≤ _; omega, by show _ ≤ mnI _ _; omega⟩
    have hX : Xt E (eI E (mmI 3 (rg E.1 x) (rg E.1 y))) g (gup g E.1.length v.toInt) τ τ := ⟨by show E.1.length ≤ (E.1 ++ [_]).length; simp, fun i hi => gup_lt hi, Nat.le_refl _, fun _ _ => rfl⟩
    have hk := hX.K (xs := xs) wK'
    have wl : wfL (eI E (mmI 3 (rg E.1 x) (rg E.1 y))).1.length (lsy E.1.length) := wf_lsy (by show E.1.length < (E.1 ++ [_]).length; simp)
    have hx2 := hX.f wx
    have hy2 := hX.f wy
    have e0 : ev (gup g E.1.length v.toInt) (lsy E.1.length) = v.toInt := by rw [ev_lsy, gup_self]
    have e2 : (.int v :: γK g τ xs K' : List Value) = γK (gup g E.1.length v.toInt) τ xs (.inl (lsy E.1.length) :: K') := by
      show _ = .int (Int32.ofInt (ev (gup g E.1.length v.toInt) (lsy E.1.length))) :: γK _ τ xs K'
      rw [e0, ofInt_toInt32, hk.2]
    rw [e2]
    refine br_ok hs (hA.xt (K' := .inl (lsy E.1.length) :: K') hX hf (wfK_cons wl hk.1) hw) (wfK_cons wl hk.1) (fun f hf => ?_)
    simp only [List.mem_cons, List.not_mem_nil, or_false] at hf
    rcases hf with rfl | rfl
    · exact ⟨wf_lsub hx2.1 wl, by rw [ev_lsub, e0, hx2.2]; omega⟩
    · exact ⟨wf_lsub hy2.1 wl, by rw [ev_lsub, e0, hy2.2]; omega⟩
  · rw [show (4 * 100000 + idx) / 100000 = 4 by omega, show (4 * 100000 + idx) % 100000 = idx by omega] at hroi
    obtain ⟨o1, o2, o3, o4⟩ := hroi
    have vx := fit64_of hA.1.1 wx f1
    have vy := fit64_of hA.1.1 wy f2
    show W p l e R s m args below meth c H locs cells slots Q (F0 m pc ls (.long (Int64.ofInt (ev g y)) :: .long (Int64.ofInt (ev g x)) :: γK g τ xs K'))
    refine va_mmin_long m1 m2 (by rw [hnL]; exact hsz.symm) m4 (m5 _ (m6 _ o1)) (m5 _ (m6 _ o2)) (m5 _ (m6 _ o3)) (m5 _ (m6 _ o4)) (by omega) (by rw [catS_eq]; omega) hcc hss hd ?_
    generalize hv0 : (if (Int64.ofInt (ev g y)) < (Int64.ofInt (ev g x)) then (Int64.ofInt (ev g y)) else (Int64.ofInt (ev g x))) = v
    have hv : v.toInt ≤ ev g x ∧ v.toInt ≤ ev g y ∧ (v.toInt = ev g x ∨ v.toInt = ev g y) := by
      rw [← hv0]
      split
      · rename_i q; rw [Int64.lt_iff_toInt_lt, vx, vy] at q; rw [vy]; omega
      · rename_i q; rw [Int64.lt_iff_toInt_lt, vx, vy] at q; rw [vx]; omega
    have l1 := mnI_le (a := (rg E.1 x).1) (b := (rg E.1 y).1)
    have l2 := mnI_le (a := (rg E.1 x).2) (b := (rg E.1 y).2)
    have hf := SatE.fresh hA.1 (x := mmI 4 (rg E.1 x) (rg E.1 y)) (n := v.toInt) ⟨by show mnI _ _ ≤ _; omega, by show _ ≤ mnI _ _; omega⟩
    have hX : Xt E (eI E (mmI 4 (rg E.1 x) (rg E.1 y))) g (gup g E.1.length v.toInt) τ τ := ⟨by show E.1.length ≤ (E.1 ++ [_]).length; simp, fun i hi => gup_lt hi, Nat.le_refl _, fun _ _ => rfl⟩
    have hk := hX.K (xs := xs) wK'
    have wl : wfL (eI E (mmI 4 (rg E.1 x) (rg E.1 y))).1.length (lsy E.1.length) := wf_lsy (by show E.1.length < (E.1 ++ [_]).length; simp)
    have hx2 := hX.f wx
    have hy2 := hX.f wy
    have e0 : ev (gup g E.1.length v.toInt) (lsy E.1.length) = v.toInt := by rw [ev_lsy, gup_self]
    have e2 : (.long v :: γK g τ xs K' : List Value) = γK (gup g E.1.length v.toInt) τ xs (.inr (.inl (lsy E.1.length)) :: K') := by
      show _ = .long (Int64.ofInt (ev (gup g E.1.length v.toInt) (lsy E.1.length))) :: γK _ τ xs K'
      rw [e0, ofInt_toInt64, hk.2]
    rw [e2]
    refine br_ok hs (hA.xt (K' := .inr (.inl (lsy E.1.length)) :: K') hX hf (wfK_cons wl hk.1) hw) (wfK_cons wl hk.1) (fun f hf => ?_)
    simp only [List.mem_cons, List.not_mem_nil, or_false] at hf
    rcases hf with rfl | rfl
    · exact ⟨wf_lsub hx2.1 wl, by rw [ev_lsub, e0, hx2.2]; omega⟩
    · exact ⟨wf_lsub hy2.1 wl, by rw [ev_lsub, e0, hy2.2]; omega⟩
end STP
