/-! loads, stores, pushes, arithmetic: sound -/
def oI (v : Int) (L : Lc) (K : List Vl) (E : En) (n : Nn) (pc : Nat) : Option Suc := one L (.inl (lc v) :: K) E n pc
def oJ (v : Int) (L : Lc) (K : List Vl) (E : En) (n : Nn) (pc : Nat) : Option Suc := one L (.inr (.inl (lc v)) :: K) E n pc
def oBip (v : Int) (L : Lc) (K : List Vl) (E : En) (n : Nn) (pc : Nat) : Option Suc := match ile (-128) v && ile v 127 with
  | true => oI v L K E n pc
  | false => none
def oSip (v : Int) (L : Lc) (K : List Vl) (E : En) (n : Nn) (pc : Nat) : Option Suc := match ile (-32768) v && ile v 32767 with
  | true => oI v L K E n pc
  | false => none
/-- division: the parts of a number -/
def lkM (k : Nat) (as : List Lin) : List Mem → Option Lin
  | [] => none
  | m :: r => match Nat.beq m.1 k && lsEq m.2.1 as with
    | true => some m.2.2
    | false => lkM k as r
where
  tmEq : List (Nat × Int) → List (Nat × Int) → Bool
  | [], [] => true
  | a :: r, b :: t => match Nat.beq a.1 b.1 && ieq a.2 b.2 with
    | true => tmEq r t
    | false => false
  | _, _ => false
  lnEq (f h : Lin) : Bool := match ieq f.1 h.1 with
  | true => tmEq f.2 h.2
  | false => false
  lsEq : List Lin → List Lin → Bool
  | [], [] => true
  | a :: r, b :: t => match lnEq a b with
    | true => lsEq r t
    | false => false
  | _, _ => false
theorem tmEq_ok : ∀ {a b : List (Nat × Int)}, lkM.tmEq a b = true → a = b
  | [], [], _ => rfl
  | [], _ :: _, h => by simp [lkM.tmEq] at h
  | _ :: _, [], h => by simp [lkM.tmEq] at h
  | a :: r, b :: t, h => by
    simp only [lkM.tmEq] at h
    cases e : Nat.beq a.1 b.1 && ieq a.2 b.2 with
    | false => rw [e] at h; cases h
    | true =>
      rw [e] at h
      rw [Bool.and_eq_true] at e
      have e1 := Nat.eq_of_beq_eq_true e.1
      have e2 := ieq_iff.mp e.2
      rw [tmEq_ok h, show a = b from Prod.ext e1 e2]
theorem lnEq_ok {f h : Lin} (e : lkM.lnEq f h = true) : f = h := by
  unfold lkM.lnEq at e
  cases e1 : ieq f.1 h.1 with
  | false => rw [e1] at e; cases e
  | true => rw [e1] at e; exact Prod.ext (ieq_iff.mp e1) (tmEq_ok e)
theorem lsEq_ok : ∀ {a b : List Lin}, lkM.lsEq a b = true → a = b
  | [], [], _ => rfl
  | [], _ :: _, h => by simp [lkM.lsEq] at h
  | _ :: _, [], h => by simp [lkM.lsEq] at h
  | a :: r, b :: t, h => by
    simp only [lkM.lsEq] at h
    cases e : lkM.lnEq a b with
    | false => rw [e] at h; cases h
    | true => rw [e] at h; rw [lnEq_ok e, lsEq_ok h]
theorem lkM_ok {k : Nat} {as : List Lin} {f : Lin} : ∀ {M : List Mem}, lkM k as M = some f → (k, as, f) ∈ M
  | [], h => by simp [lkM] at h
  | m :: r, h => by
    simp only [lkM] at h
    cases e : Nat.beq m.1 k && lkM.lsEq m.2.1 as with
    | false => rw [e] at h; exact List.mem_cons_of_mem _ (lkM_ok h)
    | true =>
      rw [e] at h
      rw [Bool.and_eq_true] at e
      have e1 := Nat.eq_of_beq_eq_true e.1
      have e2 := lsEq_ok e.2
      have h := Option.some.inj h
      obtain ⟨a, b, d⟩ := m
      dsimp only at e1 e2 h
      rw [← e1, ← e2, ← h]
      exact List.mem_cons_self
/-- quotient and remainder of x (0 at least) by c (2 at least): as forms, in an environment that knows them -/
def dvE (E : En) (x : Lin) (c : Int) : En × Lin × Lin := match lkM 0 [x, lc c] E.2.2.2.1, lkM 1 [x, lc c] E.2.2.2.1 with
  | some q, some r => (E, q, r)
  | _, _ => match rg E.1 x with
    | (lo, hi) => match eI (eI E (lo / c, hi / c)) (0, c - 1) with
      | E1 => match lsy E.1.length, lsy (E.1.length + 1) with
        | q, r => match eM (eM E1 (0, [x, lc c], q)) (1, [x, lc c], r) with
          | E2 => (eFs E2 (lsub (lsub x (lsc c q)) r :: lsub (ladd (lsc c q) r) x :: (match ile 1 lo with
            | true => [lpl (lsub x q) (Int.negSucc 0)]
            | false => [])), q, r)
def oDiv (rem : Bool) (x y : Lin) (E : En) (lo hi : Int) : Option (En × Rs) := match rg E.1 x, rg E.1 y with
  | (xl, xh), (yl, yh) => match ile 1 yl, ile lo xl && ile xh hi && ile yh hi with
    | true, true => match ile 0 xl, isc y && ile 2 y.1 with
      | true, true => match dvE E x y.1 with
        | (E', q, r) => some (E', .inl (if rem then r else q))
      | true, false => match rem with
        | true => some (eFs (eM (eI E (0, yh - 1)) (1, [x, y], lsy E.1.length)) [lpl (lsub y (lsy E.1.length)) (Int.negSucc 0)], .inl (lsy E.1.length))
        | false => some (E, .inr (0, xh))
      | false, _ => some (E, if rem then .inr (-(yh - 1), yh - 1) else .inr (lo, hi))
    | _, _ => none
/-- shifted down by a constant: what is not below 0 is divided -/
def oShr (L : Lc) (K : List Vl) (E : En) (n : Nn) (pc : Nat) : Option Suc := match K with
  | .inl y :: .inl x :: K => match shn y, fit32 E.1 x && ile 0 (rg E.1 x).1 with
    | some (m + 1), true => match dvE E x (Int.ofNat (2 ^ (m + 1))) with
      | (E', q, _) => pI (.inl q) L K E' n pc
    | _, _ => pI (rShr E.1 x y) L K E n pc
  | _ => none
def oDivI (rem : Bool) (L : Lc) (K : List Vl) (E : En) (n : Nn) (pc : Nat) : Option Suc := match K with
  | .inl y :: .inl x :: K => match fit32 E.1 x with
    | true => match oDiv rem x y E k32l k32h with
      | some (E', r) => pI r L K E' n pc
      | none => none
    | false => match eI E (k32l, k32h), lsy E.1.length with
      | E1, x1 => match oDiv rem x1 y E1 k32l k32h with
        | some (E', r) => pI r L K E' n pc
        | none => none
  | _ => none
def oDivJ (rem : Bool) (L : Lc) (K : List Vl) (E : En) (n : Nn) (pc : Nat) : Option Suc := match K with
  | .inr (.inl y) :: .inr (.inl x) :: K => match fit64 E.1 x with
    | true => match oDiv rem x y E k64l k64h with
      | some (E', r) => pJ r L K E' n pc
      | none => none
    | false => match eI E (k64l, k64h), lsy E.1.length with
      | E1, x1 => match oDiv rem x1 y E1 k64l k64h with
        | some (E', r) => pJ r L K E' n pc
        | none => none
  | _ => none
section OPS2
variable {T : Tt} {ad : Nat → Nat} {gh : zS → Int → Int} {XI : zS → Prop} {S0 : zS} {ρ0 : Nat → Nat} {xs : Nat → Nat} {cD : va_G} {cy : Nat → ClassId} {A : Nat → Prop}
variable {p : Program} {l : Launch} {e : Env} {R : Room} {s : State} {m : MethodId} {args : Array Value} {below : List Frame} {meth : Method} {c : Code} {Q : State → Prop} {cc : ByteArray} {nL : Nat} {Ts : List Cond} {own : String}
variable {L : Lc} {K : List Vl} {E : En} {n : Nn} {pc pc' : Nat} {sc : Suc}
/-- a rule of the machine that reads nothing but the stack -/
def WR (p : Program) (l : Launch) (e : Env) (R : Room) (s : State) (m : MethodId) (args : Array Value) (below : List Frame) (meth : Method) (c : Code) (Q : State → Prop) (pc pc' : Nat) (st st' : List Value) : Prop :=
  ∀ H locs cells slots ls, W p l e R s m args below meth c H locs cells slots Q (F0 m pc' ls st') → W p l e R s m args below meth c H locs cells slots Q (F0 m pc ls st)
theorem g_one {K' : List Vl} (h : one L K' E n pc' = some sc) (hs : ∀ x ∈ sc, Gl T ad gh XI S0 ρ0 xs cD cy A p l e R s m args below meth c Q nL x.2 x.1) (hk : wfK E K → wfK E K') (hW : ∀ g τ, WR p l e R s m args below meth c Q pc pc' (γK g τ xs K) (γK g τ xs K')) : Gl T ad gh XI S0 ρ0 xs cD cy A p l e R s m args below meth c Q nL pc ((L, K), E, n) := by
  intro g τ S ρ H locs cells slots ls hA
  cases h
  exact hW g τ H locs cells slots ls (hs _ List.mem_cons_self g τ S ρ H locs cells slots ls (hA.xt Xt.refl hA.1 (hk (SatA_wfK hA)) hA.2.2.2.2.2.2.1))
theorem oI_ok {v : Int} (h : oI v L K E n pc' = some sc) (hs : ∀ x ∈ sc, Gl T ad gh XI S0 ρ0 xs cD cy A p l e R s m args below meth c Q nL x.2 x.1) (hW : ∀ st, WR p l e R s m args below meth c Q pc pc' st (.int (Int32.ofInt v) :: st)) : Gl T ad gh XI S0 ρ0 xs cD cy A p l e R s m args below meth c Q nL pc ((L, K), E, n) :=
  g_one h hs (fun w => wfK_cons wf_lc w) (fun g τ => by
    show WR p l e R s m args below meth c Q pc pc' (γK g τ xs K) (.int (Int32.ofInt (ev g (lc v))) :: γK g τ xs K)
    rw [ev_lc]; exact hW _)
theorem oJ_ok {v : Int} (h : oJ v L K E n pc' = some sc) (hs : ∀ x ∈ sc, Gl T ad gh XI S0 ρ0 xs cD cy A p l e R s m args below meth c Q nL x.2 x.1) (hW : ∀ st, WR p l e R s m args below meth c Q pc pc' st (.long (Int64.ofInt v) :: st)) : Gl T ad gh XI S0 ρ0 xs cD cy A p l e R s m args below meth c Q nL pc ((L, K), E, n) :=
  g_one h hs (fun w => wfK_cons (v := .inr (.inl (lc v))) wf_lc w) (fun g τ => by
    show WR p l e R s m args below meth c Q pc pc' (γK g τ xs K) (.long (Int64.ofInt (ev g (lc v))) :: γK g τ xs K)
    rw [ev_lc]; exact hW _)
theorem bip_of : ∀ v : Int, -128 ≤ v → v ≤ 127 → (Int8.ofInt v).toInt32 = Int32.ofInt v := by
  intro v h1 h2
  rw [← Int32.toInt_inj, Int8.toInt_toInt32, Int8.toInt_ofInt_of_le (by omega) (by omega), Int32.toInt_ofInt_of_le (by omega) (by omega)]
theorem sip_of : ∀ v : Int, -32768 ≤ v → v ≤ 32767 → (Int16.ofInt v).toInt32 = Int32.ofInt v := by
  intro v h1 h2
  rw [← Int32.toInt_inj, Int16.toInt_toInt32, Int16.toInt_ofInt_of_le (by omega) (by omega), Int32.toInt_ofInt_of_le (by omega) (by omega)]
theorem oBip_ok (hx : p.tables.exec = Jvm.exec) (hb : c.code = cc) {v : Int} (hd : decode cc pc = .ok (.bipush v, 2)) (h : oBip v L K E n (pc + 2) = some sc) (hs : ∀ x ∈ sc, Gl T ad gh XI S0 ρ0 xs cD cy A p l e R s m args below meth c Q nL x.2 x.1) : Gl T ad gh XI S0 ρ0 xs cD cy A p l e R s m args below meth c Q nL pc ((L, K), E, n) := by
  unfold oBip at h
  cases e1 : ile (-128) v && ile v 127 with
  | false => rw [e1] at h; cases h
  | true =>
    rw [e1] at h
    rw [Bool.and_eq_true] at e1
    exact oI_ok h hs (fun st H locs cells slots ls k => lv_bipush hx hb hd (bip_of v (ile_iff.mp e1.1) (ile_iff.mp e1.2)) k)
theorem oSip_ok (hx : p.tables.exec = Jvm.exec) (hb : c.code = cc) {v : Int} (hd : decode cc pc = .ok (.sipush v, 3)) (h : oSip v L K E n (pc + 3) = some sc) (hs : ∀ x ∈ sc, Gl T ad gh XI S0 ρ0 xs cD cy A p l e R s m args below meth c Q nL x.2 x.1) : Gl T ad gh XI S0 ρ0 xs cD cy A p l e R s m args below meth c Q nL pc ((L, K), E, n) := by
  unfold oSip at h
  cases e1 : ile (-32768) v && ile v 32767 with
  | false => rw [e1] at h; cases h
  | true =>
    rw [e1] at h
    rw [Bool.and_eq_true] at e1
    exact oI_ok h hs (fun st H locs cells slots ls k => lv_sipush hx hb hd (sip_of v (ile_iff.mp e1.1) (ile_iff.mp e1.2)) k)
theorem oBin_ok {r : List Itv → Lin → Lin → Rs} {op : Int32 → Int32 → Int32} (hr : ∀ (I : List Itv) (g : Nat → Int) (x y : Lin), SatI I g → wfL I.length x → wfL I.length y → Rs32 I.length g (r I x y) (op (Int32.ofInt (ev g x)) (Int32.ofInt (ev g y)))) (h : oBin r L K E n pc' = some sc) (hs : ∀ x ∈ sc, Gl T ad gh XI S0 ρ0 xs cD cy A p l e R s m args below meth c Q nL x.2 x.1)
    (hW : ∀ x y st, WR p l e R s m args below meth c Q pc pc' (.int y :: .int x :: st) (.int (op x y) :: st)) : Gl T ad gh XI S0 ρ0 xs cD cy A p l e R s m args below meth c Q nL pc ((L, K), E, n) := by
  intro g τ S ρ H locs cells slots ls hA
  unfold oBin at h
  match K, h, hA with
  | .inl y :: .inl x :: K, h, hA =>
    have wK := SatA_wfK hA
    exact hW _ _ _ H locs cells slots ls (pI_ok h hs hA (wfK_tl (wfK_tl wK)) (hr E.1 g x y hA.1.1 (wfK_hd (wfK_tl wK)) (wfK_hd wK)))
theorem oBinJ_ok {r : List Itv → Lin → Lin → Rs} {op : Int64 → Int64 → Int64} (hr : ∀ (I : List Itv) (g : Nat → Int) (x y : Lin), SatI I g → wfL I.length x → wfL I.length y → Rs64 I.length g (r I x y) (op (Int64.ofInt (ev g x)) (Int64.ofInt (ev g y)))) (h : oBinJ r L K E n pc' = some sc) (hs : ∀ x ∈ sc, Gl T ad gh XI S0 ρ0 xs cD cy A p l e R s m args below meth c Q nL x.2 x.1)
    (hW : ∀ x y st, WR p l e R s m args below meth c Q pc pc' (.long y :: .long x :: st) (.long (op x y) :: st)) : Gl T ad gh XI S0 ρ0 xs cD cy A p l e R s m args below meth c Q nL pc ((L, K), E, n) := by
  intro g τ S ρ H locs cells slots ls hA
  unfold oBinJ at h
  match K, h, hA with
  | .inr (.inl y) :: .inr (.inl x) :: K, h, hA =>
    have wK := SatA_wfK hA
    exact hW _ _ _ H locs cells slots ls (pJ_ok h hs hA (wfK_tl (wfK_tl wK)) (hr E.1 g x y hA.1.1 (wfK_hd (wfK_tl wK)) (wfK_hd wK)))
theorem oShJ_ok {op : Int64 → Int32 → Int64} (h : oShJ L K E n pc' = some sc) (hs : ∀ x ∈ sc, Gl T ad gh XI S0 ρ0 xs cD cy A p l e R s m args below meth c Q nL x.2 x.1)
    (hW : ∀ x y st, WR p l e R s m args below meth c Q pc pc' (.int y :: .long x :: st) (.long (op x y) :: st)) : Gl T ad gh XI S0 ρ0 xs cD cy A p l e R s m args below meth c Q nL pc ((L, K), E, n) := by
  intro g τ S ρ H locs cells slots ls hA
  unfold oShJ at h
  match K, h, hA with
  | .inl y :: .inr (.inl x) :: K, h, hA =>
    have wK := SatA_wfK hA
    exact hW _ _ _ H locs cells slots ls (pJ_ok h hs hA (wfK_tl (wfK_tl wK)) full64)
theorem oUn_ok {r : List Itv → Lin → Rs} {op : Int32 → Int32} (hr : ∀ (I : List Itv) (g : Nat → Int) (x : Lin), SatI I g → wfL I.length x → Rs32 I.length g (r I x) (op (Int32.ofInt (ev g x)))) (h : oUn r L K E n pc' = some sc) (hs : ∀ x ∈ sc, Gl T ad gh XI S0 ρ0 xs cD cy A p l e R s m args below meth c Q nL x.2 x.1)
    (hW : ∀ x st, WR p l e R s m args below meth c Q pc pc' (.int x :: st) (.int (op x) :: st)) : Gl T ad gh XI S0 ρ0 xs cD cy A p l e R s m args below meth c Q nL pc ((L, K), E, n) := by
  intro g τ S ρ H locs cells slots ls hA
  unfold oUn at h
  match K, h, hA with
  | .inl x :: K, h, hA =>
    have wK := SatA_wfK hA
    exact hW _ _ H locs cells slots ls (pI_ok h hs hA (wfK_tl wK) (hr E.1 g x hA.1.1 (wfK_hd wK)))
theorem oUnJ_ok {r : List Itv → Lin → Rs} {op : Int64 → Int64} (hr : ∀ (I : List Itv) (g : Nat → Int) (x : Lin), SatI I g → wfL I.length x → Rs64 I.length g (r I x) (op (Int64.ofInt (ev g x)))) (h : oUnJ r L K E n pc' = some sc) (hs : ∀ x ∈ sc, Gl T ad gh XI S0 ρ0 xs cD cy A p l e R s m args below meth c Q nL x.2 x.1)
    (hW : ∀ x st, WR p l e R s m args below meth c Q pc pc' (.long x :: st) (.long (op x) :: st)) : Gl T ad gh XI S0 ρ0 xs cD cy A p l e R s m args below meth c Q nL pc ((L, K), E, n) := by
  intro g τ S ρ H locs cells slots ls hA
  unfold oUnJ at h
  match K, h, hA with
  | .inr (.inl x) :: K, h, hA =>
    have wK := SatA_wfK hA
    exact hW _ _ H locs cells slots ls (pJ_ok h hs hA (wfK_tl wK) (hr E.1 g x hA.1.1 (wfK_hd wK)))
theorem oI2l_ok (hx : p.tables.exec = Jvm.exec) (hb : c.code = cc) (hd : decode cc pc = .ok (.i2l, 1)) (h : oI2l L K E n (pc + 1) = some sc) (hs : ∀ x ∈ sc, Gl T ad gh XI S0 ρ0 xs cD cy A p l e R s m args below meth c Q nL x.2 x.1) : Gl T ad gh XI S0 ρ0 xs cD cy A p l e R s m args below meth c Q nL pc ((L, K), E, n) := by
  intro g τ S ρ H locs cells slots ls hA
  unfold oI2l at h
  match K, h, hA with
  | .inl x :: K, h, hA =>
    have wK := SatA_wfK hA
    exact lv_i2l hx hb hd rfl (pJ_ok h hs hA (wfK_tl wK) (i2l64 hA.1.1 (wfK_hd wK)))
theorem oL2i_ok (hx : p.tables.exec = Jvm.exec) (hb : c.code = cc) (hd : decode cc pc = .ok (.l2i, 1)) (h : oL2i L K E n (pc + 1) = some sc) (hs : ∀ x ∈ sc, Gl T ad gh XI S0 ρ0 xs cD cy A p l e R s m args below meth c Q nL x.2 x.1) : Gl T ad gh XI S0 ρ0 xs cD cy A p l e R s m args below meth c Q nL pc ((L, K), E, n) := by
  intro g τ S ρ H locs cells slots ls hA
  unfold oL2i at h
  match K, h, hA with
  | .inr (.inl x) :: K, h, hA =>
    have wK := SatA_wfK hA
    exact lv_l2i hx hb hd rfl (pI_ok h hs hA (wfK_tl wK) (l2i32 (wfK_hd wK)))
theorem oLcmp_ok (hx : p.tables.exec = Jvm.exec) (hb : c.code = cc) (hd : decode cc pc = .ok (.lcmp, 1)) (h : oLcmp L K E n (pc + 1) = some sc) (hs : ∀ x ∈ sc, Gl T ad gh XI S0 ρ0 xs cD cy A p l e R s m args below meth c Q nL x.2 x.1) : Gl T ad gh XI S0 ρ0 xs cD cy A p l e R s m args below meth c Q nL pc ((L, K), E, n) := by
  intro g τ S ρ H locs cells slots ls hA
  unfold oLcmp at h
  match K, h, hA with
  | .inr (.inl y) :: .inr (.inl x) :: K, h, hA =>
    have wK := SatA_wfK hA
    have wy : wfL E.1.length y := wfK_hd wK
    have wx : wfL E.1.length x := wfK_hd (wfK_tl wK)
    have wK := wfK_tl (wfK_tl wK)
    dsimp only at h
    cases ef : fit64 E.1 x && fit64 E.1 y with
    | false =>
      rw [ef] at h
      exact W.lcmp hx hb hd (pI_ok h hs hA wK lcmp_rng)
    | true =>
      rw [ef] at h
      cases h
      rw [Bool.and_eq_true] at ef
      refine W.lcmp hx hb hd ?_
      rw [lcmp_of hA.1.1 wx wy ef.1 ef.2]
      exact hs _ List.mem_cons_self g τ S ρ H locs cells slots ls (hA.xt Xt.refl hA.1 (wfK_cons (v := .inr (.inr (.inl (lsub x y)))) (wf_lsub wx wy) wK) hA.2.2.2.2.2.2.1)
theorem c1 {v : Vl} (h : vcat v = 1) {g : Nat → Int} {τ : Nat → Option Nat} : (γ g τ xs v).category = 1 := by rw [γ_cat]; exact h
theorem oDup_ok (hx : p.tables.exec = Jvm.exec) (hb : c.code = cc) (hd : decode cc pc = .ok (.dup, 1)) (h : oDup L K E n (pc + 1) = some sc) (hs : ∀ x ∈ sc, Gl T ad gh XI S0 ρ0 xs cD cy A p l e R s m args below meth c Q nL x.2 x.1) : Gl T ad gh XI S0 ρ0 xs cD cy A p l e R s m args below meth c Q nL pc ((L, K), E, n) := by
  unfold oDup at h
  match K, h with
  | v :: K, h =>
    dsimp only at h
    split at h
    · rename_i ev
      exact g_one h hs (fun w => wfK_cons (wfK_hd w) w) (fun g τ H locs cells slots ls k => lv_dup hx hb hd (c1 ev) k)
    · cases h
theorem oPop_ok (hx : p.tables.exec = Jvm.exec) (hb : c.code = cc) (hd : decode cc pc = .ok (.pop, 1)) (h : oPop L K E n (pc + 1) = some sc) (hs : ∀ x ∈ sc, Gl T ad gh XI S0 ρ0 xs cD cy A p l e R s m args below meth c Q nL x.2 x.1) : Gl T ad gh XI S0 ρ0 xs cD cy A p l e R s m args below meth c Q nL pc ((L, K), E, n) := by
  unfold oPop at h
  match K, h with
  | v :: K, h =>
    dsimp only at h
    split at h
    · rename_i ev
      exact g_one h hs wfK_tl (fun g τ H locs cells slots ls k => lv_pop hx hb hd (c1 ev) k)
    · cases h
theorem oDupX1_ok (hx : p.tables.exec = Jvm.exec) (hb : c.code = cc) (hd : decode cc pc = .ok (.dup_x1, 1)) (h : oDupX1 L K E n (pc + 1) = some sc) (hs : ∀ x ∈ sc, Gl T ad gh XI S0 ρ0 xs cD cy A p l e R s m args below meth c Q nL x.2 x.1) : Gl T ad gh XI S0 ρ0 xs cD cy A p l e R s m args below meth c Q nL pc ((L, K), E, n) := by
  unfold oDupX1 at h
  match K, h with
  | v :: u :: K, h =>
    dsimp only at h
    split at h
    · rename_i e1 e2
      exact g_one h hs (fun w => wfK_cons (wfK_hd w) (wfK_cons (wfK_hd (wfK_tl w)) (wfK_cons (wfK_hd w) (wfK_tl (wfK_tl w))))) (fun g τ H locs cells slots ls k => lv_dup_x1 hx hb hd (c1 e1) (c1 e2) k)
    · cases h
theorem oDup2_ok (hx : p.tables.exec = Jvm.exec) (hb : c.code = cc) (hd : decode cc pc = .ok (.dup2, 1)) (h : oDup2 L K E n (pc + 1) = some sc) (hs : ∀ x ∈ sc, Gl T ad gh XI S0 ρ0 xs cD cy A p l e R s m args below meth c Q nL x.2 x.1) : Gl T ad gh XI S0 ρ0 xs cD cy A p l e R s m args below meth c Q nL pc ((L, K), E, n) := by
  unfold oDup2 at h
  split at h
  · exact g_one h hs (fun w => wfK_cons (wfK_hd w) w) (fun g τ H locs cells slots ls k => lv_dup2_2 hx hb hd rfl k)
  · split at h
    · rename_i e1 e2
      exact g_one h hs (fun w => wfK_cons (wfK_hd w) (wfK_cons (wfK_hd (wfK_tl w)) w)) (fun g τ H locs cells slots ls k => lv_dup2_11 hx hb hd (c1 e1) (c1 e2) k)
    · cases h
  · cases h
theorem oPop2_ok (hx : p.tables.exec = Jvm.exec) (hb : c.code = cc) (hd : decode cc pc = .ok (.pop2, 1)) (h : oPop2 L K E n (pc + 1) = some sc) (hs : ∀ x ∈ sc, Gl T ad gh XI S0 ρ0 xs cD cy A p l e R s m args below meth c Q nL x.2 x.1) : Gl T ad gh XI S0 ρ0 xs cD cy A p l e R s m args below meth c Q nL pc ((L, K), E, n) := by
  unfold oPop2 at h
  split at h
  · exact g_one h hs wfK_tl (fun g τ H locs cells slots ls k => lv_pop2_2 hx hb hd rfl k)
  · split at h
    · rename_i e1 e2
      exact g_one h hs (fun w => wfK_tl (wfK_tl w)) (fun g τ H locs cells slots ls k => lv_pop2_11 hx hb hd (c1 e1) (c1 e2) k)
    · cases h
  · cases h
/-- a local read -/
theorem g_load {i : Nat} {v : Vl} (hv : gtL i L = some v) (h : one L (v :: K) E n pc' = some sc) (hs : ∀ x ∈ sc, Gl T ad gh XI S0 ρ0 xs cD cy A p l e R s m args below meth c Q nL x.2 x.1)
    (hW : ∀ g τ (st : List Value) (ls : Array Slot), ls[i]? = some (.val (γ g τ xs v)) → ∀ H locs cells slots, W p l e R s m args below meth c H locs cells slots Q (F0 m pc' ls (γ g τ xs v :: st)) → W p l e R s m args below meth c H locs cells slots Q (F0 m pc ls st)) : Gl T ad gh XI S0 ρ0 xs cD cy A p l e R s m args below meth c Q nL pc ((L, K), E, n) := by
  intro g τ S ρ H locs cells slots ls hA
  cases h
  obtain ⟨k, hk⟩ := gtL_at (g := g) (τ := τ) (xs := xs) hv
  exact hW g τ _ ls (lv_at hA.2.2.2.2.2.2.2 k hk) H locs cells slots (hs _ List.mem_cons_self g τ S ρ H locs cells slots ls (hA.xt Xt.refl hA.1 (wfK_cons (gtL_wf hA.2.1 hv) (SatA_wfK hA)) hA.2.2.2.2.2.2.1))
theorem oIload_ok {i : Nat} (h : oIload i L K E n pc' = some sc) (hs : ∀ x ∈ sc, Gl T ad gh XI S0 ρ0 xs cD cy A p l e R s m args below meth c Q nL x.2 x.1)
    (hW : ∀ (x : Int32) (st : List Value) (ls : Array Slot), ls[i]? = some (.val (.int x)) → ∀ H locs cells slots, W p l e R s m args below meth c H locs cells slots Q (F0 m pc' ls (.int x :: st)) → W p l e R s m args below meth c H locs cells slots Q (F0 m pc ls st)) : Gl T ad gh XI S0 ρ0 xs cD cy A p l e R s m args below meth c Q nL pc ((L, K), E, n) := by
  unfold oIload at h
  split at h
  · rename_i f hv
    exact g_load hv h hs (fun g τ st ls hl => hW _ st ls hl)
  · cases h
theorem oLload_ok {i : Nat} (h : oLload i L K E n pc' = some sc) (hs : ∀ x ∈ sc, Gl T ad gh XI S0 ρ0 xs cD cy A p l e R s m args below meth c Q nL x.2 x.1)
    (hW : ∀ (x : Int64) (st : List Value) (ls : Array Slot), ls[i]? = some (.val (.long x)) → ∀ H locs cells slots, W p l e R s m args below meth c H locs cells slots Q (F0 m pc' ls (.long x :: st)) → W p l e R s m args below meth c H locs cells slots Q (F0 m pc ls st)) : Gl T ad gh XI S0 ρ0 xs cD cy A p l e R s m args below meth c Q nL pc ((L, K), E, n) := by
  unfold oLload at h
  split at h
  · rename_i f hv
    exact g_load hv h hs (fun g τ st ls hl => hW _ st ls hl)
  · cases h
theorem oAload_ok {i : Nat} (h : oAload i L K E n pc' = some sc) (hs : ∀ x ∈ sc, Gl T ad gh XI S0 ρ0 xs cD cy A p l e R s m args below meth c Q nL x.2 x.1)
    (hW : ∀ (x : Nat) (st : List Value) (ls : Array Slot), ls[i]? = some (.val (.ref x)) → ∀ H locs cells slots, W p l e R s m args below meth c H locs cells slots Q (F0 m pc' ls (.ref x :: st)) → W p l e R s m args below meth c H locs cells slots Q (F0 m pc ls st))
    (hN : ∀ (st : List Value) (ls : Array Slot), ls[i]? = some (.val .null) → ∀ H locs cells slots, W p l e R s m args below meth c H locs cells slots Q (F0 m pc' ls (.null :: st)) → W p l e R s m args below meth c H locs cells slots Q (F0 m pc ls st)) : Gl T ad gh XI S0 ρ0 xs cD cy A p l e R s m args below meth c Q nL pc ((L, K), E, n) := by
  unfold oAload at h
  split at h
  · rename_i v hv
    refine g_load hv h hs (fun g τ st ls hl => ?_)
    match v, hl with
    | .inl j, hl =>
      have hl : ls[i]? = some (.val (va_rf (τ j))) := hl
      show ∀ H locs cells slots, W p l e R s m args below meth c H locs cells slots Q (F0 m pc' ls (va_rf (τ j) :: st)) → _
      cases ht : τ j with
      | none => rw [ht] at hl; exact hN st ls hl
      | some a => rw [ht] at hl; exact hW a st ls hl
    | .inr k, hl => exact hW (xs k) st ls hl
  · cases h
/-- a local written -/
theorem g_store1 {i : Nat} {v : Vl} {K' : List Vl} (h : one (stL1 i v L) K' E n pc' = some sc) (hs : ∀ x ∈ sc, Gl T ad gh XI S0 ρ0 xs cD cy A p l e R s m args below meth c Q nL x.2 x.1) (hv : wfK E K → wfLc E L → wfV E.1.length E.2.1.length v ∧ wfK E K')
    (hW : ∀ g τ (ls : Array Slot), lv_has ls nL (γL g τ xs L) → ∀ H locs cells slots, (∀ ls', lv_has ls' nL (γL g τ xs (stL1 i v L)) → W p l e R s m args below meth c H locs cells slots Q (F0 m pc' ls' (γK g τ xs K'))) → W p l e R s m args below meth c H locs cells slots Q (F0 m pc ls (γK g τ xs K))) : Gl T ad gh XI S0 ρ0 xs cD cy A p l e R s m args below meth c Q nL pc ((L, K), E, n) := by
  intro g τ S ρ H locs cells slots ls hA
  cases h
  obtain ⟨w1, w2⟩ := hv (SatA_wfK hA) hA.2.1
  exact hW g τ ls hA.2.2.2.2.2.2.2 H locs cells slots (fun ls' hl => hs _ List.mem_cons_self g τ S ρ H locs cells slots ls' ⟨hA.1, wf_st1 hA.2.1 w1, w2, hA.2.2.2.1, hA.2.2.2.2.1, hA.2.2.2.2.2.1, hA.2.2.2.2.2.2.1, hl⟩)
theorem g_store2 {i : Nat} {v : Vl} {K' : List Vl} (h : one (stL2 i v L) K' E n pc' = some sc) (hs : ∀ x ∈ sc, Gl T ad gh XI S0 ρ0 xs cD cy A p l e R s m args below meth c Q nL x.2 x.1) (hv : wfK E K → wfLc E L → wfV E.1.length E.2.1.length v ∧ wfK E K')
    (hW : ∀ g τ (ls : Array Slot), lv_has ls nL (γL g τ xs L) → ∀ H locs cells slots, (∀ ls', lv_has ls' nL (γL g τ xs (stL2 i v L)) → W p l e R s m args below meth c H locs cells slots Q (F0 m pc' ls' (γK g τ xs K'))) → W p l e R s m args below meth c H locs cells slots Q (F0 m pc ls (γK g τ xs K))) : Gl T ad gh XI S0 ρ0 xs cD cy A p l e R s m args below meth c Q nL pc ((L, K), E, n) := by
  intro g τ S ρ H locs cells slots ls hA
  cases h
  obtain ⟨w1, w2⟩ := hv (SatA_wfK hA) hA.2.1
  exact hW g τ ls hA.2.2.2.2.2.2.2 H locs cells slots (fun ls' hl => hs _ List.mem_cons_self g τ S ρ H locs cells slots ls' ⟨hA.1, wf_st2 hA.2.1 w1, w2, hA.2.2.2.1, hA.2.2.2.2.1, hA.2.2.2.2.2.1, hA.2.2.2.2.2.2.1, hl⟩)
theorem oIstore_ok {i : Nat} (h : oIstore i nL L K E n pc' = some sc) (hs : ∀ x ∈ sc, Gl T ad gh XI S0 ρ0 xs cD cy A p l e R s m args below meth c Q nL x.2 x.1)
    (hW : ∀ (x : Int32) (st : List Value) (ls : Array Slot) (lv lv' : List (Nat × Value)), lv_has ls nL lv → i < nL → (i, Value.int x) :: lv.filter (fun q => !(q.1 == i) && !(q.1 + 1 == i && q.2.category == 2)) = lv' → ∀ H locs cells slots, (∀ ls', lv_has ls' nL lv' → W p l e R s m args below meth c H locs cells slots Q (F0 m pc' ls' st)) → W p l e R s m args below meth c H locs cells slots Q (F0 m pc ls (.int x :: st))) : Gl T ad gh XI S0 ρ0 xs cD cy A p l e R s m args below meth c Q nL pc ((L, K), E, n) := by
  unfold oIstore at h
  match K, h with
  | .inl f :: K, h =>
    dsimp only at h
    cases hi : Nat.blt i nL with
    | false => rw [hi] at h; cases h
    | true =>
      rw [hi] at h
      exact g_store1 h hs (fun w _ => ⟨wfK_hd w, wfK_tl w⟩) (fun g τ ls hl => hW _ _ ls _ _ hl (Nat.le_of_ble_eq_true hi) (γL_st1 (g := g) (τ := τ) (xs := xs) (L := L) (i := i) (v := .inl f)))
theorem oLstore_ok {i : Nat} (h : oLstore i nL L K E n pc' = some sc) (hs : ∀ x ∈ sc, Gl T ad gh XI S0 ρ0 xs cD cy A p l e R s m args below meth c Q nL x.2 x.1)
    (hW : ∀ (x : Int64) (st : List Value) (ls : Array Slot) (lv lv' : List (Nat × Value)), lv_has ls nL lv → i + 1 < nL → (i, Value.long x) :: lv.filter (fun q => !(q.1 == i) && (!(q.1 == i + 1) && !(q.1 + 1 == i && q.2.category == 2))) = lv' → ∀ H locs cells slots, (∀ ls', lv_has ls' nL lv' → W p l e R s m args below meth c H locs cells slots Q (F0 m pc' ls' st)) → W p l e R s m args below meth c H locs cells slots Q (F0 m pc ls (.long x :: st))) : Gl T ad gh XI S0 ρ0 xs cD cy A p l e R s m args below meth c Q nL pc ((L, K), E, n) := by
  unfold oLstore at h
  match K, h with
  | .inr (.inl f) :: K, h =>
    dsimp only at h
    cases hi : Nat.blt (i + 1) nL with
    | false => rw [hi] at h; cases h
    | true =>
      rw [hi] at h
      exact g_store2 h hs (fun w _ => ⟨wfK_hd w, wfK_tl w⟩) (fun g τ ls hl => hW _ _ ls _ _ hl (Nat.le_of_ble_eq_true hi) (γL_st2 (g := g) (τ := τ) (xs := xs) (L := L) (i := i) (v := .inr (.inl f))))
theorem oAstore_ok {i : Nat} (h : oAstore i nL L K E n pc' = some sc) (hs : ∀ x ∈ sc, Gl T ad gh XI S0 ρ0 xs cD cy A p l e R s m args below meth c Q nL x.2 x.1)
    (hW : ∀ (x : Nat) (st : List Value) (ls : Array Slot) (lv lv' : List (Nat × Value)), lv_has ls nL lv → i < nL → (i, Value.ref x) :: lv.filter (fun q => !(q.1 == i) && !(q.1 + 1 == i && q.2.category == 2)) = lv' → ∀ H locs cells slots, (∀ ls', lv_has ls' nL lv' → W p l e R s m args below meth c H locs cells slots Q (F0 m pc' ls' st)) → W p l e R s m args below meth c H locs cells slots Q (F0 m pc ls (.ref x :: st)))
    (hN : ∀ (st : List Value) (ls : Array Slot) (lv lv' : List (Nat × Value)), lv_has ls nL lv → i < nL → (i, Value.null) :: lv.filter (fun q => !(q.1 == i) && !(q.1 + 1 == i && q.2.category == 2)) = lv' → ∀ H locs cells slots, (∀ ls', lv_has ls' nL lv' → W p l e R s m args below meth c H locs cells slots Q (F0 m pc' ls' st)) → W p l e R s m args below meth c H locs cells slots Q (F0 m pc ls (.null :: st))) : Gl T ad gh XI S0 ρ0 xs cD cy A p l e R s m args below meth c Q nL pc ((L, K), E, n) := by
  unfold oAstore at h
  match K, h with
  | .inr (.inr (.inr v)) :: K, h =>
    dsimp only at h
    cases hi : Nat.blt i nL with
    | false => rw [hi] at h; cases h
    | true =>
      rw [hi] at h
      have hi := Nat.le_of_ble_eq_true hi
      refine g_store1 h hs (fun w _ => ⟨wfK_hd w, wfK_tl w⟩) (fun g τ ls hl H locs cells slots kk => ?_)
      have e1 := γL_st1 (g := g) (τ := τ) (xs := xs) (L := L) (i := i) (v := .inr (.inr (.inr v)))
      match v, kk, e1 with
      | .inl j, kk, e1 =>
        show W p l e R s m args below meth c H locs cells slots Q (F0 m pc ls (va_rf (τ j) :: γK g τ xs K))
        have e1 : (i, va_rf (τ j)) :: (γL g τ xs L).filter (fun q => !(q.1 == i) && !(q.1 + 1 == i && q.2.category == 2)) = _ := e1
        cases ht : τ j with
        | none => rw [ht] at e1; exact hN _ ls _ _ hl hi e1 H locs cells slots kk
        | some a => rw [ht] at e1; exact hW a _ ls _ _ hl hi e1 H locs cells slots kk
      | .inr k, kk, e1 => exact hW (xs k) _ ls _ _ hl hi e1 H locs cells slots kk
theorem oIinc_ok (hx : p.tables.exec = Jvm.exec) (hb : c.code = cc) {i : Nat} {k : Int} (hd : decode cc pc = .ok (.iinc i k, 3)) (h : oIinc i nL k L K E n (pc + 3) = some sc) (hs : ∀ x ∈ sc, Gl T ad gh XI S0 ρ0 xs cD cy A p l e R s m args below meth c Q nL x.2 x.1) : Gl T ad gh XI S0 ρ0 xs cD cy A p l e R s m args below meth c Q nL pc ((L, K), E, n) := by
  unfold oIinc at h
  split at h
  · rename_i f hv
    cases hi : Nat.blt i nL with
    | false => rw [hi] at h; cases h
    | true =>
      rw [hi] at h
      refine g_store1 h hs (fun w wl => ⟨wf_lpl (gtL_wf wl hv), w⟩) (fun g τ ls hl H locs cells slots kk => ?_)
      obtain ⟨j, hj⟩ := gtL_at (g := g) (τ := τ) (xs := xs) hv
      refine lv_iinc hx hb hd hl (k := j) (x := Int32.ofInt (ev g f)) hj rfl (Nat.le_of_ble_eq_true hi) rfl (fun ls' hl' => kk ls' ?_)
      rw [← γL_st1]
      have e1 : γ g τ xs (.inl (lpl f k)) = .int (Int32.ofInt (ev g f) + Int32.ofInt k) := by
        show Value.int (Int32.ofInt (ev g (lpl f k))) = _
        rw [ev_lpl, Int32.ofInt_add]
      rw [e1]; exact hl'
  · cases h
theorem SatE.setR {g : Nat → Int} {τ : Nat → Option Nat} {S : zS} {ρ : Nat → Nat} (h : SatE T ad gh XI S0 ρ0 E g τ S ρ) {i : Nat} {x : Bool × List Nat} (hx : RefOK S ρ x.1 x.2 (τ i)) : SatE T ad gh XI S0 ρ0 (E.1, lset E.2.1 i x, E.2.2) g τ S ρ := by
  obtain ⟨h1, h2, h3, h4, h5, h6, h7, h8, h9⟩ := h
  refine ⟨h1, fun j q hq => ?_, h3, h4, h5, h6, h7, fun j hj => ⟨by show j < (lset E.2.1 i x).length; rw [lset_len]; exact (h8 j hj).1, (h8 j hj).2⟩, h9⟩
  have hq : (lset E.2.1 i x)[j]? = some q := hq
  have hj : j < E.2.1.length := by have := (List.getElem?_eq_some_iff.mp hq).1; rwa [lset_len] at this
  have e1 := nth_get (d := ((true, []) : Bool × List Nat)) hq
  rw [lset_nth] at e1
  by_cases q1 : j = i ∧ j < E.2.1.length
  · rw [if_pos q1] at e1; rw [← e1, q1.1]; exact hx
  · rw [if_neg q1] at e1; exact h2 j q (by rw [← e1]; exact nth_lt hj)
theorem Xt_setR {g : Nat → Int} {τ : Nat → Option Nat} {i : Nat} {x : Bool × List Nat} : Xt E (E.1, lset E.2.1 i x, E.2.2) g g τ τ := ⟨Nat.le_refl _, fun _ _ => rfl, by show E.2.1.length ≤ (lset E.2.1 i x).length; rw [lset_len]; exact Nat.le_refl _, fun _ _ => rfl⟩
theorem oNul_ok {b : Bool} {off : Int} (h : oNul b off L K E n pc = some sc) (hs : ∀ x ∈ sc, Gl T ad gh XI S0 ρ0 xs cD cy A p l e R s m args below meth c Q nL x.2 x.1)
    (hW : ∀ (t : Nat), (pc : Int) + off = (t : Int) → ∀ (x : Nat) (st : List Value) (ls : Array Slot) H locs cells slots, W p l e R s m args below meth c H locs cells slots Q (F0 m (if b then pc + 3 else t) ls st) → W p l e R s m args below meth c H locs cells slots Q (F0 m pc ls (.ref x :: st)))
    (hN : ∀ (t : Nat), (pc : Int) + off = (t : Int) → ∀ (st : List Value) (ls : Array Slot) H locs cells slots, W p l e R s m args below meth c H locs cells slots Q (F0 m (if b then t else pc + 3) ls st) → W p l e R s m args below meth c H locs cells slots Q (F0 m pc ls (.null :: st))) : Gl T ad gh XI S0 ρ0 xs cD cy A p l e R s m args below meth c Q nL pc ((L, K), E, n) := by
  intro g τ S ρ H locs cells slots ls hA
  unfold oNul at h
  cases ht : tgt pc off with
  | none => rw [ht] at h; cases h
  | some t =>
    rw [ht] at h
    have ht := tgt_ok ht
    match K, h, hA with
    | .inr (.inr (.inr (.inl i))) :: K, h, hA =>
      dsimp only at h
      have wK := SatA_wfK hA
      have hi : i < E.2.1.length := wfK_hd wK
      have hr := hA.1.2.1 i _ (nth_lt (d := (true, [])) hi)
      have wK := wfK_tl wK
      show W p l e R s m args below meth c H locs cells slots Q (F0 m pc ls (va_rf (τ i) :: γK g τ xs K))
      generalize nth (true, []) E.2.1 i = z at h hr
      obtain ⟨nu, rs⟩ := z
      dsimp only at h
      have h := Option.some.inj h
      subst h
      cases hti : τ i with
      | none =>
        have hnu : nu = true := by rw [hti] at hr; exact hr
        subst hnu
        refine hN t ht _ ls H locs cells slots ?_
        have := hs (((L, K), (E.1, lset E.2.1 i (true, []), E.2.2), n), if b then t else pc + 3) (by cases b <;> simp) g τ S ρ H locs cells slots ls (hA.xt Xt_setR (hA.1.setR (x := (true, [])) (by rw [hti]; rfl)) (Xt_setR.K (xs := xs) (g := g) (τ := τ) wK).1 hA.2.2.2.2.2.2.1)
        exact this
      | some a =>
        have hra : a ∈ zL S ∧ ρ a ∈ rs := by rw [hti] at hr; exact hr
        refine hW t ht a _ ls H locs cells slots ?_
        have hne : rs ≠ [] := fun q => by rw [q] at hra; exact absurd hra.2 List.not_mem_nil
        have := hs (((L, K), (E.1, lset E.2.1 i (false, rs), E.2.2), n), if b then pc + 3 else t) (by
          cases b <;> cases rs with
          | nil => exact absurd rfl hne
          | cons a r => simp) g τ S ρ H locs cells slots ls (hA.xt Xt_setR (hA.1.setR (x := (false, rs)) (by rw [hti]; exact hra)) (Xt_setR.K (xs := xs) (g := g) (τ := τ) wK).1 hA.2.2.2.2.2.2.1)
        exact this
end OPS2
