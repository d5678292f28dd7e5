/-! what is done ahead of an instruction; places where invariants stand; the end; the walk -/
/-- kind (0 use a coupled row, 1 clean one, 2 split, 3 a fact that follows, 4 look a region up), group or ghost, a form by locals -/
abbrev Pop : Type := Nat × Nat × List (Nat × Int) × Int
def locF (L : Lc) : List (Nat × Int) → Int → Option Lin
  | [], c => some (lc c)
  | q :: r, c => match gtL q.1 L, locF L r c with
    | some (.inl f), some h => some (ladd (lsc q.2 f) h)
    | some (.inr (.inl f)), some h => some (ladd (lsc q.2 f) h)
    | _, _ => none
theorem locF_wf {E : En} {L : Lc} (w : wfLc E L) : ∀ {q : List (Nat × Int)} {c : Int} {f : Lin}, locF L q c = some f → wfL E.1.length f
  | [], c, f, h => by cases h; exact wf_lc
  | q :: r, c, f, h => by
    simp only [locF] at h
    split at h
    · rename_i f0 h0 e1 e2
      cases h
      exact wf_ladd (wf_lsc (gtL_wf w e1)) (locF_wf w e2)
    · rename_i f0 h0 e1 e2
      cases h
      exact wf_ladd (wf_lsc (gtL_wf w e1)) (locF_wf w e2)
    · cases h
/-- the values of a group's rows at a place -/
def grpV (T : Tt) (t : Lin) : List (Nat × Nat) → En → Option (En × List Lin)
  | [], E => some (E, [])
  | c :: r, E => match gtM T E (c.1 + 3) [lpl t (Int.ofNat c.2)] with
    | some (E1, f) => match grpV T t r E1 with
      | some (E2, fs) => some (E2, f :: fs)
      | none => none
    | none => none
def ivF : List Lin → List Itv → List Lin
  | f :: fs, x :: r => lpl f (-x.1) :: lpl (lneg f) x.2 :: ivF fs r
  | _, _ => []
def ivB (E : En) : List Lin → List Itv → Bool
  | f :: fs, x :: r => match inI E.1 E.2.2.1 f x.1 x.2 with
    | true => ivB E fs r
    | false => false
  | [], [] => true
  | _, _ => false
def noD (gi : Nat) : List (Nat × Lin) → Bool
  | [] => true
  | d :: r => match Nat.beq d.1 gi with
    | true => false
    | false => noD gi r
def usO (L : Lc) (K : List Vl) (E : En) (n : Nn) (fs : List Lin) (pc : Nat) : List (List Itv) → Suc
  | [] => []
  | o :: r => br L K E n (ivF fs o) pc ++ usO L K E n fs pc r
def rmD (gi : Nat) (t : Lin) : List (Nat × Lin) → Option (List (Nat × Lin))
  | [] => none
  | d :: r => match Nat.beq d.1 gi && lkM.lnEq d.2 t with
    | true => some r
    | false => match rmD gi t r with
      | some x => some (d :: x)
      | none => none
/-- what is known at a place that is the same -/
def eqM (I : List Itv) (F : List Lin) (k : Nat) (b : Lin) : List Mem → Option Lin
  | [] => none
  | m :: r => match Nat.beq m.1 k, m.2.1 with
    | true, [a] => match inI I F (lsub a b) 0 0 with
      | true => some m.2.2
      | false => eqM I F k b r
    | _, _ => eqM I F k b r
theorem eqM_ok {I : List Itv} {F : List Lin} {k : Nat} {b f : Lin} : ∀ {M : List Mem}, eqM I F k b M = some f → ∃ a, (k, [a], f) ∈ M ∧ inI I F (lsub a b) 0 0 = true
  | [], h => by simp [eqM] at h
  | m :: r, h => by
    simp only [eqM] at h
    split at h
    · rename_i a e1 e2
      have e1 := Nat.eq_of_beq_eq_true e1
      split at h
      · rename_i e3
        cases h
        obtain ⟨m1, m2, m3⟩ := m
        dsimp only at e1 e2 ⊢
        exact ⟨a, by rw [← e1, ← e2]; exact List.mem_cons_self, e3⟩
      · obtain ⟨a, k1, k2⟩ := eqM_ok h
        exact ⟨a, List.mem_cons_of_mem _ k1, k2⟩
    · obtain ⟨a, k1, k2⟩ := eqM_ok h
      exact ⟨a, List.mem_cons_of_mem _ k1, k2⟩
/-- the next power -/
def powO (b m hi top : Int) (t : Lin) (E : En) : Option En := match lkM 2 [lpl t b] E.2.2.2.1, inI E.1 E.2.2.1 t 0 hi with
  | some f, true => some (eFs (eM E (2, [lpl t (b + 1)], lsc m f)) [lpl (lsc m f) (Int.negSucc 0), lpl (lneg (lsc m f)) top])
  | _, _ => none
/-- the place that is dirty of a group -/
def fstD (gi : Nat) : List (Nat × Lin) → Option Lin
  | [] => none
  | d :: r => match Nat.beq d.1 gi with
    | true => some d.2
    | false => fstD gi r
theorem fstD_ok {gi : Nat} {t : Lin} : ∀ {D : List (Nat × Lin)}, fstD gi D = some t → (gi, t) ∈ D
  | [], h => by simp [fstD] at h
  | d :: r, h => by
    simp only [fstD] at h
    split at h
    · rename_i e
      have e := Nat.eq_of_beq_eq_true e
      cases h
      rw [← e]
      exact List.mem_cons_self
    · exact List.mem_cons_of_mem _ (fstD_ok h)
def opT (q : Pop) (L : Lc) (E : En) : Option Lin := match Nat.beq q.1 8 with
  | true => fstD q.2.1 E.2.2.2.2.1
  | false => locF L q.2.2.1 q.2.2.2
def opK (k : Nat) : Nat := match Nat.beq k 8 with
  | true => 1
  | false => k
theorem opT_wf {E : En} {q : Pop} {L : Lc} {t : Lin} (w : wfLc E L) (wD : ∀ d ∈ E.2.2.2.2.1, wfL E.1.length d.2) (h : opT q L E = some t) : wfL E.1.length t := by
  unfold opT at h
  split at h
  · exact wD _ (fstD_ok h)
  · exact locF_wf w h
def doOp (T : Tt) (q : Pop) (L : Lc) (K : List Vl) (E : En) (n : Nn) (pc : Nat) : Option Suc := match opT q L E with
  | none => match Nat.beq q.1 8 with
    | true => one L K E n pc
    | false => none
  | some t => match opK q.1 with
    | 0 => match (tCG T)[q.2.1]?, noD q.2.1 E.2.2.2.2.1 && inI E.1 E.2.2.1 t 0 7 with
      | some G, true => match grpV T t G.1 E with
        | some (E1, fs) => some (usO L K E1 n fs pc G.2)
        | none => none
      | _, _ => none
    | 1 => match (tCG T)[q.2.1]?, rmD q.2.1 t E.2.2.2.2.1 with
      | some G, some D' => match grpV T t G.1 E with
        | some (E1, fs) => match G.2.any (fun o => ivB E1 fs o) with
          | true => one L K (E1.1, E1.2.1, E1.2.2.1, E1.2.2.2.1, D', E1.2.2.2.2.2) n pc
          | false => none
        | none => none
      | _, _ => none
    | 2 => some (br L K E n [t] pc ++ br L K E n [lpl (lneg t) (Int.negSucc 0)] pc)
    | 3 => match ent E.1 E.2.2.1 t with
      | true => some (br L K E n [t] pc)
      | false => none
    | 4 => match gtM T E q.2.1 [t] with
      | some (E1, _) => one L K E1 n pc
      | none => none
    | 5 => match powO 2000 2 39 1099511627776 t E with
      | some E1 => one L K E1 n pc
      | none => none
    | 6 => match powO 3000 3 24 847288609443 t E with
      | some E1 => one L K E1 n pc
      | none => none
    | 7 => one L K (eM (eM E (2, [lc 2000], lc 1)) (2, [lc 3000], lc 1)) n pc
    | 9 => match eqM E.1 E.2.2.1 q.2.1 t E.2.2.2.1 with
      | some f => one L K (eM E (q.2.1, [t], f)) n pc
      | none => none
    | 10 => match gtM T E q.2.1 [] with
      | some (E1, f) => match ent E1.1 E1.2.2.1 (ladd f t) with
        | true => some (br L K E1 n [ladd f t] pc)
        | false => none
      | none => none
    | _ => none
def doOps (T : Tt) : List Pop → Suc → Option Suc
  | [], sc => some sc
  | q :: r, sc => match stepAll q sc with
    | some s1 => doOps T r s1
    | none => none
where
  stepAll (q : Pop) : Suc → Option Suc
  | [] => some []
  | x :: r => match doOp T q x.1.1.1 x.1.1.2 x.1.2.1 x.1.2.2 x.2, stepAll q r with
    | some a, some b => some (a ++ b)
    | _, _ => none
/-- a place with an invariant: pc, the locals' places, a contract for its state (md: what may be written till there), counters, measure, references made here, what regions and ghosts hold -/
abbrev Cut : Type := Nat × List Nat × Sg × Nn × Lin × List Nat × List Mem
def zipL : List Nat → List Vl → Lc
  | i :: r, v :: t => (i, v) :: zipL r t
  | _, _ => []
def gmM (nA : Nat) : List (Nat × List Lin) → List Mem
  | [] => []
  | q :: r => (q.1, q.2, lsy nA) :: gmM (nA + 1) r
def cutS (c : Cut) : As := ((zipL c.2.1 (sA c.2.2.1), (sA c.2.2.1).drop c.2.1.length), (sI c.2.2.1, sR c.2.2.1, sF c.2.2.1, c.2.2.2.2.2.2, [], sM c.2.2.1, c.2.2.2.2.2.1), c.2.2.2.1)
def gtLs : List Nat → Lc → Option (List Vl)
  | [], _ => some []
  | i :: r, L => match gtL i L, gtLs r L with
    | some v, some vs => some (v :: vs)
    | _, _ => none
/-- the memos of an outcome -/
def bndO (T : Tt) (Is : List Itv) : List Mem → En → List Lin → Option (En × List Lin)
  | [], E, θ => some (E, θ)
  | q :: r, E, θ => match q.2.1.all (wfB θ.length), gtM T E q.1 (q.2.1.map (sb θ)) with
    | true, some (E', f) => match isSy q.2.2 θ.length with
      | true => match inI E'.1 E'.2.2.1 f (nth (0, 0) Is θ.length).1 (nth (0, 0) Is θ.length).2 with
        | true => bndO T Is r E' (θ ++ [f])
        | false => none
      | false => match wfB θ.length q.2.2 && inI E'.1 E'.2.2.1 (lsub f (sb θ q.2.2)) 0 0 with
        | true => bndO T Is r E' θ
        | false => none
    | _, _ => none
def arrv (T : Tt) (mu : Option Lin) (c : Cut) (a : As) : Bool := match gtLs c.2.1 a.1.1 with
  | none => false
  | some vs => match c.2.2.1, a.2.1.2.2.2.2.1 with
    | sg, [] => match bndA (sI sg) (sA sg) (vs ++ a.1.2) a.2.1 [] [] with
      | none => false
      | some (E1, θ, θr) => match bndO T (sI sg) c.2.2.2.2.2.2 E1 θ with
        | none => false
        | some (E2, θ') => Nat.beq θ'.length (sI sg).length && refB E2 θr (sR sg) && (sF sg).all (fun f => ent E2.1 E2.2.2.1 (sb θ' f)) && sbs a.2.1.2.2.2.2.2.1 (sM sg) && c.2.2.2.2.2.1.all (fun i => nin (nth 0 θr i) E2.2.2.2.2.2.2 && Nat.blt i θr.length)
          && ent E2.1 E2.2.2.1 (lsub (sb θ' c.2.2.2.1.1) a.2.2.1) && ent E2.1 E2.2.2.1 (lsub (sb θ' c.2.2.2.1.2) a.2.2.2) && (match mu with
            | none => true
            | some m0 => ent E2.1 E2.2.2.1 (lpl (lsub m0 (sb θ' c.2.2.2.2.1)) (Int.negSucc 0)) && ent E2.1 E2.2.2.1 (sb θ' c.2.2.2.2.1))
    | _, _ => false
def wfCut (c : Cut) : Bool := match (sI c.2.2.1).length, (sR c.2.2.1).length with
  | n, r => Nat.ble c.2.1.length (sA c.2.2.1).length && (sA c.2.2.1).all (wfVB n r) && (sF c.2.2.1).all (wfB n) && c.2.2.2.2.2.2.all (fun q => q.2.1.all (wfB n) && wfB n q.2.2) && wfB n c.2.2.2.1.1 && wfB n c.2.2.2.1.2 && wfB n c.2.2.2.2.1
/-- the contract's numbers where the method ends -/
def anch (E : En) : Nat → Nat → Option (List Lin)
  | _, 0 => some []
  | i, k + 1 => match lkM 0 [lc 0, lc 0, lc (Int.negSucc (i + 1))] E.2.2.2.1, anch E (i + 1) k with
    | some f, some r => some (f :: r)
    | _, _ => none
def retA (sg : Sg) (o : Oc) (vs : List Vl) (E : En) (θ0 : List Lin) : Option (En × List Lin) := match o.2.2.1, vs with
  | [.inr (.inr (.inr (.inl i)))], [.inr (.inr (.inr (.inl j)))] => match Nat.beq i (sR sg).length && refB E [j] o.2.1 with
    | true => some (E, θ0)
    | false => none
  | ts, vs => match o.2.1, bndA (sI sg ++ o.1) ts vs E θ0 [] with
    | [], some (E1, θ, []) => some (E1, θ)
    | _, _ => none
def retO (T : Tt) (sg : Sg) (vs : List Vl) (E : En) (θ0 : List Lin) (o : Oc) : Bool := match retA sg o vs E θ0 with
  | none => false
  | some (E1, θ) => match bndO T (sI sg ++ o.1) o.2.2.2.2 E1 θ with
    | none => false
    | some (E2, θ') => Nat.beq θ'.length ((sI sg).length + o.1.length) && o.2.2.2.1.all (fun f => ent E2.1 E2.2.2.1 (sb θ' f))
def retB (T : Tt) (sg : Sg) (vs : List Vl) (a : As) : Bool := match a.2.1.2.2.2.2.1, sT sg, anch a.2.1 0 (sI sg).length with
  | [], none, some θ0 => sbs a.2.1.2.2.2.2.2.1 (sM sg) && ile (rg a.2.1.1 a.2.2.1).2 (Int.ofNat (sC sg).1) && ile (rg a.2.1.1 a.2.2.2).2 (Int.ofNat (sC sg).2) && (sO sg).any (fun o => retO T sg vs a.2.1 θ0 o)
  | _, _, _ => false
