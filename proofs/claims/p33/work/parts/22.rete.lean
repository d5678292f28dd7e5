/-! the end of a method: sound; the walk -/
def ghN (C : zS → Int → Int) (neg : Int → Int) : zS → Int → Int := fun S t => if t < 0 then neg t else C S t
def nrB (ret : Option FieldType) (E : En) (f : Lin) : Bool := match ret with
  | some .int => true
  | some .boolean => fit32 E.1 f && inI E.1 E.2.2.1 f 0 1
  | some .char => fit32 E.1 f && inI E.1 E.2.2.1 f 0 65535
  | some .byte => fit32 E.1 f && inI E.1 E.2.2.1 f (-128) 127
  | some .short => fit32 E.1 f && inI E.1 E.2.2.1 f (-32768) 32767
  | _ => false
def rfT (ret : Option FieldType) : Bool := match ret with
  | some (.object _) => true
  | some (.array _) => true
  | _ => false
def retV (ret : Option FieldType) (ins : ClassFile.Instr) (E : En) (K : List Vl) : Option (List Vl) := match ins, K with
  | .ireturn, [.inl f] => match nrB ret E f with
    | true => some [.inl f]
    | false => none
  | .lreturn, [.inr (.inl f)] => match ret with
    | some .long => some [.inr (.inl f)]
    | _ => none
  | .areturn, [.inr (.inr (.inr v))] => match rfT ret with
    | true => some [.inr (.inr (.inr v))]
    | false => none
  | .return_, [] => match ret with
    | none => some []
    | _ => none
  | _, _ => none
def isRet (ins : ClassFile.Instr) : Bool := match ins with
  | .ireturn => true
  | .lreturn => true
  | .areturn => true
  | .return_ => true
  | _ => false
abbrev Pg : Type := List (List (Nat × ClassFile.Instr × Nat))
def gtP (P : Pg) (pc : Nat) : Option (ClassFile.Instr × Nat) := asc pc (nth [] P (pc / 32))
def cutAt (pc : Nat) : List Cut → List Cut
  | [] => []
  | c :: r => match Nat.beq c.1 pc with
    | true => c :: cutAt pc r
    | false => cutAt pc r
def anyAr (T : Tt) (top : Bool) (mu : Option Lin) (a : As) : List Cut → Bool
  | [] => false
  | c :: r => match (match top, mu with
      | true, _ => arrv T none c a
      | false, some m0 => arrv T (some m0) c a
      | false, none => false) with
    | true => true
    | false => anyAr T top mu a r
def run (C : Cg) (sg : Sg) (ret : Option FieldType) (cuts : List Cut) (pops : List (Nat × List Pop)) (P : Pg) (mk : Nat) (top : Bool) : Nat → Bool → As → Nat → Bool
  | 0, _, _, _ => false
  | f + 1, first, a, pc => match (match first with
      | true => []
      | false => cutAt pc cuts) with
    | c :: r => anyAr C.1 top (lkM 0 [lc 0, lc 0, lc (Int.negSucc mk)] a.2.1.2.2.2.1) a (c :: r)
    | [] => match (match asc pc pops with
        | some ops => doOps C.1 ops [(a, pc)]
        | none => some [(a, pc)]), gtP P pc with
      | some l, some (ins, _) => match isRet ins with
        | true => l.all (fun x => Nat.beq x.2 pc && match retV ret ins x.1.2.1 x.1.1.2 with
          | some vs => retB C.1 sg vs x.1
          | none => false)
        | false => l.all (fun x => Nat.beq x.2 pc && match step C ins x.1.1.1 x.1.1.2 x.1.2.1 x.1.2.2 x.2 with
          | some sc => sc.all (fun y => run C sg ret cuts pops P mk top f false y.1 y.2)
          | none => false)
      | _, _ => false
section RET
variable {T : Tt} {ad : Nat → Nat} {gh : zS → Int → Int} {XI : zS → Prop} {S0 : zS} {ρ0 : Nat → Nat} {xs : Nat → Nat} {cD : va_G} {cy : Nat → ClassId} {A : Nat → Prop}
variable {p : Program} {l : Launch} {e : Env} {R : Room} {s : State} {m : MethodId} {args : Array Value} {below : List Frame} {meth : Method} {c : Code} {Q : State → Prop} {cc : ByteArray} {nL : Nat} {Ts : List Cond} {own : String}
variable {L : Lc} {K : List Vl} {E E' : En} {n : Nn} {pc pc' : Nat} {sc : Suc} {g : Nat → Int} {τ : Nat → Option Nat} {S : zS} {ρ : Nat → Nat}
theorem anch_ok {C : zS → Int → Int} {neg : Int → Int} (h : SatE T ad (ghN C neg) XI S0 ρ0 E g τ S ρ) : ∀ {k i : Nat} {θ : List Lin}, anch E i k = some θ → θ.length = k ∧ (∀ t ∈ θ, wfL E.1.length t) ∧ ∀ j, j < k → ev g (nth (0, []) θ j) = neg (Int.negSucc (i + j + 1))
  | 0, i, θ, ha => by
    simp only [anch] at ha
    cases ha
    exact ⟨rfl, fun t ht => by simp at ht, fun j hj => by omega⟩
  | k + 1, i, θ, ha => by
    simp only [anch] at ha
    split at ha
    · rename_i f r h1 h2
      cases ha
      obtain ⟨e1, e2, e3⟩ := anch_ok h h2
      have hm := h.2.2.2.1 _ (lkM_ok h1)
      have hv : ghN C neg zS0 (ev g (lc (Int.negSucc (i + 1)))) = ev g f := hm.2.2.1
      have hv2 : neg (Int.negSucc (i + 1)) = ev g f := by
        rw [← hv, ev_lc]
        show _ = if Int.negSucc (i + 1) < 0 then neg (Int.negSucc (i + 1)) else C zS0 (Int.negSucc (i + 1))
        rw [if_pos (Int.negSucc_lt_zero _)]
      refine ⟨by simp [e1], fun t ht => ?_, fun j hj => ?_⟩
      · rcases List.mem_cons.mp ht with rfl | ht
        · exact hm.2.1
        · exact e2 t ht
      · match j with
        | 0 => exact hv2.symm
        | j + 1 =>
          show ev g (nth (0, []) r j) = _
          rw [e3 j (by omega)]
          congr 2
          omega
    · cases ha
theorem GV_ghN {C : zS → Int → Int} {a b : Int → Int} {k : Nat} {as : List Int} (hk : Nat.beq k 0 = false) : GV T ad (ghN C a) k S as = GV T ad (ghN C b) k S as := by
  match k, hk with
  | 1, _ => rfl
  | 2, _ =>
    show ghN C a S ((nth 0 as 0).toNat : Int) = ghN C b S ((nth 0 as 0).toNat : Int)
    unfold ghN
    rw [if_neg (by omega), if_neg (by omega)]
  | _ + 3, _ => rfl
def noA (sg : Sg) : Bool := (sG sg).all (fun q => !(Nat.beq q.1 0)) && (sO sg).all (fun o => o.2.2.2.2.all (fun m => !(Nat.beq m.1 0)))
theorem retA_ok {C : zS → Int → Int} {neg : Int → Int} {sg : Sg} {o : Oc} {vs : List Vl} {θ0 θ : List Lin} {E1 : En} (h : SatE T ad (ghN C neg) XI S0 ρ0 E g τ S ρ) (wv : wfK E vs) (wθ : ∀ t ∈ θ0, wfL E.1.length t) (hI : ∀ i, i < θ0.length → (nth (0, 0) (sI sg ++ o.1) i).1 ≤ gs g θ0 i ∧ gs g θ0 i ≤ (nth (0, 0) (sI sg ++ o.1) i).2) (ha : retA sg o vs E θ0 = some (E1, θ)) :
    ∃ g', Xt E E1 g g' τ τ ∧ SatE T ad (ghN C neg) XI S0 ρ0 E1 g' τ S ρ ∧ (∀ t ∈ θ, wfL E1.1.length t) ∧ (∀ i, i < θ.length → (nth (0, 0) (sI sg ++ o.1) i).1 ≤ gs g' θ i ∧ gs g' θ i ≤ (nth (0, 0) (sI sg ++ o.1) i).2) ∧ (∃ x, θ = θ0 ++ x) ∧ ∃ tr : Nat → Option Nat, (∀ (j : Nat) (q : Bool × List Nat), o.2.1[j]? = some q → RefOK S ρ q.1 q.2 (tr ((sR sg).length + j))) ∧ ∀ (ga : Nat → Int) (ta : Nat → Option Nat), (∀ i, i < θ.length → ga i = gs g' θ i) → (∀ i, (sR sg).length ≤ i → ta i = tr i) → γK ga ta xs o.2.2.1 = γK g τ xs vs := by
  unfold retA at ha
  split at ha
  · rename_i i j h1
    split at ha
    · rename_i hc
      rw [Bool.and_eq_true] at hc
      have hi := Nat.eq_of_beq_eq_true hc.1
      cases ha
      have hj : j < E.2.1.length := wfK_hd wv
      obtain ⟨r1, r2⟩ := refB_ok h (θr := [j]) (fun z hz => by rw [List.mem_singleton.mp hz]; exact hj) hc.2
      refine ⟨g, Xt.refl, h, wθ, hI, ⟨[], by simp⟩, fun _ => τ j, fun k q hq => ?_, fun ga ta _ hta => ?_⟩
      · have hk : k < o.2.1.length := (List.getElem?_eq_some_iff.mp hq).1
        have hk0 : k = 0 := by
          have : [j].length = 1 := rfl
          omega
        subst hk0
        exact r2 0 q hq
      · rw [h1]
        show [va_rf (ta i)] = [va_rf (τ j)]
        rw [hta i (by omega)]
    · cases ha
  · split at ha
    · rename_i h1 h2
      cases ha
      obtain ⟨g1, a1, a2, a3, a4, a5, a6, -, a8, a9⟩ := bndA_ok (xs := xs) h wv wθ (fun j hj => by simp at hj) hI h2
      refine ⟨g1, a1, a2, a3, a5, a6, fun _ => none, fun k q hq => ?_, fun ga ta hga _ => ?_⟩
      · rw [h1] at hq; simp at hq
      · exact a8 ga ta hga (fun i hi => by simp at hi)
    · cases ha
end RET
