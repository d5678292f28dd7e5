/-! straight instructions and branches over abstract states -/
def tgt (pc : Nat) (off : Int) : Option Nat := match (pc : Int) + off with
  | .ofNat n => some n
  | .negSucc _ => none
theorem tgt_ok {pc n : Nat} {off : Int} (h : tgt pc off = some n) : (pc : Int) + off = (n : Int) := by
  unfold tgt at h
  cases e : (pc : Int) + off with
  | ofNat k => rw [e] at h; cases h; rfl
  | negSucc k => rw [e] at h; cases h
def ctr (f : Lin) : Bool := match f.2 with
  | [] => match ile 0 f.1 with
    | true => false
    | false => true
  | _ => false
def anyC : List Lin → Bool
  | [] => false
  | f :: r => match ctr f with
    | true => true
    | false => anyC r
theorem anyC_ok {g : Nat → Int} : ∀ {F : List Lin}, anyC F = true → ∃ f ∈ F, ev g f < 0
  | [], h => by simp [anyC] at h
  | f :: r, h => by
    simp only [anyC] at h
    cases e : ctr f with
    | true =>
      refine ⟨f, List.mem_cons_self, ?_⟩
      unfold ctr at e
      obtain ⟨c, l⟩ := f
      cases l with
      | cons a b => cases e
      | nil =>
        dsimp only at e
        cases e2 : ile 0 c with
        | true => rw [e2] at e; cases e
        | false =>
          have : ¬ (0 : Int) ≤ c := fun q => by rw [ile_iff.mpr q] at e2; cases e2
          show c + 0 < 0
          omega
    | false =>
      rw [e] at h
      obtain ⟨z, hz, k⟩ := anyC_ok (g := g) h
      exact ⟨z, List.mem_cons_of_mem _ hz, k⟩
def anyN (I : List Itv) (F : List Lin) : List Lin → Bool
  | [] => false
  | f :: r => match ent2 I (lpl (lneg f) (Int.negSucc 0)) F with
    | true => true
    | false => anyN I F r
theorem anyN_ok {I : List Itv} {F : List Lin} {g : Nat → Int} (h : SatI I g) (hF : ∀ f ∈ F, wfL I.length f ∧ 0 ≤ ev g f) : ∀ {fs : List Lin}, (∀ f ∈ fs, wfL I.length f) → anyN I F fs = true → ∃ f ∈ fs, ev g f < 0
  | [], _, e => by simp [anyN] at e
  | f :: r, w, e => by
    simp only [anyN] at e
    split at e
    · rename_i e1
      have := ent2_ok h (wf_lpl (wf_lneg (w f List.mem_cons_self))) hF e1
      rw [ev_lpl, ev_lneg] at this
      have n1 : Int.negSucc 0 = (-1 : Int) := rfl
      exact ⟨f, List.mem_cons_self, by omega⟩
    · obtain ⟨z, hz, k⟩ := anyN_ok h hF (fun z hz => w z (List.mem_cons_of_mem _ hz)) e
      exact ⟨z, List.mem_cons_of_mem _ hz, k⟩
def br (L : Lc) (K : List Vl) (E : En) (n : Nn) (fs : List Lin) (pc : Nat) : Suc := match anyC fs || anyN E.1 E.2.2.1 fs with
  | true => []
  | false => match eFs E fs with
    | E' => match dedI E'.1 with
      | true => []
      | false => [(((L, K), E', n), pc)]
def cF (c : ClassFile.Cond) (b : Bool) (r : Itv) (f : Lin) : List Lin := match c, b with
  | .eq, true => [f, lneg f]
  | .ne, false => [f, lneg f]
  | .ne, true => match ile 0 r.1 with
    | true => [lpl f (Int.negSucc 0)]
    | false => match ile r.2 0 with
      | true => [lpl (lneg f) (Int.negSucc 0)]
      | false => []
  | .eq, false => match ile 0 r.1 with
    | true => [lpl f (Int.negSucc 0)]
    | false => match ile r.2 0 with
      | true => [lpl (lneg f) (Int.negSucc 0)]
      | false => []
  | .lt, true => [lpl (lneg f) (Int.negSucc 0)]
  | .ge, false => [lpl (lneg f) (Int.negSucc 0)]
  | .ge, true => [f]
  | .lt, false => [f]
  | .gt, true => [lpl f (Int.negSucc 0)]
  | .le, false => [lpl f (Int.negSucc 0)]
  | .le, true => [lneg f]
  | .gt, false => [lneg f]
def cH (c : ClassFile.Cond) (n : Int) : Prop := match c with
  | .eq => n = 0
  | .ne => ¬ n = 0
  | .lt => n < 0
  | .ge => ¬ n < 0
  | .gt => ¬ n ≤ 0
  | .le => n ≤ 0
theorem cF_ok {c : ClassFile.Cond} {b : Bool} {r : Itv} {f : Lin} {k : Nat} {g : Nat → Int} (w : wfL k f) (hr : r.1 ≤ ev g f ∧ ev g f ≤ r.2) (h : if b then cH c (ev g f) else ¬ cH c (ev g f)) : ∀ z ∈ cF c b r f, wfL k z ∧ 0 ≤ ev g z := by
  have a1 : ev g (lpl f (Int.negSucc 0)) = ev g f - 1 := by rw [ev_lpl]; rfl
  have a2 : ev g (lpl (lneg f) (Int.negSucc 0)) = - ev g f - 1 := by rw [ev_lpl, ev_lneg]; rfl
  have a3 : ev g (lneg f) = - ev g f := ev_lneg
  have w1 : wfL k (lpl f (Int.negSucc 0)) := wf_lpl w
  have w2 : wfL k (lpl (lneg f) (Int.negSucc 0)) := wf_lpl (wf_lneg w)
  have w3 : wfL k (lneg f) := wf_lneg w
  have ne : ¬ ev g f = 0 → ∀ z ∈ (match ile 0 r.1 with
    | true => [lpl f (Int.negSucc 0)]
    | false => match ile r.2 0 with
      | true => [lpl (lneg f) (Int.negSucc 0)]
      | false => []), wfL k z ∧ 0 ≤ ev g z := by
    intro hn z hz
    cases e : ile 0 r.1 with
    | true =>
      rw [e] at hz
      have := ile_iff.mp e
      rcases List.mem_singleton.mp hz with rfl
      exact ⟨w1, by omega⟩
    | false =>
      rw [e] at hz
      cases e2 : ile r.2 0 with
      | true =>
        rw [e2] at hz
        have := ile_iff.mp e2
        rcases List.mem_singleton.mp hz with rfl
        exact ⟨w2, by omega⟩
      | false => rw [e2] at hz; exact absurd hz List.not_mem_nil
  have two : ev g f = 0 → ∀ z ∈ [f, lneg f], wfL k z ∧ 0 ≤ ev g z := by
    intro hn z hz
    rcases List.mem_cons.mp hz with rfl | hz
    · exact ⟨w, by omega⟩
    · rcases List.mem_singleton.mp hz with rfl
      exact ⟨w3, by omega⟩
  cases c <;> cases b <;> simp only [cH, Bool.false_eq_true, if_false, if_true] at h
  · exact ne h
  · exact two h
  · exact two (by omega)
  · exact ne h
  · intro z hz; rcases List.mem_singleton.mp hz with rfl; exact ⟨w, by omega⟩
  · intro z hz; rcases List.mem_singleton.mp hz with rfl; exact ⟨w2, by omega⟩
  · intro z hz; rcases List.mem_singleton.mp hz with rfl; exact ⟨w2, by omega⟩
  · intro z hz; rcases List.mem_singleton.mp hz with rfl; exact ⟨w, by omega⟩
  · intro z hz; rcases List.mem_singleton.mp hz with rfl; exact ⟨w3, by omega⟩
  · intro z hz; rcases List.mem_singleton.mp hz with rfl; exact ⟨w1, by omega⟩
  · intro z hz; rcases List.mem_singleton.mp hz with rfl; exact ⟨w1, by omega⟩
  · intro z hz; rcases List.mem_singleton.mp hz with rfl; exact ⟨w3, by omega⟩
def oBr (c : ClassFile.Cond) (f : Lin) (L : Lc) (K : List Vl) (E : En) (n : Nn) (pc t : Nat) : Suc := match rg E.1 f with
  | r => br L K E n (cF c true r f) t ++ br L K E n (cF c false r f) (pc + 3)
def oIcmp (c : ClassFile.Cond) (off : Int) (L : Lc) (K : List Vl) (E : En) (n : Nn) (pc : Nat) : Option Suc := match tgt pc off with
  | none => none
  | some t => match K with
    | .inl y :: .inl x :: K => match fit32 E.1 x && fit32 E.1 y with
      | true => some (oBr c (lsub x y) L K E n pc t)
      | false => some [(((L, K), E, n), t), (((L, K), E, n), pc + 3)]
    | _ => none
def oIf (c : ClassFile.Cond) (off : Int) (L : Lc) (K : List Vl) (E : En) (n : Nn) (pc : Nat) : Option Suc := match tgt pc off with
  | none => none
  | some t => match K with
    | .inl x :: K => match fit32 E.1 x with
      | true => some (oBr c x L K E n pc t)
      | false => some [(((L, K), E, n), t), (((L, K), E, n), pc + 3)]
    | .inr (.inr (.inl f)) :: K => some (oBr c f L K E n pc t)
    | _ => none
def oGoto (off : Int) (L : Lc) (K : List Vl) (E : En) (n : Nn) (pc : Nat) : Option Suc := match tgt pc off with
  | none => none
  | some t => one L K E n t
/-- the cases of a switch -/
def swL (x : Lin) (L : Lc) (K : List Vl) (E : En) (n : Nn) (pc : Nat) : List Int → Int → Option Suc
  | [], _ => some []
  | o :: r, k => match tgt pc o, swL x L K E n pc r (k + 1) with
    | some t, some sc => some (br L K E n [lpl x (-k), lpl (lneg x) k] t ++ sc)
    | _, _ => none
def oSw (dflt lo hi : Int) (offs : Array Int) (L : Lc) (K : List Vl) (E : En) (n : Nn) (pc : Nat) : Option Suc := match K with
  | .inl x :: K => match fit32 E.1 x, ile (hi - lo + 1) (Int.ofNat offs.toList.length), tgt pc dflt, swL x L K E n pc offs.toList lo with
    | true, true, some t, some sc => some (br L K E n [lpl (lneg x) (lo - 1)] t ++ (br L K E n [lpl x (-(hi + 1))] t ++ sc))
    | _, _, _, _ => none
  | _ => none
def oBin (r : List Itv → Lin → Lin → Rs) (L : Lc) (K : List Vl) (E : En) (n : Nn) (pc : Nat) : Option Suc := match K with
  | .inl y :: .inl x :: K => pI (r E.1 x y) L K E n pc
  | _ => none
def oBinJ (r : List Itv → Lin → Lin → Rs) (L : Lc) (K : List Vl) (E : En) (n : Nn) (pc : Nat) : Option Suc := match K with
  | .inr (.inl y) :: .inr (.inl x) :: K => pJ (r E.1 x y) L K E n pc
  | _ => none
def oShJ (L : Lc) (K : List Vl) (E : En) (n : Nn) (pc : Nat) : Option Suc := match K with
  | .inl _ :: .inr (.inl _) :: K => pJ (.inr (k64l, k64h)) L K E n pc
  | _ => none
def oUn (r : List Itv → Lin → Rs) (L : Lc) (K : List Vl) (E : En) (n : Nn) (pc : Nat) : Option Suc := match K with
  | .inl x :: K => pI (r E.1 x) L K E n pc
  | _ => none
def oUnJ (r : List Itv → Lin → Rs) (L : Lc) (K : List Vl) (E : En) (n : Nn) (pc : Nat) : Option Suc := match K with
  | .inr (.inl x) :: K => pJ (r E.1 x) L K E n pc
  | _ => none
def oI2l (L : Lc) (K : List Vl) (E : En) (n : Nn) (pc : Nat) : Option Suc := match K with
  | .inl x :: K => pJ (rI2l E.1 x) L K E n pc
  | _ => none
def oL2i (L : Lc) (K : List Vl) (E : En) (n : Nn) (pc : Nat) : Option Suc := match K with
  | .inr (.inl x) :: K => pI (.inl (nrm x)) L K E n pc
  | _ => none
def oLcmp (L : Lc) (K : List Vl) (E : En) (n : Nn) (pc : Nat) : Option Suc := match K with
  | .inr (.inl y) :: .inr (.inl x) :: K => match fit64 E.1 x && fit64 E.1 y with
    | true => one L (.inr (.inr (.inl (lsub x y))) :: K) E n pc
    | false => pI (.inr (-1, 1)) L K E n pc
  | _ => none
def oDup (L : Lc) (K : List Vl) (E : En) (n : Nn) (pc : Nat) : Option Suc := match K with
  | v :: K => match vcat v with
    | 1 => one L (v :: v :: K) E n pc
    | _ => none
  | _ => none
def oPop (L : Lc) (K : List Vl) (E : En) (n : Nn) (pc : Nat) : Option Suc := match K with
  | v :: K => match vcat v with
    | 1 => one L K E n pc
    | _ => none
  | _ => none
def oDupX1 (L : Lc) (K : List Vl) (E : En) (n : Nn) (pc : Nat) : Option Suc := match K with
  | v :: u :: K => match vcat v, vcat u with
    | 1, 1 => one L (v :: u :: v :: K) E n pc
    | _, _ => none
  | _ => none
def oDup2 (L : Lc) (K : List Vl) (E : En) (n : Nn) (pc : Nat) : Option Suc := match K with
  | .inr (.inl f) :: K => one L (.inr (.inl f) :: .inr (.inl f) :: K) E n pc
  | v :: u :: K => match vcat v, vcat u with
    | 1, 1 => one L (v :: u :: v :: u :: K) E n pc
    | _, _ => none
  | _ => none
def oPop2 (L : Lc) (K : List Vl) (E : En) (n : Nn) (pc : Nat) : Option Suc := match K with
  | .inr (.inl _) :: K => one L K E n pc
  | v :: u :: K => match vcat v, vcat u with
    | 1, 1 => one L K E n pc
    | _, _ => none
  | _ => none
def oIload (i : Nat) (L : Lc) (K : List Vl) (E : En) (n : Nn) (pc : Nat) : Option Suc := match gtL i L with
  | some (.inl f) => one L (.inl f :: K) E n pc
  | _ => none
def oLload (i : Nat) (L : Lc) (K : List Vl) (E : En) (n : Nn) (pc : Nat) : Option Suc := match gtL i L with
  | some (.inr (.inl f)) => one L (.inr (.inl f) :: K) E n pc
  | _ => none
def oAload (i : Nat) (L : Lc) (K : List Vl) (E : En) (n : Nn) (pc : Nat) : Option Suc := match gtL i L with
  | some (.inr (.inr (.inr v))) => one L (.inr (.inr (.inr v)) :: K) E n pc
  | _ => none
def oIstore (i nL : Nat) (L : Lc) (K : List Vl) (E : En) (n : Nn) (pc : Nat) : Option Suc := match K with
  | .inl f :: K => match Nat.blt i nL with
    | true => one (stL1 i (.inl f) L) K E n pc
    | false => none
  | _ => none
def oLstore (i nL : Nat) (L : Lc) (K : List Vl) (E : En) (n : Nn) (pc : Nat) : Option Suc := match K with
  | .inr (.inl f) :: K => match Nat.blt (i + 1) nL with
    | true => one (stL2 i (.inr (.inl f)) L) K E n pc
    | false => none
  | _ => none
def oAstore (i nL : Nat) (L : Lc) (K : List Vl) (E : En) (n : Nn) (pc : Nat) : Option Suc := match K with
  | .inr (.inr (.inr v)) :: K => match Nat.blt i nL with
    | true => one (stL1 i (.inr (.inr (.inr v))) L) K E n pc
    | false => none
  | _ => none
def oIinc (i nL : Nat) (k : Int) (L : Lc) (K : List Vl) (E : En) (n : Nn) (pc : Nat) : Option Suc := match gtL i L with
  | some (.inl f) => match Nat.blt i nL with
    | true => one (stL1 i (.inl (lpl f k)) L) K E n pc
    | false => none
  | _ => none
def oNul (b : Bool) (off : Int) (L : Lc) (K : List Vl) (E : En) (n : Nn) (pc : Nat) : Option Suc := match tgt pc off, K with
  | some t, .inr (.inr (.inr (.inl i))) :: K => match nth (true, []) E.2.1 i with
    | (nu, rs) => match (if b then (t, pc + 3) else (pc + 3, t)) with
      | (tn, to) => some ((if nu then [(((L, K), (E.1, lset E.2.1 i (true, []), E.2.2), n), tn)] else []) ++ (match rs with
          | [] => []
          | _ => [(((L, K), (E.1, lset E.2.1 i (false, rs), E.2.2), n), to)]))
  | _, _ => none
section OPS
variable {T : Tt} {ad : Nat → Nat} {gh : zS → Int → Int} {XI : zS → Prop} {S0 : zS} {ρ0 : Nat → Nat} {xs : Nat → Nat} {cD : va_G} {cy : Nat → ClassId} {A : Nat → Prop}
variable {p : Program} {l : Launch} {e : Env} {R : Room} {s : State} {m : MethodId} {args : Array Value} {below : List Frame} {meth : Method} {c : Code} {Q : State → Prop} {cc : ByteArray} {nL : Nat} {Ts : List Cond} {own : String}
variable {L : Lc} {K : List Vl} {E : En} {n : Nn} {pc : Nat} {sc : Suc}
theorem br_ok {g : Nat → Int} {τ : Nat → Option Nat} {S : zS} {ρ : Nat → Nat} {H : Heap} {locs : List Loc} {cells slots : Nat} {ls : Array Slot} {K0 : List Vl} {fs : List Lin} (hs : ∀ x ∈ br L K E n fs pc, Gl T ad gh XI S0 ρ0 xs cD cy A p l e R s m args below meth c Q nL x.2 x.1) (h : SatA T ad gh XI S0 ρ0 xs cD cy A s nL ((L, K0), E, n) g τ S ρ H locs cells slots ls) (hK : wfK E K) (hf : ∀ f ∈ fs, wfL E.1.length f ∧ 0 ≤ ev g f) :
    W p l e R s m args below meth c H locs cells slots Q (F0 m pc ls (γK g τ xs K)) := by
  unfold br at hs
  cases e1 : anyC fs || anyN E.1 E.2.2.1 fs with
  | true =>
    rw [Bool.or_eq_true] at e1
    rcases e1 with e1 | e1
    · obtain ⟨f, hf1, hf2⟩ := anyC_ok (g := g) e1
      have := (hf f hf1).2
      omega
    · obtain ⟨f, hf1, hf2⟩ := anyN_ok h.1.1 h.1.2.2.1 (fun f hf1 => (hf f hf1).1) e1
      have := (hf f hf1).2
      omega
  | false =>
    rw [e1] at hs
    dsimp only at hs
    have hE := h.1.facts hf
    cases e2 : dedI (eFs E fs).1 with
    | true => exact (hE.ded e2).elim
    | false =>
      rw [e2] at hs
      have hx : Xt E (eFs E fs) g g τ τ := ⟨Nat.le_of_eq eFs_len.symm, fun _ _ => rfl, Nat.le_of_eq (by rw [eFs_R]), fun _ _ => rfl⟩
      exact hs _ List.mem_cons_self g τ S ρ H locs cells slots ls (h.xt hx hE (hx.K (xs := xs) hK).1 h.2.2.2.2.2.2.1)
theorem oBr_ok {cd : ClassFile.Cond} {f : Lin} {t : Nat} {g : Nat → Int} {τ : Nat → Option Nat} {S : zS} {ρ : Nat → Nat} {H : Heap} {locs : List Loc} {cells slots : Nat} {ls : Array Slot} {K0 : List Vl} (hs : ∀ x ∈ oBr cd f L K E n pc t, Gl T ad gh XI S0 ρ0 xs cD cy A p l e R s m args below meth c Q nL x.2 x.1) (h : SatA T ad gh XI S0 ρ0 xs cD cy A s nL ((L, K0), E, n) g τ S ρ H locs cells slots ls) (hK : wfK E K) (w : wfL E.1.length f) :
    (cH cd (ev g f) → W p l e R s m args below meth c H locs cells slots Q (F0 m t ls (γK g τ xs K))) ∧ (¬ cH cd (ev g f) → W p l e R s m args below meth c H locs cells slots Q (F0 m (pc + 3) ls (γK g τ xs K))) := by
  unfold oBr at hs
  have hr := rg_ok h.1.1 w
  exact ⟨fun q => br_ok (fun x hx => hs x (List.mem_append_left _ hx)) h hK (cF_ok (b := true) w hr (by simpa using q)), fun q => br_ok (fun x hx => hs x (List.mem_append_right _ hx)) h hK (cF_ok (b := false) w hr (by simpa using q))⟩
theorem oIcmp_ok (hx : p.tables.exec = Jvm.exec) (hb : c.code = cc) {cd : ClassFile.Cond} {off : Int} (hd : decode cc pc = .ok (.if_icmp cd off, 3)) (h : oIcmp cd off L K E n pc = some sc) (hs : ∀ x ∈ sc, Gl T ad gh XI S0 ρ0 xs cD cy A p l e R s m args below meth c Q nL x.2 x.1) : Gl T ad gh XI S0 ρ0 xs cD cy A p l e R s m args below meth c Q nL pc ((L, K), E, n) := by
  intro g τ S ρ H locs cells slots ls hA
  unfold oIcmp at h
  cases ht : tgt pc off with
  | none => rw [ht] at h; cases h
  | some t =>
    rw [ht] at h
    have ht := tgt_ok ht
    match K, h, hA with
    | .inl y :: .inl x :: K, h, hA =>
      have wK := SatA_wfK hA
      have wy : wfL E.1.length y := wfK_hd wK
      have wx : wfL E.1.length x := wfK_hd (wfK_tl wK)
      have wK := wfK_tl (wfK_tl wK)
      show W p l e R s m args below meth c H locs cells slots Q (F0 m pc ls (.int (Int32.ofInt (ev g y)) :: .int (Int32.ofInt (ev g x)) :: γK g τ xs K))
      dsimp only at h
      cases ef : fit32 E.1 x && fit32 E.1 y with
      | true =>
        rw [ef] at h
        cases h
        rw [Bool.and_eq_true] at ef
        obtain ⟨k1, k2⟩ := oBr_ok (cd := cd) hs hA wK (wf_lsub wx wy)
        have c1 := cmp_lt32 hA.1.1 wx wy ef.1 ef.2
        have c2 := cmp_le32 hA.1.1 wx wy ef.1 ef.2
        have c3 := cmp_eq32 hA.1.1 wx wy ef.1 ef.2
        have c4 := cmp_le32 hA.1.1 wy wx ef.2 ef.1
        have c5 := cmp_lt32 hA.1.1 wy wx ef.2 ef.1
        rw [ev_lsub] at k1 k2
        cases cd <;> simp only [cH] at k1 k2
        · exact lv_icmp_eq hx hb hd ht (fun q => k1 (by have := c3.mp q; omega)) (fun q => k2 (fun z => q (c3.mpr (by omega))))
        · exact lv_icmp_ne hx hb hd ht (fun q => k1 (fun z => q (c3.mpr (by omega)))) (fun q => k2 (fun z => z (by have := c3.mp q; omega)))
        · exact lv_icmp_lt hx hb hd ht (fun q => k1 (by have := c1.mp q; omega)) (fun q => k2 (fun z => q (c1.mpr (by omega))))
        · exact lv_icmp_ge hx hb hd ht (fun q => k1 (fun z => by have := c4.mp q; omega)) (fun q => k2 (fun z => q (c4.mpr (by omega))))
        · exact lv_icmp_gt hx hb hd ht (fun q => k1 (fun z => by have := c5.mp q; omega)) (fun q => k2 (fun z => q (c5.mpr (by omega))))
        · exact lv_icmp_le hx hb hd ht (fun q => k1 (by have := c2.mp q; omega)) (fun q => k2 (fun z => q (c2.mpr (by omega))))
      | false =>
        rw [ef] at h
        cases h
        have hA2 := hA.xt (K' := K) Xt.refl hA.1 wK hA.2.2.2.2.2.2.1
        have k1 := hs _ List.mem_cons_self g τ S ρ H locs cells slots ls hA2
        have k2 := hs _ (List.mem_cons_of_mem _ List.mem_cons_self) g τ S ρ H locs cells slots ls hA2
        cases cd
        · exact lv_icmp_eq hx hb hd ht (fun _ => k1) (fun _ => k2)
        · exact lv_icmp_ne hx hb hd ht (fun _ => k1) (fun _ => k2)
        · exact lv_icmp_lt hx hb hd ht (fun _ => k1) (fun _ => k2)
        · exact lv_icmp_ge hx hb hd ht (fun _ => k1) (fun _ => k2)
        · exact lv_icmp_gt hx hb hd ht (fun _ => k1) (fun _ => k2)
        · exact lv_icmp_le hx hb hd ht (fun _ => k1) (fun _ => k2)
theorem oIf_ok (hx : p.tables.exec = Jvm.exec) (hb : c.code = cc) {cd : ClassFile.Cond} {off : Int} (hd : decode cc pc = .ok (.ifCond cd off, 3)) (h : oIf cd off L K E n pc = some sc) (hs : ∀ x ∈ sc, Gl T ad gh XI S0 ρ0 xs cD cy A p l e R s m args below meth c Q nL x.2 x.1) : Gl T ad gh XI S0 ρ0 xs cD cy A p l e R s m args below meth c Q nL pc ((L, K), E, n) := by
  intro g τ S ρ H locs cells slots ls hA
  unfold oIf at h
  cases ht : tgt pc off with
  | none => rw [ht] at h; cases h
  | some t =>
    rw [ht] at h
    have ht := tgt_ok ht
    match K, h, hA with
    | .inl x :: K, h, hA =>
      have wK := SatA_wfK hA
      have wx : wfL E.1.length x := wfK_hd wK
      have wK := wfK_tl wK
      show W p l e R s m args below meth c H locs cells slots Q (F0 m pc ls (.int (Int32.ofInt (ev g x)) :: γK g τ xs K))
      dsimp only at h
      cases ef : fit32 E.1 x with
      | true =>
        rw [ef] at h
        cases h
        obtain ⟨k1, k2⟩ := oBr_ok (cd := cd) hs hA wK wx
        have e0 : (0 : Int32).toInt = 0 := rfl
        have eX := fit32_of hA.1.1 wx ef
        have c1 : Int32.ofInt (ev g x) < 0 ↔ ev g x < 0 := by rw [Int32.lt_iff_toInt_lt, eX, e0]
        have c2 : Int32.ofInt (ev g x) ≤ 0 ↔ ev g x ≤ 0 := by rw [Int32.le_iff_toInt_le, eX, e0]
        have c3 : Int32.ofInt (ev g x) = 0 ↔ ev g x = 0 := by rw [← Int32.toInt_inj, eX, e0]
        have c4 : 0 ≤ Int32.ofInt (ev g x) ↔ 0 ≤ ev g x := by rw [Int32.le_iff_toInt_le, eX, e0]
        have c5 : 0 < Int32.ofInt (ev g x) ↔ 0 < ev g x := by rw [Int32.lt_iff_toInt_lt, eX, e0]
        cases cd <;> simp only [cH] at k1 k2
        · exact lv_if_eq hx hb hd ht (fun q => k1 (c3.mp q)) (fun q => k2 (fun z => q (c3.mpr z)))
        · exact lv_if_ne hx hb hd ht (fun q => k1 (fun z => q (c3.mpr z))) (fun q => k2 (fun z => z (c3.mp q)))
        · exact lv_if_lt hx hb hd ht (fun q => k1 (c1.mp q)) (fun q => k2 (fun z => q (c1.mpr z)))
        · exact lv_if_ge hx hb hd ht (fun q => k1 (fun z => by have := c4.mp q; omega)) (fun q => k2 (fun z => q (c4.mpr (by omega))))
        · exact lv_if_gt hx hb hd ht (fun q => k1 (fun z => by have := c5.mp q; omega)) (fun q => k2 (fun z => q (c5.mpr (by omega))))
        · exact lv_if_le hx hb hd ht (fun q => k1 (c2.mp q)) (fun q => k2 (fun z => q (c2.mpr z)))
      | false =>
        rw [ef] at h
        cases h
        have hA2 := hA.xt (K' := K) Xt.refl hA.1 wK hA.2.2.2.2.2.2.1
        have k1 := hs _ List.mem_cons_self g τ S ρ H locs cells slots ls hA2
        have k2 := hs _ (List.mem_cons_of_mem _ List.mem_cons_self) g τ S ρ H locs cells slots ls hA2
        cases cd
        · exact lv_if_eq hx hb hd ht (fun _ => k1) (fun _ => k2)
        · exact lv_if_ne hx hb hd ht (fun _ => k1) (fun _ => k2)
        · exact lv_if_lt hx hb hd ht (fun _ => k1) (fun _ => k2)
        · exact lv_if_ge hx hb hd ht (fun _ => k1) (fun _ => k2)
        · exact lv_if_gt hx hb hd ht (fun _ => k1) (fun _ => k2)
        · exact lv_if_le hx hb hd ht (fun _ => k1) (fun _ => k2)
    | .inr (.inr (.inl f)) :: K, h, hA =>
      have wK := SatA_wfK hA
      have wx : wfL E.1.length f := wfK_hd wK
      have wK := wfK_tl wK
      show W p l e R s m args below meth c H locs cells slots Q (F0 m pc ls (.int (cmpI (ev g f)) :: γK g τ xs K))
      cases h
      obtain ⟨k1, k2⟩ := oBr_ok (cd := cd) hs hA wK wx
      have c1 := cmpI_lt (n := ev g f)
      have c2 := cmpI_le (n := ev g f)
      have c3 := cmpI_eq (n := ev g f)
      have e0 : (0 : Int32).toInt = 0 := rfl
      have c4 : 0 ≤ cmpI (ev g f) ↔ ¬ ev g f < 0 := by rw [← c1, Int32.le_iff_toInt_le, Int32.lt_iff_toInt_lt, e0]; omega
      have c5 : 0 < cmpI (ev g f) ↔ ¬ ev g f ≤ 0 := by rw [← c2, Int32.le_iff_toInt_le, Int32.lt_iff_toInt_lt, e0]; omega
      cases cd <;> simp only [cH] at k1 k2
      · exact lv_if_eq hx hb hd ht (fun q => k1 (c3.mp q)) (fun q => k2 (fun z => q (c3.mpr z)))
      · exact lv_if_ne hx hb hd ht (fun q => k1 (fun z => q (c3.mpr z))) (fun q => k2 (fun z => z (c3.mp q)))
      · exact lv_if_lt hx hb hd ht (fun q => k1 (c1.mp q)) (fun q => k2 (fun z => q (c1.mpr z)))
      · exact lv_if_ge hx hb hd ht (fun q => k1 (c4.mp q)) (fun q => k2 (fun z => q (c4.mpr z)))
      · exact lv_if_gt hx hb hd ht (fun q => k1 (c5.mp q)) (fun q => k2 (fun z => q (c5.mpr z)))
      · exact lv_if_le hx hb hd ht (fun q => k1 (c2.mp q)) (fun q => k2 (fun z => q (c2.mpr z)))
theorem oGoto_ok (hx : p.tables.exec = Jvm.exec) (hb : c.code = cc) {off : Int} (hd : decode cc pc = .ok (.goto off, 3)) (h : oGoto off L K E n pc = some sc) (hs : ∀ x ∈ sc, Gl T ad gh XI S0 ρ0 xs cD cy A p l e R s m args below meth c Q nL x.2 x.1) : Gl T ad gh XI S0 ρ0 xs cD cy A p l e R s m args below meth c Q nL pc ((L, K), E, n) := by
  intro g τ S ρ H locs cells slots ls hA
  unfold oGoto at h
  cases ht : tgt pc off with
  | none => rw [ht] at h; cases h
  | some t =>
    rw [ht] at h
    cases h
    exact lv_goto hx hb hd (tgt_ok ht) (hs _ List.mem_cons_self g τ S ρ H locs cells slots ls hA)
theorem swL_ok {x : Lin} : ∀ {os : List Int} {k : Int} {sc : Suc}, swL x L K E n pc os k = some sc → ∀ (j : Nat) (o : Int), os[j]? = some o → ∃ t : Nat, (pc : Int) + o = (t : Int) ∧ ∀ z ∈ br L K E n [lpl x (-(k + j)), lpl (lneg x) (k + j)] t, z ∈ sc
  | [], k, sc, h, j, o, ho => by simp at ho
  | a :: r, k, sc, h, j, o, ho => by
    simp only [swL] at h
    cases ht : tgt pc a with
    | none => rw [ht] at h; cases h
    | some t =>
      rw [ht] at h
      cases hr : swL x L K E n pc r (k + 1) with
      | none => rw [hr] at h; cases h
      | some sr =>
        rw [hr] at h
        cases h
        cases j with
        | zero =>
          have ho : a = o := by simpa using ho
          subst ho
          refine ⟨t, tgt_ok ht, fun z hz => List.mem_append_left _ ?_⟩
          simpa using hz
        | succ j =>
          have ho : r[j]? = some o := by simpa using ho
          obtain ⟨t2, h1, h2⟩ := swL_ok hr j o ho
          refine ⟨t2, h1, fun z hz => List.mem_append_right _ (h2 z ?_)⟩
          have e : k + 1 + (j : Int) = k + ((j + 1 : Nat) : Int) := by omega
          rw [e]; exact hz
theorem oSw_ok (hx : p.tables.exec = Jvm.exec) (hb : c.code = cc) {dflt lo hi : Int} {offs : Array Int} {len : Nat} (hd : decode cc pc = .ok (.tableswitch dflt lo hi offs, len)) (h : oSw dflt lo hi offs L K E n pc = some sc) (hs : ∀ x ∈ sc, Gl T ad gh XI S0 ρ0 xs cD cy A p l e R s m args below meth c Q nL x.2 x.1) : Gl T ad gh XI S0 ρ0 xs cD cy A p l e R s m args below meth c Q nL pc ((L, K), E, n) := by
  intro g τ S ρ H locs cells slots ls hA
  unfold oSw at h
  match K, h, hA with
  | .inl x :: K, h, hA =>
    have wK := SatA_wfK hA
    have wx : wfL E.1.length x := wfK_hd wK
    have wK := wfK_tl wK
    show W p l e R s m args below meth c H locs cells slots Q (F0 m pc ls (.int (Int32.ofInt (ev g x)) :: γK g τ xs K))
    dsimp only at h
    cases ef : fit32 E.1 x with
    | false => rw [ef] at h; cases h
    | true =>
      rw [ef] at h
      cases el : ile (hi - lo + 1) (Int.ofNat offs.toList.length) with
      | false => rw [el] at h; cases h
      | true =>
        rw [el] at h
        cases ht : tgt pc dflt with
        | none => rw [ht] at h; cases h
        | some t =>
          rw [ht] at h
          cases hw : swL x L K E n pc offs.toList lo with
          | none => rw [hw] at h; cases h
          | some sr =>
            rw [hw] at h
            cases h
            have eX := fit32_of hA.1.1 wx ef
            have hl := ile_iff.mp el
            by_cases h1 : ev g x < lo
            · refine lv_tableOut hx hb hd (Or.inl (by rw [eX]; exact h1)) (tgt_ok ht) (br_ok (fun z hz => hs z (List.mem_append_left _ hz)) hA wK ?_)
              intro f hf
              rcases List.mem_singleton.mp hf with rfl
              exact ⟨wf_lpl (wf_lneg wx), by rw [ev_lpl, ev_lneg]; omega⟩
            · by_cases h2 : hi < ev g x
              · refine lv_tableOut hx hb hd (Or.inr (by rw [eX]; exact h2)) (tgt_ok ht) (br_ok (fun z hz => hs z (List.mem_append_right _ (List.mem_append_left _ hz))) hA wK ?_)
                intro f hf
                rcases List.mem_singleton.mp hf with rfl
                exact ⟨wf_lpl wx, by rw [ev_lpl]; omega⟩
              · have hj : (ev g x - lo).toNat < offs.toList.length := by
                  have : (Int.ofNat offs.toList.length) = (offs.toList.length : Int) := rfl
                  omega
                obtain ⟨t2, k1, k2⟩ := swL_ok hw (ev g x - lo).toNat _ (List.getElem?_eq_getElem hj)
                refine lv_tableIn hx hb hd (by rw [eX]; exact h1) (by rw [eX]; exact h2) (off := offs.toList[(ev g x - lo).toNat]) (by rw [eX, ← Array.getElem?_toList]; exact List.getElem?_eq_getElem hj) k1 (br_ok (fun z hz => hs z (List.mem_append_right _ (List.mem_append_right _ (k2 z hz)))) hA wK ?_)
                have e3 : lo + ((ev g x - lo).toNat : Int) = ev g x := by omega
                rw [e3]
                intro f hf
                rcases List.mem_cons.mp hf with rfl | hf
                · exact ⟨wf_lpl wx, by rw [ev_lpl]; omega⟩
                · rcases List.mem_singleton.mp hf with rfl
                  exact ⟨wf_lpl (wf_lneg wx), by rw [ev_lpl, ev_lneg]; omega⟩
end OPS
