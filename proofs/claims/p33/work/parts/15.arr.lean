/-! rows of numbers and references, objects made: sound -/
/-- the law's own script -/
def RScr (gh : zS → Int → Int) (xs : Nat → Nat) (cD : va_G) (cy : Nat → ClassId) (A : Nat → Prop) (p : Program) (l : Launch) (e : Env) (R : Room) (s : State) (m : MethodId) (args : Array Value) (below : List Frame) (meth : Method) (c : Code) (Q : State → Prop) (cc : ByteArray) : Prop :=
  ∀ (H : Heap) (locs : List Loc) (cells slots pc : Nat) (ls : Array Slot) (rest : List Value) (S : zS), zPw cD cy A s.heap S H locs →
  (decode cc pc = .ok (.arraylength, 1) → W p l e R s m args below meth c H locs cells slots Q (F0 m (pc + 1) ls (.int (Int32.ofInt (gh zS0 (-1))) :: rest)) → W p l e R s m args below meth c H locs cells slots Q (F0 m pc ls (.ref (xs 9) :: rest))) ∧
  (decode cc pc = .ok (.iaload, 1) → ∀ ix : Int, 0 ≤ ix → ix < gh zS0 (-1) → (∀ v : Int32, v.toInt = gh zS0 (-1000 - ix) → W p l e R s m args below meth c H locs cells slots Q (F0 m (pc + 1) ls (.int v :: rest))) → W p l e R s m args below meth c H locs cells slots Q (F0 m pc ls (.int (Int32.ofInt ix) :: .ref (xs 9) :: rest)))
section AR
variable {T : Tt} {ad : Nat → Nat} {gh : zS → Int → Int} {XI : zS → Prop} {S0 : zS} {ρ0 : Nat → Nat} {xs : Nat → Nat} {cD : va_G} {cy : Nat → ClassId} {A : Nat → Prop}
variable {p : Program} {l : Launch} {e : Env} {R : Room} {s : State} {m : MethodId} {args : Array Value} {below : List Frame} {meth : Method} {c : Code} {Q : State → Prop} {cc : ByteArray} {nL : Nat} {Ts : List Cond} {own : String}
variable {L : Lc} {K : List Vl} {E E' : En} {n : Nn} {pc pc' : Nat} {sc : Suc} {g : Nat → Int} {τ : Nat → Option Nat} {S : zS} {ρ : Nat → Nat}
theorem aLen_ok {k : Nat} : ∀ {rs : List Nat} {len : Nat}, aLen T k rs = some len → ∀ r ∈ rs, (tRi T r).1 = k ∧ len ≤ (tRi T r).2.1
  | [], len, h, r, hr => by simp at hr
  | [q], len, h, r, hr => by
    simp only [aLen] at h
    split at h
    · rename_i e1
      cases h
      rw [List.mem_singleton.mp hr]
      exact ⟨Nat.eq_of_beq_eq_true e1, Nat.le_refl _⟩
    · cases h
  | q :: q2 :: rs, len, h, r, hr => by
    simp only [aLen] at h
    split at h
    · rename_i nn h1 h2
      have ih := aLen_ok h1
      have e2 := Nat.eq_of_beq_eq_true h2
      split at h
      · rename_i h3
        cases h
        have h3 := Nat.le_of_ble_eq_true h3
        rcases List.mem_cons.mp hr with rfl | hr
        · exact ⟨e2, h3⟩
        · exact ih r hr
      · rename_i h3
        cases h
        have h3 : ¬ nn ≤ (tRi T q).2.1 := fun z => by rw [Nat.ble_eq_true_of_le z] at h3; cases h3
        rcases List.mem_cons.mp hr with rfl | hr
        · exact ⟨e2, Nat.le_refl _⟩
        · have := ih r hr; exact ⟨this.1, by omega⟩
    · cases h
theorem ixOK_ok {f : Lin} {len : Nat} (h : SatE T ad gh XI S0 ρ0 E g τ S ρ) (w : wfL E.1.length f) (e : ixOK E f len = true) : (Int32.ofInt (ev g f)).toInt = ev g f ∧ 0 ≤ ev g f ∧ ev g f < (len : Int) := by
  unfold ixOK at e
  rw [Bool.and_eq_true] at e
  have h1 := fit32_of h.1 w e.1
  have h2 := h.inI w e.2
  have : Int.ofNat len = (len : Int) := rfl
  exact ⟨h1, h2.1, by omega⟩
theorem vp_of {x : Int32} {k : Nat} (h0 : 0 ≤ x.toInt) (h1 : x.toInt < (k : Int)) : vp_in x k ∧ x.toNatClampNeg = x.toInt.toNat := by
  refine ⟨fun q => ?_, rfl⟩
  rcases q with q | q
  · rw [Int32.lt_iff_toInt_lt] at q
    have : (0 : Int32).toInt = 0 := rfl
    omega
  · have : x.toNatClampNeg = x.toInt.toNat := rfl
    omega
theorem segH_ok {f : Nat → Int32} {lo hi : Int} {i : Nat} (h1 : lo ≤ (i : Int)) (h2 : (i : Int) ≤ hi) : ∀ {sg : List (Nat × Nat × Itv)}, (∀ q ∈ sg, SegOK f q) → (segH lo hi sg).1 ≤ (f i).toInt ∧ (f i).toInt ≤ (segH lo hi sg).2
  | [], _ => i32_rng _
  | q :: r, h => by
    simp only [segH]
    split
    · rename_i e1
      simp only [Bool.and_eq_true, ile_iff] at e1
      have a1 : Int.ofNat q.1 = (q.1 : Int) := rfl
      have a2 : Int.ofNat q.2.1 = (q.2.1 : Int) := rfl
      exact h q List.mem_cons_self i (by omega) (by omega)
    · exact segH_ok h1 h2 (fun z hz => h z (List.mem_cons_of_mem _ hz))
theorem hull_l {a b : Itv} {v : Int} (h : a.1 ≤ v ∧ v ≤ a.2) : (hull a b).1 ≤ v ∧ v ≤ (hull a b).2 := by
  unfold hull
  constructor
  · dsimp only; split
    · exact h.1
    · rename_i e1
      have : ¬ a.1 ≤ b.1 := fun z => by rw [ile_iff.mpr z] at e1; cases e1
      omega
  · dsimp only; split
    · rename_i e1; have := ile_iff.mp e1; omega
    · exact h.2
theorem hull_r {a b : Itv} {v : Int} (h : b.1 ≤ v ∧ v ≤ b.2) : (hull a b).1 ≤ v ∧ v ≤ (hull a b).2 := by
  unfold hull
  constructor
  · dsimp only; split
    · rename_i e1; have := ile_iff.mp e1; omega
    · exact h.1
  · dsimp only; split
    · exact h.2
    · rename_i e1
      have : ¬ a.2 ≤ b.2 := fun z => by rw [ile_iff.mpr z] at e1; cases e1
      omega
theorem segHs_ok {f : Nat → Int32} {lo hi : Int} {i r0 : Nat} (h1 : lo ≤ (i : Int)) (h2 : (i : Int) ≤ hi) (h3 : ∀ q ∈ (tRi T r0).2.2.2.1, SegOK f q) : ∀ {rs : List Nat}, r0 ∈ rs → (segHs T lo hi rs).1 ≤ (f i).toInt ∧ (f i).toInt ≤ (segHs T lo hi rs).2
  | [], h => by simp at h
  | [r], h => by
    rw [List.mem_singleton.mp h] at h3
    exact segH_ok h1 h2 h3
  | r :: r2 :: rs, h => by
    simp only [segHs]
    rcases List.mem_cons.mp h with rfl | h
    · exact hull_l (segH_ok h1 h2 h3)
    · exact hull_r (segHs_ok h1 h2 h3 h)
theorem pIv_ok {x : Itv} {v : Int32} {k : Nat} (h : x.1 ≤ v.toInt ∧ v.toInt ≤ x.2) : Rs32 k g (pIv x) v := by
  unfold pIv
  split
  · rename_i e1
    have e1 := ieq_iff.mp e1
    refine ⟨wf_lc, ?_⟩
    rw [ev_lc, ← ofInt_toInt32 v]
    congr 1
    omega
  · exact h
theorem oIald_ok {SA : List (Nat × List Int)} {scr : Bool} (hM : MX xs cD cy A p s m args c cc nL Ts own) (hSA : ∀ k l, (k, l) ∈ SA → RSpA .iaload k l) (hScr : scr = true → RScr gh xs cD cy A p l e R s m args below meth c Q cc) (hd : decode cc pc = .ok (.iaload, 1)) (h : oIald T SA scr L K E n pc = some sc) (hs : ∀ x ∈ sc, Gl T ad gh XI S0 ρ0 xs cD cy A p l e R s m args below meth c Q nL x.2 x.1) : Gl T ad gh XI S0 ρ0 xs cD cy A p l e R s m args below meth c Q nL pc ((L, K), E, n) := by
  intro g τ S ρ H locs cells slots ls hA
  unfold oIald at h
  split at h
  · rename_i ix i K'
    have wx : wfL E.1.length ix := wfK_hd (SatA_wfK hA)
    have wK := wfK_tl (wfK_tl (SatA_wfK hA))
    split at h
    · rename_i rs hri
      obtain ⟨a, ht, ha, hr, hro, hco⟩ := hA.1.ref hri
      show W p l e R s m args below meth c H locs cells slots Q (F0 m pc ls (.int (Int32.ofInt (ev g ix)) :: va_rf (τ i) :: γK g τ xs K'))
      rw [ht]
      have hw := hA.2.2.2.2.2.2.1
      have hTy := hA.1.2.2.2.2.2.2.2.2.1
      split at h
      · rename_i len hlen
        obtain ⟨q1, q2⟩ := aLen_ok hlen _ hr
        split at h
        · rename_i hix
          obtain ⟨b1, b2, b3⟩ := ixOK_ok hA.1 wx hix
          obtain ⟨v1, v2⟩ := vp_of (x := Int32.ofInt (ev g ix)) (k := (tRi T (ρ a)).2.1) (by omega) (by omega)
          have hk13 : zK S a = 13 := hco.1.trans q1
          have hn : zN S a = (tRi T (ρ a)).2.1 := hco.2.1 (by omega)
          refine z_iald hM.1 hM.2.2.1 hw ha hk13 hn v1 hd ?_
          rw [v2, b1]
          have hrg := rg_ok hA.1.1 wx
          generalize rg E.1 ix = z at h hrg
          obtain ⟨lo, hi⟩ := z
          dsimp only at h hrg
          have hiv := segHs_ok (f := zA S a) (lo := lo) (hi := hi) (i := (ev g ix).toNat) (by omega) (by omega) (hco.2.2.2.1 q1) hr
          generalize segHs T lo hi rs = iv at h hiv
          cases hreg : fRg rs true 0 T with
          | none => rw [hreg] at h; exact pI_ok h hs hA wK (pIv_ok hiv)
          | some reg =>
            rw [hreg] at h
            dsimp only at h
            obtain ⟨hlt, hval⟩ := rgA_ok hreg hTy ha hr
            cases hm : lkM (reg + 3) [ix] E.2.2.2.1 with
            | some f =>
              rw [hm] at h
              have hm := hA.1.2.2.2.1 _ (lkM_ok hm)
              have e1 : RGv T ad S reg (ev g ix) = ev g f := hm.2.2.1
              rw [hval] at e1
              exact pI_ok (r := .inl f) h hs hA wK ⟨hm.2.1, by rw [← e1, ofInt_toInt32]⟩
            | none =>
              rw [hm] at h
              dsimp only at h
              split at h
              · rename_i e1
                have e1 := ieq_iff.mp e1
                refine pI_ok (r := .inl (lc iv.1)) h hs hA wK ⟨wf_lc, ?_⟩
                rw [ev_lc, ← ofInt_toInt32 (zA S a (ev g ix).toNat)]
                congr 1
                omega
              · cases h
                have hx := (Xt_eI (E := E) (g := g) (τ := τ) (x := iv) (n := (zA S a (ev g ix).toNat).toInt))
                have hk := hx.K (xs := xs) wK
                have xf := hx.f wx
                have h1 := (hA.1.fresh (x := iv) (n := (zA S a (ev g ix).toNat).toInt) hiv).memo (m := (reg + 3, [ix], lsy E.1.length)) ⟨fun a ha => by rw [List.mem_singleton.mp ha]; exact xf.1, wf_lsy (by simp [eI]), by
                  show RGv T ad S reg (ev _ ix) = ev _ (lsy E.1.length)
                  rw [xf.2, hval, ev_lsy, gup_self], fun rg hrg => by
                  have : rg ∈ [reg] := hrg
                  rw [List.mem_singleton.mp this]; exact hlt⟩
                have := hs _ List.mem_cons_self _ τ S ρ H locs cells slots ls (hA.xt (K' := .inl (lsy E.1.length) :: K') hx h1 (wfK_cons (wf_lsy (by simp [eI, eM])) hk.1) hw)
                have e1 : γK (gup g E.1.length (zA S a (ev g ix).toNat).toInt) τ xs (.inl (lsy E.1.length) :: K') = .int (zA S a (ev g ix).toNat) :: γK g τ xs K' := by
                  show Value.int (Int32.ofInt (ev _ (lsy E.1.length))) :: γK _ τ xs K' = _
                  rw [ev_lsy, gup_self, ofInt_toInt32, hk.2]
                rw [← e1]; exact this
        · cases h
      · cases h
    · cases h
  · rename_i ix k K'
    have wx : wfL E.1.length ix := wfK_hd (SatA_wfK hA)
    have wK := wfK_tl (wfK_tl (SatA_wfK hA))
    show W p l e R s m args below meth c H locs cells slots Q (F0 m pc ls (.int (Int32.ofInt (ev g ix)) :: .ref (xs k) :: γK g τ xs K'))
    have hw := hA.2.2.2.2.2.2.1
    split at h
    · rename_i l0 hl0
      split at h
      · rename_i hix
        obtain ⟨b1, b2, b3⟩ := ixOK_ok hA.1 wx hix
        have rule := (hSA k l0 (asc_ok hl0) p l e R s m args below meth c H locs cells slots Q xs cD cy A cc nL Ts S pc ls (γK g τ xs K') own hM hw).2 hd (ev g ix).toNat (by omega)
        have e0 : ((ev g ix).toNat : Int) = ev g ix := by omega
        rw [e0] at rule
        refine rule ?_
        split at h
        · rename_i hic
          have := isc_ev (g := g) hic
          refine pI_ok (r := .inl (lc (nth 0 l0 ix.1.toNat))) h hs hA wK ⟨wf_lc, ?_⟩
          rw [ev_lc, this]
        · exact pI_ok h hs hA wK full32
      · cases h
    · split at h
      · rename_i len hk9 hm
        rw [Bool.and_eq_true] at hk9
        have hk9' := Nat.eq_of_beq_eq_true hk9.2
        subst hk9'
        split at h
        · rename_i hc
          simp only [Bool.and_eq_true] at hc
          have hm := hA.1.2.2.2.1 _ (lkM_ok hm)
          have e1 : gh zS0 (ev g (lc (Int.negSucc 0))) = ev g len := hm.2.2.1
          rw [show ev g (lc (Int.negSucc 0)) = (-1 : Int) by rw [ev_lc]; rfl] at e1
          have a1 := hA.1.ok wx hc.1.2
          have wl : wfL E.1.length len := hm.2.1
          have a2 := hA.1.ok (wf_lpl (wf_lsub wl wx)) hc.2
          rw [ev_lpl, ev_lsub] at a2
          have : Int.negSucc 0 = (-1 : Int) := rfl
          refine (hScr hk9.1 H locs cells slots pc ls (γK g τ xs K') S hw).2 hd (ev g ix) a1 (by omega) (fun v hv => ?_)
          have e9 : ev g (lpl (lneg ix) (Int.negSucc 999)) = -1000 - ev g ix := by
            rw [ev_lpl, ev_lneg]
            have : Int.negSucc 999 = (-1000 : Int) := rfl
            omega
          split at h
          · rename_i f hf
            have hm2 := hA.1.2.2.2.1 _ (lkM_ok hf)
            have e2 : gh zS0 (ev g (lpl (lneg ix) (Int.negSucc 999))) = ev g f := hm2.2.2.1
            have wf : wfL E.1.length f := hm2.2.1
            cases h
            have := hs _ List.mem_cons_self g τ S ρ H locs cells slots ls (hA.xt (K' := .inl f :: K') Xt.refl hA.1 (wfK_cons wf wK) hw)
            have e1 : (Value.int v :: γK g τ xs K' : List Value) = γK g τ xs (.inl f :: K') := by
              show _ = Value.int (Int32.ofInt (ev g f)) :: γK g τ xs K'
              rw [← e2, e9, ← hv, ofInt_toInt32]
            rw [e1]; exact this
          · cases h
            have hx := Xt_eI (E := E) (g := g) (τ := τ) (x := (k32l, k32h)) (n := v.toInt)
            have hk := hx.K (xs := xs) wK
            have xf := hx.f (f := lpl (lneg ix) (Int.negSucc 999)) (wf_lpl (wf_lneg wx))
            have h1 := (hA.1.fresh (x := (k32l, k32h)) (n := v.toInt) (i32_rng v)).memo (m := (0, [lc 0, lc 0, lpl (lneg ix) (Int.negSucc 999)], lsy E.1.length)) ⟨fun a ha => by
              simp only [List.mem_cons, List.not_mem_nil, or_false] at ha
              rcases ha with rfl | rfl | rfl
              · exact wf_lc
              · exact wf_lc
              · exact xf.1, wf_lsy (by simp [eI]), by
              show gh zS0 (ev _ (lpl (lneg ix) (Int.negSucc 999))) = ev _ (lsy E.1.length)
              rw [xf.2, e9, ev_lsy, gup_self, hv], fun rg hrg => by simp [gfp] at hrg⟩
            have := hs _ List.mem_cons_self _ τ S ρ H locs cells slots ls (hA.xt (K' := .inl (lsy E.1.length) :: K') hx h1 (wfK_cons (wf_lsy (by simp [eI, eM])) hk.1) hw)
            have e1 : γK (gup g E.1.length v.toInt) τ xs (.inl (lsy E.1.length) :: K') = .int v :: γK g τ xs K' := by
              show Value.int (Int32.ofInt (ev _ (lsy E.1.length))) :: γK _ τ xs K' = _
              rw [ev_lsy, gup_self, ofInt_toInt32, hk.2]
            rw [← e1]; exact this
        · cases h
      · cases h
  · cases h
theorem oBald_ok {SB : List (Nat × List Int)} (hM : MX xs cD cy A p s m args c cc nL Ts own) (hSB : ∀ k l, (k, l) ∈ SB → RSpA .baload k l) (hd : decode cc pc = .ok (.baload, 1)) (h : oBald SB L K E n pc = some sc) (hs : ∀ x ∈ sc, Gl T ad gh XI S0 ρ0 xs cD cy A p l e R s m args below meth c Q nL x.2 x.1) : Gl T ad gh XI S0 ρ0 xs cD cy A p l e R s m args below meth c Q nL pc ((L, K), E, n) := by
  intro g τ S ρ H locs cells slots ls hA
  unfold oBald at h
  split at h
  · rename_i ix k K'
    have wx : wfL E.1.length ix := wfK_hd (SatA_wfK hA)
    have wK := wfK_tl (wfK_tl (SatA_wfK hA))
    show W p l e R s m args below meth c H locs cells slots Q (F0 m pc ls (.int (Int32.ofInt (ev g ix)) :: .ref (xs k) :: γK g τ xs K'))
    have hw := hA.2.2.2.2.2.2.1
    split at h
    · rename_i l0 hl0
      split at h
      · rename_i hix
        obtain ⟨b1, b2, b3⟩ := ixOK_ok hA.1 wx hix
        have rule := (hSB k l0 (asc_ok hl0) p l e R s m args below meth c H locs cells slots Q xs cD cy A cc nL Ts S pc ls (γK g τ xs K') own hM hw).2 hd (ev g ix).toNat (by omega)
        have e0 : ((ev g ix).toNat : Int) = ev g ix := by omega
        rw [e0] at rule
        refine rule ?_
        split at h
        · rename_i hic
          have := isc_ev (g := g) hic
          refine pI_ok (r := .inl (lc (nth 0 l0 ix.1.toNat))) h hs hA wK ⟨wf_lc, ?_⟩
          rw [ev_lc, this]
        · exact pI_ok h hs hA wK full32
      · cases h
    · cases h
  · cases h
theorem segW_ok {v : Lin} {lo hi : Int} (h : SatE T ad gh XI S0 ρ0 E g τ S ρ) (w : wfL E.1.length v) : ∀ {sg : List (Nat × Nat × Itv)}, segW E v lo hi sg = true → ∀ q ∈ sg, ∀ i : Nat, lo ≤ (i : Int) → (i : Int) ≤ hi → q.1 ≤ i → i < q.2.1 → q.2.2.1 ≤ (Int32.ofInt (ev g v)).toInt ∧ (Int32.ofInt (ev g v)).toInt ≤ q.2.2.2
  | [], _, q, hq => by simp at hq
  | z :: r, he, q, hq => by
    simp only [segW] at he
    split at he
    · rename_i e1
      rcases List.mem_cons.mp hq with rfl | hq
      · intro i h1 h2 h3 h4
        simp only [Bool.or_eq_true, ile_iff] at e1
        have a1 : Int.ofNat q.1 = (q.1 : Int) := rfl
        have a2 : Int.ofNat q.2.1 = (q.2.1 : Int) := rfl
        rcases e1 with (e1 | e1) | e1
        · omega
        · omega
        · exact inIv_ok h w e1
      · exact segW_ok h w he q hq
    · cases he
theorem dG_ok {td : List Nat} {lo hi : Int} {ix : Lin} : ∀ {cs : List (Nat × Nat)} {gi : Nat} {d : List (Nat × Lin)}, dirt.dG td lo hi ix cs gi = some d → (∀ x ∈ d, ∃ k : Int, x = (gi, lpl ix k)) ∧ ∀ q ∈ cs, q.1 ∈ td → ∀ v t : Int, lo ≤ v → v ≤ hi → 0 ≤ t → t < 8 → v = (q.2 : Int) + t → (gi, lpl ix (-(Int.ofNat q.2))) ∈ d
  | [], gi, d, h => by
    cases h
    exact ⟨fun x hx => by simp at hx, fun q hq => by simp at hq⟩
  | z :: r, gi, d, h => by
    simp only [dirt.dG] at h
    cases h0 : dirt.dG td lo hi ix r gi with
    | none => rw [h0] at h; cases h
    | some d0 =>
      rw [h0] at h
      dsimp only at h
      obtain ⟨i1, i2⟩ := dG_ok h0
      have a1 : Int.ofNat z.2 = (z.2 : Int) := rfl
      cases h1 : nin z.1 td with
      | false =>
        rw [h1] at h; cases h
        refine ⟨i1, fun q hq htd => ?_⟩
        rcases List.mem_cons.mp hq with rfl | hq
        · exact absurd htd (nin_not h1)
        · exact i2 q hq htd
      | true =>
        rw [h1] at h
        dsimp only at h
        split at h
        · rename_i h2
          cases h
          simp only [Bool.or_eq_true, ile_iff] at h2
          refine ⟨i1, fun q hq htd => ?_⟩
          rcases List.mem_cons.mp hq with rfl | hq
          · intro v t b1 b2 b3 b4 b5
            rcases h2 with h2 | h2 <;> omega
          · exact i2 q hq htd
        · split at h
          · rename_i h3
            cases h
            refine ⟨fun x hx => ?_, fun q hq htd v t b1 b2 b3 b4 b5 => ?_⟩
            · rcases List.mem_cons.mp hx with rfl | hx
              · exact ⟨_, rfl⟩
              · exact i1 x hx
            · rcases List.mem_cons.mp hq with rfl | hq
              · exact List.mem_cons_self
              · exact List.mem_cons_of_mem _ (i2 q hq htd v t b1 b2 b3 b4 b5)
          · cases h
theorem dirt_ok {td : List Nat} {lo hi : Int} {ix : Lin} : ∀ {Gs : List CGI} {g0 : Nat} {d : List (Nat × Lin)}, dirt T td lo hi ix g0 Gs = some d → (∀ x ∈ d, ∃ k : Int, x.2 = lpl ix k) ∧ ∀ (j : Nat) (G : CGI), Gs[j]? = some G → ∀ q ∈ G.1, q.1 ∈ td → ∀ v t : Int, lo ≤ v → v ≤ hi → 0 ≤ t → t < 8 → v = (q.2 : Int) + t → (g0 + j, lpl ix (-(Int.ofNat q.2))) ∈ d
  | [], g0, d, h => by
    cases h
    exact ⟨fun x hx => by simp at hx, fun j G hG => by simp at hG⟩
  | G0 :: r, g0, d, h => by
    simp only [dirt] at h
    split at h
    · rename_i d0 d1 h0 h1
      cases h
      obtain ⟨i1, i2⟩ := dirt_ok h0
      obtain ⟨j1, j2⟩ := dG_ok h1
      refine ⟨fun x hx => ?_, fun j G hG q hq htd v t b1 b2 b3 b4 b5 => ?_⟩
      · rcases List.mem_append.mp hx with hx | hx
        · obtain ⟨k, rfl⟩ := j1 x hx; exact ⟨k, rfl⟩
        · exact i1 x hx
      · cases j with
        | zero =>
          have e1 : G0 = G := by simpa using hG
          subst e1
          exact List.mem_append_left _ (j2 q hq htd v t b1 b2 b3 b4 b5)
        | succ j =>
          have hG : r[j]? = some G := by simpa using hG
          have := i2 j G hG q hq htd v t b1 b2 b3 b4 b5
          rw [show g0 + (j + 1) = g0 + 1 + j by omega]
          exact List.mem_append_right _ this
    · cases h
theorem SatE.memos {Ms : List Mem} (h : SatE T ad gh XI S0 ρ0 E g τ S ρ) (hm : ∀ m ∈ Ms, MemOK T ad gh E.1.length S g m) : SatE T ad gh XI S0 ρ0 (E.1, E.2.1, E.2.2.1, Ms ++ E.2.2.2.1, E.2.2.2.2) g τ S ρ := by
  obtain ⟨h1, h2, h3, h4, h5, h6, h7, h8, h9⟩ := h
  refine ⟨h1, h2, h3, fun z hz => ?_, h5, h6, h7, h8, h9⟩
  rcases List.mem_append.mp hz with hz | hz
  · exact hm z hz
  · exact h4 z hz
theorem kpM_mem {reg : Nat} {ix : Lin} {I : List Itv} {m : Mem} : ∀ {M : List Mem}, m ∈ kpM reg ix I M → m ∈ M ∧ kpB reg ix I m = true
  | [], h => by simp [kpM] at h
  | a :: r, h => by
    simp only [kpM] at h
    split at h
    · rename_i e
      rcases List.mem_cons.mp h with rfl | h
      · exact ⟨List.mem_cons_self, e⟩
      · obtain ⟨k1, k2⟩ := kpM_mem h
        exact ⟨List.mem_cons_of_mem _ k1, k2⟩
    · obtain ⟨k1, k2⟩ := kpM_mem h
      exact ⟨List.mem_cons_of_mem _ k1, k2⟩
theorem kpB_ok {reg : Nat} {ix : Lin} {I : List Itv} {m : Mem} (h : kpB reg ix I m = true) : ∃ j, m.2.1 = [j] ∧ m.1 = reg + 3 ∧ 0 ≤ (rg I j).1 ∧ (1 ≤ (rg I (lsub j ix)).1 ∨ (rg I (lsub j ix)).2 ≤ -1) := by
  unfold kpB at h
  split at h
  · rename_i j hj
    rw [Bool.and_eq_true, Bool.and_eq_true] at h
    obtain ⟨⟨h1, h2⟩, h3⟩ := h
    refine ⟨j, hj, Nat.eq_of_beq_eq_true h1, ile_iff.mp h2, ?_⟩
    generalize rg I (lsub j ix) = z at h3 ⊢
    obtain ⟨lo, hi⟩ := z
    dsimp only at h3 ⊢
    rw [Bool.or_eq_true] at h3
    rcases h3 with h3 | h3
    · exact Or.inl (ile_iff.mp h3)
    · exact Or.inr (ile_iff.mp h3)
  · cases h
theorem oIast_ok (hM : MX xs cD cy A p s m args c cc nL Ts own) (hT : TOK T ad gh XI) (hd : decode cc pc = .ok (.iastore, 1)) (h : oIast T L K E n pc = some sc) (hs : ∀ x ∈ sc, Gl T ad gh XI S0 ρ0 xs cD cy A p l e R s m args below meth c Q nL x.2 x.1) : Gl T ad gh XI S0 ρ0 xs cD cy A p l e R s m args below meth c Q nL pc ((L, K), E, n) := by
  intro g τ S ρ H locs cells slots ls hA
  unfold oIast at h
  split at h
  · rename_i v ix i K'
    have wv : wfL E.1.length v := wfK_hd (SatA_wfK hA)
    have wx : wfL E.1.length ix := wfK_hd (wfK_tl (SatA_wfK hA))
    have wK := wfK_tl (wfK_tl (wfK_tl (SatA_wfK hA)))
    split at h
    · rename_i rs hri
      obtain ⟨a, ht, ha, hr, hro, hco⟩ := hA.1.ref hri
      show W p l e R s m args below meth c H locs cells slots Q (F0 m pc ls (.int (Int32.ofInt (ev g v)) :: .int (Int32.ofInt (ev g ix)) :: va_rf (τ i) :: γK g τ xs K'))
      rw [ht]
      have hw := hA.2.2.2.2.2.2.1
      have hTy := hA.1.2.2.2.2.2.2.2.2.1
      split at h
      · rename_i len hlen
        obtain ⟨q1, q2⟩ := aLen_ok hlen _ hr
        have hrg := rg_ok hA.1.1 wx
        generalize rg E.1 ix = z at h hrg
        obtain ⟨lo, hi⟩ := z
        dsimp only at hrg
        split at h
        · rename_i lo2 hi2 hix heq
          cases heq
          obtain ⟨b1, b2, b3⟩ := ixOK_ok hA.1 wx hix
          obtain ⟨v1, v2⟩ := vp_of (x := Int32.ofInt (ev g ix)) (k := (tRi T (ρ a)).2.1) (by omega) (by omega)
          have hk13 : zK S a = 13 := hco.1.trans q1
          have hn : zN S a = (tRi T (ρ a)).2.1 := hco.2.1 (by omega)
          split at h
          · rename_i hseg
            generalize htd : tch T rs true 0 = td at h
            split at h
            · rename_i d hxr hdd
              refine z_iast hM.1 hM.2.2.1 hw ha hk13 hn v1 hd (fun H1 locs1 hw1 => ?_)
              rw [v2, b1] at hw1
              have hsg := segW_ok hA.1 wv (List.all_eq_true.mp hseg _ hr)
              have hfr := fr_A (S := S) (f := upd (zA S a) (ev g ix).toNat (Int32.ofInt (ev g v))) hT hTy (a := a) hr
              rw [htd] at hfr
              have hty' : Typed T ad (zsA S a (upd (zA S a) (ev g ix).toNat (Int32.ofInt (ev g v)))) ρ := hTy.putA (n := (ev g ix).toNat) (x := Int32.ofInt (ev g v)) (fun i hi => if_neg hi) (if_pos rfl) (fun ri h1 h2 q hq h3 h4 => by
                rw [hro] at h1
                cases h1
                exact hsg q hq _ (by omega) (by omega) h3 h4)
              -- what the write may break is told
              have hcp : (∀ x ∈ d, wfL E.1.length x.2) ∧ CoupX T ad (zsA S a (upd (zA S a) (ev g ix).toNat (Int32.ofInt (ev g v)))) g (d ++ E.2.2.2.2.1) := by
                have none_case : (∀ (gi : Nat) (G : CGI), (tCG T)[gi]? = some G → ∀ c ∈ G.1, c.1 ∉ td) → d = [] → (∀ x ∈ d, wfL E.1.length x.2) ∧ CoupX T ad (zsA S a (upd (zA S a) (ev g ix).toNat (Int32.ofInt (ev g v)))) g (d ++ E.2.2.2.2.1) := by
                  intro hno hd0
                  subst hd0
                  exact ⟨fun x hx => by simp at hx, hA.1.2.2.2.2.2.1.fr hT hfr hno⟩
                split at hdd
                · cases hdd
                  exact none_case (fun _ _ _ _ _ => List.not_mem_nil) rfl
                · split at hdd
                  · rename_i r1
                    obtain ⟨d1, d2⟩ := dirt_ok hdd
                    refine ⟨fun x hx => ?_, fun gi G hG t ht2 hdd2 => ?_⟩
                    · obtain ⟨k, hk⟩ := d1 x hx
                      rw [hk]; exact wf_lpl wx
                    · have old := hA.1.2.2.2.2.2.1 gi G hG t ht2 (fun x hx hx2 => hdd2 x (List.mem_append_right _ hx) hx2)
                      refine old.same (fun cc0 hcc0 => ?_)
                      by_cases hin : cc0.1 ∈ td
                      · -- another place of that row
                        have hrl := hT.2.2.2.2.2.1 gi G hG cc0 hcc0
                        have hq := RG_get (T := T) hrl
                        by_cases hne : ((cc0.2 + t : Nat) : Int) = ev g ix
                        · have := d2 gi G hG cc0 hcc0 hin (ev g ix) (t : Int) hrg.1 hrg.2 (by omega) (by omega) (by omega)
                          rw [Nat.zero_add] at this
                          have hbad := hdd2 _ (List.mem_append_left _ this) rfl
                          rw [ev_lpl] at hbad
                          have : Int.ofNat cc0.2 = (cc0.2 : Int) := rfl
                          exact absurd (by omega) hbad
                        · unfold RGv
                          generalize nth (0, false, 0) (tRG T) cc0.1 = q
                          obtain ⟨r1, isA, f2⟩ := q
                          match isA, f2 with
                          | false, _ => rfl
                          | true, 1 => rfl
                          | true, _ + 2 => rfl
                          | true, 0 =>
                            show ((va_up (zA S) a (upd (zA S a) (ev g ix).toNat (Int32.ofInt (ev g v)))) (ad r1) ((cc0.2 + t : Nat) : Int).toNat).toInt = (zA S (ad r1) ((cc0.2 + t : Nat) : Int).toNat).toInt
                            by_cases e1 : ad r1 = a
                            · rw [e1, va_up_self]
                              have : upd (zA S a) (ev g ix).toNat (Int32.ofInt (ev g v)) ((cc0.2 + t : Nat) : Int).toNat = zA S a ((cc0.2 + t : Nat) : Int).toNat := if_neg (by omega)
                              rw [this]
                            · rw [va_up_ne _ _ e1]
                      · exact hfr.2 cc0.1 (hT.2.2.2.2.2.1 gi G hG cc0 hcc0) hin _
                  · split at hdd
                    · cases hdd
                    · rename_i hcl
                      cases hdd
                      exact none_case (cpl_no hcl) rfl
              have hE1 := hA.1.step hT hfr ⟨hty', XI_fr hT hfr (xr_no hxr) hA.1.2.2.2.2.2.2.2.2.2⟩ (D := d ++ E.2.2.2.2.1) (fun x hx => (List.mem_append.mp hx).elim (hcp.1 x) (hA.1.2.2.2.2.1 x)) hcp.2
              have hX : Xt E (eK T E td (d ++ E.2.2.2.2.1)) g g τ τ := ⟨Nat.le_refl _, fun _ _ => rfl, Nat.le_refl _, fun _ _ => rfl⟩
              dsimp only at h
              split at h
              · rename_i reg hreg hfit
                cases h
                obtain ⟨hlt, hval⟩ := rgA_ok hreg hty' (by exact ha) hr
                have hE1k : SatE T ad gh XI S0 ρ0 (kpE reg ix E (eK T E td (d ++ E.2.2.2.2.1))) g τ (zsA S a (upd (zA S a) (ev g ix).toNat (Int32.ofInt (ev g v)))) ρ := by
                  refine hE1.memos (fun m hm => ?_)
                  obtain ⟨hm1, hm2⟩ := kpM_mem hm
                  obtain ⟨j, hj1, hj2, hj0, hj3⟩ := kpB_ok hm2
                  obtain ⟨k1, k2, k3, k4⟩ := hA.1.2.2.2.1 m hm1
                  have wj : wfL E.1.length j := k1 j (by rw [hj1]; exact List.mem_cons_self)
                  have r0 := rg_ok hA.1.1 wj
                  have r1 := rg_ok hA.1.1 (wf_lsub wj wx)
                  rw [ev_lsub] at r1
                  dsimp only at r0 r1
                  refine ⟨k1, k2, ?_, k4⟩
                  rw [← k3, hj1, hj2]
                  show RGv T ad _ reg (ev g j) = RGv T ad S reg (ev g j)
                  obtain ⟨-, hval0⟩ := rgA_ok hreg hTy ha hr
                  rw [hval, hval0]
                  have : zA (zsA S a (upd (zA S a) (ev g ix).toNat (Int32.ofInt (ev g v)))) a = upd (zA S a) (ev g ix).toNat (Int32.ofInt (ev g v)) := va_up_self _ _ _
                  rw [this]
                  have : upd (zA S a) (ev g ix).toNat (Int32.ofInt (ev g v)) (ev g j).toNat = zA S a (ev g j).toNat := if_neg (by omega)
                  rw [this]
                have hE2 := hE1k.memo (m := (reg + 3, [ix], v)) ⟨fun a ha => by rw [List.mem_singleton.mp ha]; exact wx, wv, by
                  show RGv T ad _ reg (ev g ix) = ev g v
                  rw [hval]
                  have : zA (zsA S a (upd (zA S a) (ev g ix).toNat (Int32.ofInt (ev g v)))) a = upd (zA S a) (ev g ix).toNat (Int32.ofInt (ev g v)) := va_up_self _ _ _
                  rw [this]
                  have : upd (zA S a) (ev g ix).toNat (Int32.ofInt (ev g v)) (ev g ix).toNat = Int32.ofInt (ev g v) := if_pos rfl
                  rw [this, fit32_of hA.1.1 wv hfit], fun rg hrg => by
                  have : rg ∈ [reg] := hrg
                  rw [List.mem_singleton.mp this]; exact hlt⟩
                exact hs _ List.mem_cons_self g τ _ ρ H1 locs1 cells slots ls (hA.xt (K' := K') hX hE2 wK hw1)
              · cases h
                exact hs _ List.mem_cons_self g τ _ ρ H1 locs1 cells slots ls (hA.xt (K' := K') hX hE1 wK hw1)
            · cases h
          · cases h
        · cases h
      · cases h
    · cases h
  · cases h
/-- a long by its halves -/
theorem low_hi (x : Int64) : ∃ h : Int, -2147483648 ≤ h ∧ h ≤ 2147483648 ∧ x.toInt = x.toInt32.toInt + 4294967296 * h := by
  have e : x.toInt32.toInt = x.toInt.bmod 4294967296 := Int64.toInt_toInt32 x
  have r := i64_rng x
  rw [k64l_eq, k64h_eq] at r
  have d := Int.bmod_add_bdiv x.toInt 4294967296
  have r2 := i32_rng x.toInt32
  rw [k32l_eq, k32h_eq] at r2
  refine ⟨x.toInt.bdiv 4294967296, ?_, ?_, ?_⟩
  · rw [e] at r2
    have : ((4294967296 : Nat) : Int) = 4294967296 := rfl
    rw [this] at d
    omega
  · rw [e] at r2
    have : ((4294967296 : Nat) : Int) = 4294967296 := rfl
    rw [this] at d
    omega
  · have d2 : x.toInt.bmod 4294967296 + 4294967296 * x.toInt.bdiv 4294967296 = x.toInt := Int.bmod_add_bdiv x.toInt 4294967296
    rw [e]; exact d2.symm
theorem oLald_ok (hM : MX xs cD cy A p s m args c cc nL Ts own) (hd : decode cc pc = .ok (.laload, 1)) (h : oLald T L K E n pc = some sc) (hs : ∀ x ∈ sc, Gl T ad gh XI S0 ρ0 xs cD cy A p l e R s m args below meth c Q nL x.2 x.1) : Gl T ad gh XI S0 ρ0 xs cD cy A p l e R s m args below meth c Q nL pc ((L, K), E, n) := by
  intro g τ S ρ H locs cells slots ls hA
  unfold oLald at h
  split at h
  · rename_i ix i K'
    have wx : wfL E.1.length ix := wfK_hd (SatA_wfK hA)
    have wK := wfK_tl (wfK_tl (SatA_wfK hA))
    split at h
    · rename_i rs hri
      obtain ⟨a, ht, ha, hr, hro, hco⟩ := hA.1.ref hri
      show W p l e R s m args below meth c H locs cells slots Q (F0 m pc ls (.int (Int32.ofInt (ev g ix)) :: va_rf (τ i) :: γK g τ xs K'))
      rw [ht]
      split at h
      · rename_i len hlen
        obtain ⟨q1, q2⟩ := aLen_ok hlen _ hr
        split at h
        · rename_i hix
          obtain ⟨b1, b2, b3⟩ := ixOK_ok hA.1 wx hix
          obtain ⟨v1, v2⟩ := vp_of (x := Int32.ofInt (ev g ix)) (k := (tRi T (ρ a)).2.1) (by omega) (by omega)
          have hw := hA.2.2.2.2.2.2.1
          have hTy := hA.1.2.2.2.2.2.2.2.2.1
          refine z_lald hM.1 hM.2.2.1 hw ha (hco.1.trans q1) (hco.2.1 (by omega)) v1 hd ?_
          split at h
          · exact pJ_ok h hs hA wK full64
          · rename_i reg hreg
            obtain ⟨hlt, hval⟩ := rgB_ok hreg hTy ha hr
            generalize hx0 : zB S a (Int32.ofInt (ev g ix)).toNatClampNeg = x0
            have hx1 : zB S a (ev g ix).toNat = x0 := by rw [← hx0, v2, b1]
            obtain ⟨hh, hh1, hh2, hh3⟩ := low_hi x0
            split at h
            · rename_i f hm
              cases h
              have hm := hA.1.2.2.2.1 _ (lkM_ok hm)
              have e1 : RGv T ad S reg (ev g ix) = ev g f := hm.2.2.1
              rw [hval, hx1] at e1
              have hX := Xt_eI (E := E) (g := g) (τ := τ) (x := (k32l, 2147483648)) (n := hh)
              have hk := hX.K (xs := xs) wK
              have wf2 := hX.f hm.2.1
              have wl : wfL (eI E (k32l, 2147483648)).1.length (ladd f (lsc 4294967296 (lsy E.1.length))) := wf_ladd wf2.1 (wf_lsc (wf_lsy (by simp [eI])))
              have := hs _ List.mem_cons_self _ τ S ρ H locs cells slots ls (hA.xt (K' := .inr (.inl (ladd f (lsc 4294967296 (lsy E.1.length)))) :: K') hX (hA.1.fresh (x := (k32l, 2147483648)) (n := hh) ⟨by rw [k32l_eq]; omega, by show hh ≤ 2147483648; omega⟩) (wfK_cons wl hk.1) hw)
              have e2 : γK (gup g E.1.length hh) τ xs (.inr (.inl (ladd f (lsc 4294967296 (lsy E.1.length)))) :: K') = .long x0 :: γK g τ xs K' := by
                show Value.long (Int64.ofInt (ev _ (ladd f (lsc 4294967296 (lsy E.1.length))))) :: γK _ τ xs K' = _
                rw [ev_ladd, ev_lsc, ev_lsy, gup_self, wf2.2, ← e1, ← hh3, ofInt_toInt64, hk.2]
              rw [← e2]; exact this
            · cases h
              have hX1 := Xt_eI (E := E) (g := g) (τ := τ) (x := (k32l, k32h)) (n := x0.toInt32.toInt)
              have h1 := hA.1.fresh (x := (k32l, k32h)) (n := x0.toInt32.toInt) (i32_rng _)
              have hX2 := Xt_eI (E := eI E (k32l, k32h)) (g := gup g E.1.length x0.toInt32.toInt) (τ := τ) (x := (k32l, 2147483648)) (n := hh)
              have h2 := h1.fresh (x := (k32l, 2147483648)) (n := hh) ⟨by rw [k32l_eq]; omega, by show hh ≤ 2147483648; omega⟩
              have hX := hX1.trans hX2
              have hk := hX.K (xs := xs) wK
              have hl1 : (eI E (k32l, k32h)).1.length = E.1.length + 1 := by simp [eI]
              have hl2 : (eI (eI E (k32l, k32h)) (k32l, 2147483648)).1.length = E.1.length + 2 := by simp [eI]
              generalize hg2 : gup (gup g E.1.length x0.toInt32.toInt) (eI E (k32l, k32h)).1.length hh = g2 at *
              have v1 : g2 E.1.length = x0.toInt32.toInt := by rw [← hg2, gup_lt (by omega), gup_self]
              have v2 : g2 (E.1.length + 1) = hh := by rw [← hg2, ← hl1, gup_self]
              have wx2 := hX.f wx
              have h3 := h2.memo (m := (reg + 3, [ix], lsy E.1.length)) ⟨fun a ha => by rw [List.mem_singleton.mp ha]; exact wx2.1, wf_lsy (by show E.1.length < (eI (eI E (k32l, k32h)) (k32l, 2147483648)).1.length; omega), by
                show RGv T ad S reg (ev g2 ix) = ev g2 (lsy E.1.length)
                rw [wx2.2, hval, hx1, ev_lsy, v1], fun rg hrg => by
                have : rg ∈ [reg] := hrg
                rw [List.mem_singleton.mp this]; exact hlt⟩
              have wl : wfL (eI (eI E (k32l, k32h)) (k32l, 2147483648)).1.length (ladd (lsy E.1.length) (lsc 4294967296 (lsy (E.1.length + 1)))) := wf_ladd (wf_lsy (by omega)) (wf_lsc (wf_lsy (by omega)))
              have := hs _ List.mem_cons_self _ τ S ρ H locs cells slots ls (hA.xt (K' := .inr (.inl (ladd (lsy E.1.length) (lsc 4294967296 (lsy (E.1.length + 1))))) :: K') hX h3 (wfK_cons wl hk.1) hw)
              have e2 : γK g2 τ xs (.inr (.inl (ladd (lsy E.1.length) (lsc 4294967296 (lsy (E.1.length + 1))))) :: K') = .long x0 :: γK g τ xs K' := by
                show Value.long (Int64.ofInt (ev g2 (ladd (lsy E.1.length) (lsc 4294967296 (lsy (E.1.length + 1)))))) :: γK _ τ xs K' = _
                rw [ev_ladd, ev_lsc, ev_lsy, ev_lsy, v1, v2, ← hh3, ofInt_toInt64, hk.2]
              rw [← e2]; exact this
        · cases h
      · cases h
    · cases h
  · cases h
theorem oLast_ok (hM : MX xs cD cy A p s m args c cc nL Ts own) (hT : TOK T ad gh XI) (hd : decode cc pc = .ok (.lastore, 1)) (h : oLast T L K E n pc = some sc) (hs : ∀ x ∈ sc, Gl T ad gh XI S0 ρ0 xs cD cy A p l e R s m args below meth c Q nL x.2 x.1) : Gl T ad gh XI S0 ρ0 xs cD cy A p l e R s m args below meth c Q nL pc ((L, K), E, n) := by
  intro g τ S ρ H locs cells slots ls hA
  unfold oLast at h
  split at h
  · rename_i v ix i K'
    have wx : wfL E.1.length ix := wfK_hd (wfK_tl (SatA_wfK hA))
    have wK := wfK_tl (wfK_tl (wfK_tl (SatA_wfK hA)))
    split at h
    · rename_i rs hri
      obtain ⟨a, ht, ha, hr, hro, hco⟩ := hA.1.ref hri
      show W p l e R s m args below meth c H locs cells slots Q (F0 m pc ls (.long (Int64.ofInt (ev g v)) :: .int (Int32.ofInt (ev g ix)) :: va_rf (τ i) :: γK g τ xs K'))
      rw [ht]
      split at h
      · rename_i len hlen
        obtain ⟨q1, q2⟩ := aLen_ok hlen _ hr
        split at h
        · rename_i hix
          obtain ⟨b1, b2, b3⟩ := ixOK_ok hA.1 wx hix
          obtain ⟨v1, v2⟩ := vp_of (x := Int32.ofInt (ev g ix)) (k := (tRi T (ρ a)).2.1) (by omega) (by omega)
          refine z_last hM.1 hM.2.2.1 hA.2.2.2.2.2.2.1 ha (hco.1.trans q1) (hco.2.1 (by omega)) v1 hd (fun H1 locs1 hw1 => ?_)
          have hTy := hA.1.2.2.2.2.2.2.2.2.1
          have hfr := fr_B (S := S) (f := vp_updL (zB S a) (Int32.ofInt (ev g ix)).toNatClampNeg (Int64.ofInt (ev g v))) hT hTy (a := a) hr
          split at h
          · rename_i htd
            cases h
            exact hs _ List.mem_cons_self g τ _ ρ H1 locs1 cells slots ls (hA.xt (K' := K') Xt.refl (hA.1.step0 hT hfr htd hTy.putB) wK hw1)
          · rename_i t0 tr htd
            rw [htd] at hfr
            split at h
            · cases h
            · rename_i hany
              cases h
              obtain ⟨x1, x2⟩ := anyin_or hany
              have hE1 := hA.1.step hT hfr ⟨hTy.putB, XI_fr hT hfr (xr_no x1) hA.1.2.2.2.2.2.2.2.2.2⟩ hA.1.2.2.2.2.1 (hA.1.2.2.2.2.2.1.fr hT hfr (cpl_no x2))
              have hX : Xt E (eK T E (t0 :: tr) E.2.2.2.2.1) g g τ τ := ⟨Nat.le_refl _, fun _ _ => rfl, Nat.le_refl _, fun _ _ => rfl⟩
              exact hs _ List.mem_cons_self g τ _ ρ H1 locs1 cells slots ls (hA.xt (K' := K') hX hE1 wK hw1)
        · cases h
      · cases h
    · cases h
  · cases h
theorem eTy_ok : ∀ {rs : List Nat} {q : Bool × List Nat}, eTy T rs = some q → ∀ r ∈ rs, ∀ z, RefOK S ρ (tRi T r).2.2.2.2.1 (tRi T r).2.2.2.2.2 z → RefOK S ρ q.1 q.2 z
  | [], q, h, r, hr => by simp at hr
  | [x], q, h, r, hr => by
    cases h
    rw [List.mem_singleton.mp hr]
    exact fun z hz => hz
  | x :: y :: rs, q, h, r, hr => by
    simp only [eTy] at h
    split at h
    · rename_i q0 h0
      split at h
      · rename_i h1
        cases h
        intro z hz
        rcases List.mem_cons.mp hr with rfl | hr
        · exact hz.sub h1
        · exact eTy_ok h0 r hr z hz
      · cases h
    · cases h
theorem oAald_ok (hM : MX xs cD cy A p s m args c cc nL Ts own) (hd : decode cc pc = .ok (.aaload, 1)) (h : oAald T L K E n pc = some sc) (hs : ∀ x ∈ sc, Gl T ad gh XI S0 ρ0 xs cD cy A p l e R s m args below meth c Q nL x.2 x.1) : Gl T ad gh XI S0 ρ0 xs cD cy A p l e R s m args below meth c Q nL pc ((L, K), E, n) := by
  intro g τ S ρ H locs cells slots ls hA
  unfold oAald at h
  split at h
  · rename_i ix i K'
    have wx : wfL E.1.length ix := wfK_hd (SatA_wfK hA)
    have wK := wfK_tl (wfK_tl (SatA_wfK hA))
    split at h
    · rename_i rs hri
      obtain ⟨a, ht, ha, hr, hro, hco⟩ := hA.1.ref hri
      show W p l e R s m args below meth c H locs cells slots Q (F0 m pc ls (.int (Int32.ofInt (ev g ix)) :: va_rf (τ i) :: γK g τ xs K'))
      rw [ht]
      have hw := hA.2.2.2.2.2.2.1
      split at h
      · rename_i len q hlen hq
        have hk : ((tRi T (ρ a)).1 = 15 ∨ (tRi T (ρ a)).1 = 16) ∧ len ≤ (tRi T (ρ a)).2.1 := by
          split at hlen
          · rename_i h15
            cases hlen
            have := aLen_ok h15 _ hr
            exact ⟨Or.inl this.1, this.2⟩
          · have := aLen_ok hlen _ hr
            exact ⟨Or.inr this.1, this.2⟩
        split at h
        · rename_i hix
          obtain ⟨b1, b2, b3⟩ := ixOK_ok hA.1 wx hix
          have hk2 := hk.2
          obtain ⟨v1, v2⟩ := vp_of (x := Int32.ofInt (ev g ix)) (k := (tRi T (ρ a)).2.1) (by omega) (by omega)
          have h14 : 14 < (tRi T (ρ a)).1 := by rcases hk.1 with k | k <;> omega
          have hel := hco.2.2.2.2 h14 (Int32.ofInt (ev g ix)).toNatClampNeg (by rw [v2]; omega)
          have hfin := pR_ok h hs hA wK (eTy_ok hq _ hr _ hel)
          rcases hk.1 with k | k
          · exact z_pald hM.1 hM.2.2.1 hw ha (hco.1.trans k) (hco.2.1 (by omega)) v1 rfl hd hfin
          · exact z_qald hM.1 hM.2.2.1 hw ha (hco.1.trans k) (hco.2.1 (by omega)) v1 rfl hd hfin
        · cases h
      · cases h
    · cases h
  · cases h
theorem oAast_ok (hM : MX xs cD cy A p s m args c cc nL Ts own) (hT : TOK T ad gh XI) (hd : decode cc pc = .ok (.aastore, 1)) (h : oAast T L K E n pc = some sc) (hs : ∀ x ∈ sc, Gl T ad gh XI S0 ρ0 xs cD cy A p l e R s m args below meth c Q nL x.2 x.1) : Gl T ad gh XI S0 ρ0 xs cD cy A p l e R s m args below meth c Q nL pc ((L, K), E, n) := by
  intro g τ S ρ H locs cells slots ls hA
  unfold oAast at h
  split at h
  · rename_i j ix i K'
    have wj : j < E.2.1.length := wfK_hd (SatA_wfK hA)
    have wx : wfL E.1.length ix := wfK_hd (wfK_tl (SatA_wfK hA))
    have wK := wfK_tl (wfK_tl (wfK_tl (SatA_wfK hA)))
    split at h
    · rename_i rs hri
      obtain ⟨a, ht, ha, hr, hro, hco⟩ := hA.1.ref hri
      have hrj := hA.1.2.1 j _ (nth_lt (d := (true, [])) wj)
      generalize nth (true, []) E.2.1 j = q at h hrj
      have hw := hA.2.2.2.2.2.2.1
      split at h
      · rename_i len hlen
        obtain ⟨q1, q2⟩ := aLen_ok hlen _ hr
        split at h
        · rename_i hc
          simp only [Bool.and_eq_true] at hc
          obtain ⟨⟨hix, hkd⟩, hty⟩ := hc
          obtain ⟨b1, b2, b3⟩ := ixOK_ok hA.1 wx hix
          obtain ⟨v1, v2⟩ := vp_of (x := Int32.ofInt (ev g ix)) (k := (tRi T (ρ a)).2.1) (by omega) (by omega)
          have hty := List.all_eq_true.mp hty _ hr
          have hrj2 : RefOK S ρ (tRi T (ρ a)).2.2.2.2.1 (tRi T (ρ a)).2.2.2.2.2 (τ j) := hrj.sub hty
          have hput : Typed T ad (zsR S a (va_up (zR S a) (Int32.ofInt (ev g ix)).toNatClampNeg (τ j))) ρ := hA.1.2.2.2.2.2.2.2.2.1.putR (fun i hi => va_up_ne _ _ hi) (va_up_self _ _ _) (fun ri h1 h2 => by
            rw [hro] at h1
            cases h1
            exact hrj2)
          have fin : ∀ (H1 : Heap) (locs1 : List Loc), zPw cD cy A s.heap (zsR S a (va_up (zR S a) (Int32.ofInt (ev g ix)).toNatClampNeg (τ j))) H1 locs1 → W p l e R s m args below meth c H1 locs1 cells slots Q (F0 m (pc + 1) ls (γK g τ xs K')) := by
            intro H1 locs1 hw1
            cases h
            exact hs _ List.mem_cons_self g τ _ ρ H1 locs1 cells slots ls (hA.xt (K' := K') Xt.refl (hA.1.step0 hT fr_R rfl hput) wK hw1)
          show W p l e R s m args below meth c H locs cells slots Q (F0 m pc ls (va_rf (τ j) :: .int (Int32.ofInt (ev g ix)) :: va_rf (τ i) :: γK g τ xs K'))
          rw [ht]
          cases htj : τ j with
          | none =>
            rw [htj] at fin
            exact z_qastN hM.1 hM.2.2.1 hw ha (hco.1.trans q1) (hco.2.1 (by omega)) v1 hd fin
          | some b =>
            rw [htj] at fin hrj
            obtain ⟨hb1, hb2⟩ := hrj
            obtain ⟨ri, hri2, hcb⟩ := hA.1.2.2.2.2.2.2.2.2.1.1 b hb1
            have hkb := List.all_eq_true.mp hkd _ hb2
            rw [tRi_of hri2] at hkb
            exact z_qast hM.1 hM.2.2.1 hM.2.2.2.1 hw ha (hco.1.trans q1) (hco.2.1 (by omega)) hb1 (by rw [hcb.1]; exact nin_iff.mp hkb) v1 hd fin
        · cases h
      · cases h
    · cases h
  · cases h
theorem oneL_ok : ∀ {rs : List Nat} {len : Nat}, oneL T rs = some len → ∀ r ∈ rs, 12 < (tRi T r).1 ∧ (tRi T r).2.1 = len
  | [], len, h, r, hr => by simp at hr
  | [x], len, h, r, hr => by
    simp only [oneL] at h
    split at h
    · rename_i h1
      cases h
      rw [List.mem_singleton.mp hr]
      exact ⟨Nat.le_of_ble_eq_true h1, rfl⟩
    · cases h
  | x :: y :: rs, len, h, r, hr => by
    simp only [oneL] at h
    split at h
    · rename_i n0 h0
      split at h
      · rename_i h1
        cases h
        rw [Bool.and_eq_true] at h1
        rcases List.mem_cons.mp hr with rfl | hr
        · exact ⟨Nat.le_of_ble_eq_true h1.1, (Nat.eq_of_beq_eq_true h1.2).symm⟩
        · exact oneL_ok h0 r hr
      · cases h
    · cases h
/-- the kinds of arrays are four -/
def TA (T : Tt) : Prop := ∀ (r : Nat) (ri : RI), (tRT T)[r]? = some ri → 12 < ri.1 → ri.1 = 13 ∨ ri.1 = 14 ∨ ri.1 = 15 ∨ ri.1 = 16
theorem oAlen_ok {SA SB : List (Nat × List Int)} {scr : Bool} (hM : MX xs cD cy A p s m args c cc nL Ts own) (hTA : TA T) (hSA : ∀ k l, (k, l) ∈ SA → RSpA .iaload k l) (hSB : ∀ k l, (k, l) ∈ SB → RSpA .baload k l) (hScr : scr = true → RScr gh xs cD cy A p l e R s m args below meth c Q cc) (hd : decode cc pc = .ok (.arraylength, 1)) (h : oAlen T SA SB scr L K E n pc = some sc) (hs : ∀ x ∈ sc, Gl T ad gh XI S0 ρ0 xs cD cy A p l e R s m args below meth c Q nL x.2 x.1) : Gl T ad gh XI S0 ρ0 xs cD cy A p l e R s m args below meth c Q nL pc ((L, K), E, n) := by
  intro g τ S ρ H locs cells slots ls hA
  have hw := hA.2.2.2.2.2.2.1
  unfold oAlen at h
  split at h
  · rename_i i K'
    have wK := wfK_tl (SatA_wfK hA)
    split at h
    · rename_i rs hri
      obtain ⟨a, ht, ha, hr, hro, hco⟩ := hA.1.ref hri
      show W p l e R s m args below meth c H locs cells slots Q (F0 m pc ls (va_rf (τ i) :: γK g τ xs K'))
      rw [ht]
      split at h
      · rename_i len hlen
        obtain ⟨q1, q2⟩ := oneL_ok hlen _ hr
        have hk := hTA _ _ hro q1
        rw [← hco.1] at hk
        refine z_alen hM.1 hM.2.2.1 hw ha hk ((hco.2.1 q1).trans q2) rfl hd ?_
        exact pI_ok (r := .inl (lc (Int.ofNat len))) h hs hA wK ⟨wf_lc, by rw [ev_lc]; exact Int32.ofInt_eq_ofNat.symm⟩
      · cases h
    · cases h
  · rename_i k K'
    have wK := wfK_tl (SatA_wfK hA)
    show W p l e R s m args below meth c H locs cells slots Q (F0 m pc ls (.ref (xs k) :: γK g τ xs K'))
    split at h
    · rename_i l0 hl0
      exact (hSA k l0 (asc_ok hl0) p l e R s m args below meth c H locs cells slots Q xs cD cy A cc nL Ts S pc ls (γK g τ xs K') own hM hw).1 hd (pI_ok (r := .inl (lc (Int.ofNat l0.length))) h hs hA wK ⟨wf_lc, by rw [ev_lc]; rfl⟩)
    · split at h
      · rename_i l0 hl0
        exact (hSB k l0 (asc_ok hl0) p l e R s m args below meth c H locs cells slots Q xs cD cy A cc nL Ts S pc ls (γK g τ xs K') own hM hw).1 hd (pI_ok (r := .inl (lc (Int.ofNat l0.length))) h hs hA wK ⟨wf_lc, by rw [ev_lc]; rfl⟩)
      · split at h
        · rename_i f hk9 hm
          rw [Bool.and_eq_true] at hk9
          have hk9' := Nat.eq_of_beq_eq_true hk9.2
          subst hk9'
          have hm := hA.1.2.2.2.1 _ (lkM_ok hm)
          have e1 : gh zS0 (ev g (lc (Int.negSucc 0))) = ev g f := hm.2.2.1
          rw [show ev g (lc (Int.negSucc 0)) = (-1 : Int) by rw [ev_lc]; rfl] at e1
          refine (hScr hk9.1 H locs cells slots pc ls (γK g τ xs K') S hw).1 hd ?_
          exact pI_ok (r := .inl f) h hs hA wK ⟨hm.2.1, by rw [e1]⟩
        · cases h
  · cases h
theorem oNew_ok {lk : LK} {cl sl : Nat} (hM : MX xs cD cy A p s m args c cc nL Ts own) (hT : TOK T ad gh XI) (hL : LKOK own lk) (hcl : cl ≤ R.cells) (hsl : sl ≤ R.slots) {idx : Nat} (hd : decode cc pc = .ok (.new idx, 3)) (h : oNew T lk cl sl idx L K E n pc = some sc) (hs : ∀ x ∈ sc, Gl T ad gh XI S0 ρ0 xs cD cy A p l e R s m args below meth c Q nL x.2 x.1) : Gl T ad gh XI S0 ρ0 xs cD cy A p l e R s m args below meth c Q nL pc ((L, K), E, n) := by
  intro g τ S ρ H locs cells slots ls hA
  have hw := hA.2.2.2.2.2.2.1
  have wK := SatA_wfK hA
  unfold oNew at h
  split at h
  · rename_i k r N hne
    split at h
    · rename_i hc
      simp only [Bool.and_eq_true] at hc
      obtain ⟨⟨⟨⟨⟨c1, c2⟩, c3⟩, c4⟩, c5⟩, c6⟩ := hc
      have c1 := Nat.le_of_ble_eq_true c1
      have c2 := Nat.eq_of_beq_eq_true c2
      have c3 : k < 13 := Nat.le_of_ble_eq_true c3
      have c5 := ile_iff.mp c5
      have c6 := ile_iff.mp c6
      have n1 := (rg_ok hA.1.1 hA.2.2.2.1.1).2
      have n2 := (rg_ok hA.1.1 hA.2.2.2.1.2).2
      have m1 := hA.2.2.2.2.1
      have m2 := hA.2.2.2.2.2.1
      have z1 : Int.ofNat cl = (cl : Int) := rfl
      have z2 : Int.ofNat sl = (sl : Int) := rfl
      have z3 : Int.ofNat N = (N : Int) := rfl
      dsimp only at n1 n2 m1 m2
      cases h
      refine hL.2.2.1 idx (k, r, N) (asc_ok hne) p l e R s m args below meth c H locs cells slots Q xs cD cy A cc nL Ts S pc ls (γK g τ xs K) hM hw hd (by omega) (show slots + N ≤ R.slots by omega) (fun q H1 hq hw1 => ?_)
      have hTy := hA.1.2.2.2.2.2.2.2.2.1
      have hro : (tRT T)[r]? = some (tRi T r) := by
        have hl : r < (tRT T).length := by
          rcases Nat.lt_or_ge r (tRT T).length with z | z
          · exact z
          · exfalso
            have : tRi T r = (99, 0, [], [], (false, [])) := nth_ge z
            rw [this] at c2
            dsimp only at c2
            omega
        exact nth_lt hl
      have hty' := hTy.new (q := q) (k := k) (r := r) hq hro c2 c3 c1 (fun t ht => List.all_eq_true.mp c4 t ht)
      have hfr : Fr T ad [] S ρ (zNew S q k 0) (va_up ρ q r) := fr_new hq hTy hT
      have hE1 : SatE T ad gh XI S0 ρ0 E g τ (zNew S q k 0) (va_up ρ q r) := by
        obtain ⟨h1, h2, h3, h4, h5, h6, h7, h8, h9⟩ := hA.1
        refine ⟨h1, fun i z hz => (h2 i z hz).fr hfr, h3, fun mm hm => ?_, h5, h6.fr hT hfr (fun _ _ _ _ _ => List.not_mem_nil), ?_, h8, hty', XI_fr hT hfr (fun _ _ => List.not_mem_nil) h9.2⟩
        · obtain ⟨k1, k2, k3, k4⟩ := h4 mm hm
          exact ⟨k1, k2, by rw [GV_same hT (S := S) (fun reg hr i => hfr.2 reg (k4 reg hr) List.not_mem_nil i)]; exact k3, k4⟩
        · have := h7.trans hfr
          rwa [List.append_nil] at this
      have hql : q ∈ zL (zNew S q k 0) := List.mem_append_right _ List.mem_cons_self
      have hE2 := hE1.freshR (x := (false, [r])) (q := some q) ⟨hql, by rw [va_up_self]; exact List.mem_cons_self⟩
      have hx : Xt E (eR E (false, [r])) g g τ (gup τ E.2.1.length (some q)) := Xt_eR
      have hk := hx.K (xs := xs) wK
      -- the new object wasn't there at the start
      have hnw : q ∉ zL S0 := fun z => hq (hA.1.2.2.2.2.2.2.1.1 q z).1
      have hE3 : SatE T ad gh XI S0 ρ0 (match eR E (false, [r]) with
          | (I, Rf, F, M, D, md, Nw) => (I, Rf, F, M, D, md, E.2.1.length :: Nw)) g (gup τ E.2.1.length (some q)) (zNew S q k 0) (va_up ρ q r) := by
        obtain ⟨h1, h2, h3, h4, h5, h6, h7, h8, h9⟩ := hE2
        refine ⟨h1, h2, h3, h4, h5, h6, h7, fun i hi => ?_, h9⟩
        rcases List.mem_cons.mp hi with rfl | hi
        · refine ⟨by show E.2.1.length < (E.2.1 ++ [(false, [r])]).length; simp, fun a ha => ?_⟩
          rw [gup_self] at ha
          cases ha
          exact hnw
        · exact h8 i hi
      have hkk := hs _ List.mem_cons_self g (gup τ E.2.1.length (some q)) (zNew S q k 0) (va_up ρ q r) H1 locs (cells + 1) (slots + N) ls ?_
      · have e1 : γK g (gup τ E.2.1.length (some q)) xs (.inr (.inr (.inr (.inl E.2.1.length))) :: K) = .ref q :: γK g τ xs K := by
          show va_rf (gup τ E.2.1.length (some q) E.2.1.length) :: γK g (gup τ E.2.1.length (some q)) xs K = _
          rw [gup_self, hk.2]; rfl
        rw [← e1]; exact hkk
      · obtain ⟨a1, a2, a3, a4, a5, a6, a7, a8⟩ := hA
        have hLL := hx.L (xs := xs) a2
        refine ⟨hE3, hLL.1, wfK_cons (v := .inr (.inr (.inr (.inl E.2.1.length)))) (by show E.2.1.length < (E.2.1 ++ [(false, [r])]).length; simp) hk.1, ⟨wf_lpl a4.1, wf_lpl a4.2⟩, ?_, ?_, hw1, ?_⟩
        · show ((cells + 1 : Nat) : Int) ≤ ev g (lpl n.1 1)
          rw [ev_lpl]; omega
        · show ((slots + N : Nat) : Int) ≤ ev g (lpl n.2 (Int.ofNat N))
          rw [ev_lpl]; omega
        · show lv_has ls nL (γL g (gup τ E.2.1.length (some q)) xs L)
          rw [hLL.2]; exact a8
    · cases h
  · cases h
end AR
