/-! the walk: sound -/
section WLK
variable {T : Tt} {ad : Nat → Nat} {C : zS → Int → Int} {neg neg0 : Int → Int} {XI : zS → Prop} {S0 : zS} {ρ0 : Nat → Nat} {xs : Nat → Nat} {cD : va_G} {cy : Nat → ClassId} {A : Nat → Prop}
variable {p : Program} {l : Launch} {e : Env} {R : Room} {s : State} {m : MethodId} {args : Array Value} {below : List Frame} {meth : Method} {c : Code} {Q : State → Prop} {cc : ByteArray} {nL : Nat} {Ts : List Cond} {own : String}
variable {L : Lc} {K : List Vl} {E E' : En} {n : Nn} {pc pc' : Nat} {sc : Suc} {g g0 : Nat → Int} {τ τ0 : Nat → Option Nat} {S : zS} {ρ : Nat → Nat}
theorem retB_ok (hT : TOK T ad (ghN C neg) XI) {sg : Sg} {vs : List Vl} (hsg : wfSg sg = true) (hnA : noA sg = true) (hg0 : SatI (sI sg) g0) (hanc : ∀ i, i < (sI sg).length → neg (Int.negSucc (i + 1)) = g0 i) {H : Heap} {locs : List Loc} {cells slots : Nat} {ls : Array Slot}
    (hA : SatA T ad (ghN C neg) XI S0 ρ0 xs cD cy A s nL ((L, vs), E, n) g τ S ρ H locs cells slots ls) (h : retB T sg vs ((L, vs), E, n) = true) {rv : Option Value} (hrv : rv.toList = γK g τ xs vs) :
    PostOK T ad (ghN C neg0) XI xs sg g0 τ0 S0 ρ0 rv S ρ ∧ cells ≤ (sC sg).1 ∧ slots ≤ (sC sg).2 := by
  unfold retB at h
  dsimp only at h
  split at h
  · rename_i θ0 hD hTn hanch
    simp only [Bool.and_eq_true] at h
    obtain ⟨⟨⟨b1, b2⟩, b3⟩, b4⟩ := h
    have b2 := ile_iff.mp b2
    have b3 := ile_iff.mp b3
    have wv := SatA_wfK hA
    have n1 := (rg_ok hA.1.1 hA.2.2.2.1.1).2
    have n2 := (rg_ok hA.1.1 hA.2.2.2.1.2).2
    have m1 := hA.2.2.2.2.1
    have m2 := hA.2.2.2.2.2.1
    dsimp only at n1 n2 m1 m2
    have z3 : Int.ofNat (sC sg).1 = ((sC sg).1 : Int) := rfl
    have z4 : Int.ofNat (sC sg).2 = ((sC sg).2 : Int) := rfl
    refine ⟨?_, by omega, by omega⟩
    obtain ⟨a1, a2, a3⟩ := anch_ok hA.1 hanch
    have hg : ∀ i, i < (sI sg).length → gs g θ0 i = g0 i := fun i hi => by
      show ev g (nth (0, []) θ0 i) = g0 i
      rw [a3 i hi, ← hanc i hi]; congr 2; omega
    obtain ⟨o, ho, hO⟩ := List.any_eq_true.mp b4
    unfold retO at hO
    split at hO
    · cases hO
    · rename_i E1 θ hra
      split at hO
      · cases hO
      · rename_i E2 θ' hbo
        rw [Bool.and_eq_true] at hO
        obtain ⟨c1, c2⟩ := hO
        have c1 := Nat.eq_of_beq_eq_true c1
        have hI0 : ∀ i, i < θ0.length → (nth (0, 0) (sI sg ++ o.1) i).1 ≤ gs g θ0 i ∧ gs g θ0 i ≤ (nth (0, 0) (sI sg ++ o.1) i).2 := by
          intro i hi
          have hi : i < (sI sg).length := by omega
          rw [nth_app hi, hg i hi]
          exact hg0 i hi
        obtain ⟨g1, r1, r2, r3, r4, ⟨x, r5⟩, tr, r6, r7⟩ := retA_ok (xs := xs) hA.1 wv a2 hI0 hra
        obtain ⟨g2, s1, s2, s3, s4, ⟨y, s5⟩, s6, -⟩ := bndO_ok hT r2 r3 r4 hbo
        have hθ1 : ∀ i, i < θ.length → gs g2 θ' i = gs g1 θ i := fun i hi => by rw [s5, gs_app hi, gs_xt s1 r3]
        have hg2 : ∀ i, i < (sI sg).length → gs g2 θ' i = g0 i := fun i hi => by
          have hl : i < θ.length := by rw [r5, List.length_append]; omega
          rw [hθ1 i hl, r5, gs_app (by omega), gs_xt r1 a2, hg i hi]
        let τ' : Nat → Option Nat := fun i => if i < (sR sg).length then τ0 i else tr i
        have ht' : ∀ i, (sR sg).length ≤ i → τ' i = tr i := fun i hi => if_neg (by omega)
        refine ⟨s2.2.2.2.2.2.2.2.2, ?_, ?_, o, ho, gs g2 θ', τ', hg2, fun i hi => if_pos hi, fun j hj => ?_, fun j q hq => ?_, ?_, fun f hf => ?_, fun mm hm => ?_⟩
        · have hD : E.2.2.2.2.1 = [] := hD
          have := hA.1.2.2.2.2.2.1
          dsimp only at this
          rw [hD] at this
          exact fun gi G hG t ht _ => this gi G hG t ht (fun d hd => by simp at hd)
        · show FrT T ad (sM sg) (sT sg) τ0 S0 ρ0 S ρ
          rw [hTn]
          exact hA.1.2.2.2.2.2.2.1.mono (sbs_ok b1)
        · have := s4 ((sI sg).length + j) (by omega)
          rw [nth_app2] at this
          exact this
        · rw [ht' _ (by omega)]; exact r6 j q hq
        · rw [hrv]
          exact (r7 (gs g2 θ') τ' hθ1 ht').symm
        · have := s2.ok (wf_sb s3 f) (List.all_eq_true.mp c2 f hf)
          rw [ev_sb] at this
          exact this
        · obtain ⟨k1, k2⟩ := s6 mm hm
          refine ⟨?_, k2⟩
          rw [← k1]
          unfold noA at hnA
          rw [Bool.and_eq_true] at hnA
          have := List.all_eq_true.mp (List.all_eq_true.mp hnA.2 o ho) mm hm
          exact GV_ghN (by simpa using this)
  · cases h
theorem nrB_ok {ret : Option FieldType} {f : Lin} (h : SatE T ad (ghN C neg) XI S0 ρ0 E g τ S ρ) (w : wfL E.1.length f) (hb : nrB ret E f = true) : ∃ ty, ret = some ty ∧ narrow ty (.int (Int32.ofInt (ev g f))) = .int (Int32.ofInt (ev g f)) := by
  unfold nrB at hb
  split at hb
  · exact ⟨_, rfl, rfl⟩
  · rw [Bool.and_eq_true] at hb
    have h1 := fit32_of h.1 w hb.1
    obtain ⟨i1, i2⟩ := h.inI w hb.2
    refine ⟨_, rfl, ?_⟩
    show Value.int (Int32.ofInt (ev g f) &&& 1) = _
    rcases (by omega : ev g f = 0 ∨ ev g f = 1) with e | e <;> rw [e] <;> rfl
  · rw [Bool.and_eq_true] at hb
    have h1 := fit32_of h.1 w hb.1
    obtain ⟨i1, i2⟩ := h.inI w hb.2
    refine ⟨_, rfl, ?_⟩
    show Value.int (Int32.ofInt (ev g f)).toUInt32.toUInt16.toUInt32.toInt32 = _
    congr 1
    generalize Int32.ofInt (ev g f) = v at h1
    apply Int32.toInt.inj
    have hv : v.toUInt32.toNat = (ev g f).toNat := by
      have e1 : v.toInt = v.toUInt32.toBitVec.toInt := rfl
      rw [BitVec.toInt_eq_toNat_cond] at e1
      have hlt : v.toUInt32.toBitVec.toNat < 2 ^ 32 := v.toUInt32.toBitVec.isLt
      show v.toUInt32.toBitVec.toNat = _
      split at e1 <;> omega
    have e2 : v.toUInt32.toUInt16.toUInt32 = v.toUInt32 := by
      apply UInt32.toNat.inj
      show v.toUInt32.toUInt16.toNat = _
      rw [UInt32.toNat_toUInt16]
      omega
    rw [e2]
    rfl
  · rw [Bool.and_eq_true] at hb
    have h1 := fit32_of h.1 w hb.1
    obtain ⟨i1, i2⟩ := h.inI w hb.2
    refine ⟨_, rfl, ?_⟩
    show Value.int (Int32.ofInt (ev g f)).toInt8.toInt32 = _
    congr 1
    apply Int32.toInt.inj
    rw [Int8.toInt_toInt32, Int32.toInt_toInt8, h1]
    exact Int.bmod_eq_of_le (by omega) (by omega)
  · rw [Bool.and_eq_true] at hb
    have h1 := fit32_of h.1 w hb.1
    obtain ⟨i1, i2⟩ := h.inI w hb.2
    refine ⟨_, rfl, ?_⟩
    show Value.int (Int32.ofInt (ev g f)).toInt16.toInt32 = _
    congr 1
    apply Int32.toInt.inj
    rw [Int16.toInt_toInt32, Int32.toInt_toInt16, h1]
    exact Int.bmod_eq_of_le (by omega) (by omega)
  · cases hb
theorem retV_eq {ret : Option FieldType} {ins : ClassFile.Instr} {vs : List Vl} (hvs : retV ret ins E K = some vs) : vs = K := by
  unfold retV at hvs
  split at hvs
  · split at hvs
    · cases hvs; rfl
    · cases hvs
  · split at hvs
    · cases hvs; rfl
    · cases hvs
  · split at hvs
    · cases hvs; rfl
    · cases hvs
  · split at hvs
    · cases hvs; rfl
    · cases hvs
  · cases hvs
theorem ret_ok (hM : MX xs cD cy A p s m args c cc nL Ts own) (hT : TOK T ad (ghN C neg) XI) {ret : Option FieldType} (hr : meth.sig.returnType = ret) (hlk : meth.locks = false) {sg : Sg} {vs : List Vl} (hsg : wfSg sg = true) (hnA : noA sg = true) (hg0 : SatI (sI sg) g0) (hanc : ∀ i, i < (sI sg).length → neg (Int.negSucc (i + 1)) = g0 i)
    {ins : ClassFile.Instr} {len : Nat} (hd : decode cc pc = .ok (ins, len)) (hlen : lenB (pc, ins, len) = true) (hv : retV ret ins E K = some vs) (hb : retB T sg vs ((L, K), E, n) = true) :
    Gl T ad (ghN C neg) XI S0 ρ0 xs cD cy A p l e R s m args below meth c (MQ below (QX cD cy (PostOK T ad (ghN C neg0) XI xs sg g0 τ0 S0 ρ0) A) args s (sC sg).1 (sC sg).2 A) nL pc ((L, K), E, n) := by
  intro g τ S ρ H locs cells slots ls hA
  have hx := hM.1.1
  have hcb := hM.1.2.1
  have hw := hA.2.2.2.2.2.2.1
  have hln := fun hn => lenB_ok hlen hn
  have fin : ∀ (rv : Option Value), PostOK T ad (ghN C neg0) XI xs sg g0 τ0 S0 ρ0 rv S ρ → ∀ t : State, t.heap = H → s.WarmedH t.vm → QX cD cy (PostOK T ad (ghN C neg0) XI xs sg g0 τ0 S0 ρ0) A args s (.returned rv) t := fun rv hp t ht hW => ⟨⟨rv, S, ρ, rfl, hp, by rw [ht]; exact hw.1, hw.2.1⟩, hw.2.2.F ht⟩
  unfold retV at hv
  split at hv
  · rename_i f
    have hl : len = 1 := hln (Nat.succ_ne_zero _)
    subst hl
    split at hv
    · rename_i hnr
      cases hv
      obtain ⟨ty, h1, h2⟩ := nrB_ok hA.1 (wfK_hd (SatA_wfK hA)) hnr
      obtain ⟨hp, k1, k2⟩ := retB_ok (neg0 := neg0) (τ0 := τ0) hT hsg hnA hg0 hanc hA hb (rv := some (.int (Int32.ofInt (ev g f)))) rfl
      exact W.widen k1 k2 (W.zret hx hcb (hr.trans h1) h2 (fin _ hp) hw.2.2.2.2 hd hlk)
    · cases hv
  · rename_i f
    have hl : len = 1 := hln (Nat.succ_ne_zero _)
    subst hl
    split at hv
    · cases hv
      obtain ⟨hp, k1, k2⟩ := retB_ok (neg0 := neg0) (τ0 := τ0) hT hsg hnA hg0 hanc hA hb (rv := some (.long (Int64.ofInt (ev g f)))) rfl
      exact W.widen k1 k2 (W.lret hx hcb hr (fin _ hp) hw.2.2.2.2 hd hlk)
    · cases hv
  · rename_i v
    have hl : len = 1 := hln (Nat.succ_ne_zero _)
    subst hl
    split at hv
    · rename_i hrf
      cases hv
      obtain ⟨hp, k1, k2⟩ := retB_ok (neg0 := neg0) (τ0 := τ0) hT hsg hnA hg0 hanc hA hb (rv := some (γ g τ xs (.inr (.inr (.inr v))))) rfl
      have ho : γ g τ xs (.inr (.inr (.inr v))) = .null ∨ ∃ a, γ g τ xs (.inr (.inr (.inr v))) = .ref a := by
        match v with
        | .inl j => exact va_rf_or (τ j)
        | .inr k => exact Or.inr ⟨xs k, rfl⟩
      unfold rfT at hrf
      split at hrf
      · exact W.widen k1 k2 (W.aret hx hcb hr (Or.inl ⟨_, rfl⟩) ho (fin _ hp) hw.2.2.2.2 hd hlk)
      · exact W.widen k1 k2 (W.aret hx hcb hr (Or.inr ⟨_, rfl⟩) ho (fin _ hp) hw.2.2.2.2 hd hlk)
      · cases hrf
    · cases hv
  · have hl : len = 1 := hln (Nat.succ_ne_zero _)
    subst hl
    split at hv
    · cases hv
      obtain ⟨hp, k1, k2⟩ := retB_ok (neg0 := neg0) (τ0 := τ0) hT hsg hnA hg0 hanc hA hb (rv := none) rfl
      exact W.widen k1 k2 (W.vret hx hcb hr (fin _ hp) hw.2.2.2.2 hd hlk)
    · cases hv
  · cases hv
variable {mY : Nat → MethodName} {mC : Nat → ByteArray} {mL : Nat → Nat} {mR : Nat → Option FieldType} {lk : LK} {SA SB : List (Nat × List Int)} {oi ML : List Nat} {ST : List Sg} {KT : List KC} {nK : Nat} {scr ini : Bool} {lim : Lim} {cs : List (Nat × List Alt)}
theorem anyAr_ok {T : Tt} {top : Bool} {mu : Option Lin} {a : As} : ∀ {cl : List Cut}, anyAr T top mu a cl = true → ∃ ct ∈ cl, (top = true ∧ arrv T none ct a = true) ∨ (top = false ∧ ∃ m0, mu = some m0 ∧ arrv T (some m0) ct a = true)
  | [], h => by simp [anyAr] at h
  | ct :: r, h => by
    simp only [anyAr] at h
    split at h
    · rename_i h1
      refine ⟨ct, List.mem_cons_self, ?_⟩
      split at h1
      · exact Or.inl ⟨rfl, h1⟩
      · rename_i m0; exact Or.inr ⟨rfl, m0, rfl, h1⟩
      · cases h1
    · obtain ⟨z, hz, k⟩ := anyAr_ok h
      exact ⟨z, List.mem_cons_of_mem _ hz, k⟩
theorem cutAt_mem {pc : Nat} {ct : Cut} : ∀ {cl : List Cut}, ct ∈ cutAt pc cl → ct ∈ cl ∧ ct.1 = pc
  | [], h => by simp [cutAt] at h
  | z :: r, h => by
    simp only [cutAt] at h
    split at h
    · rename_i h1
      rcases List.mem_cons.mp h with rfl | h
      · exact ⟨List.mem_cons_self, Nat.eq_of_beq_eq_true h1⟩
      · obtain ⟨k1, k2⟩ := cutAt_mem h
        exact ⟨List.mem_cons_of_mem _ k1, k2⟩
    · obtain ⟨k1, k2⟩ := cutAt_mem h
      exact ⟨List.mem_cons_of_mem _ k1, k2⟩
theorem nth_mem_or {α : Type} {d : α} {l : List α} {i : Nat} : nth d l i ∈ l ∨ nth d l i = d := by
  induction l generalizing i with
  | nil => exact Or.inr rfl
  | cons a r ih => cases i with
    | zero => exact Or.inl List.mem_cons_self
    | succ i => rcases ih (i := i) with h | h
                · exact Or.inl (List.mem_cons_of_mem _ h)
                · exact Or.inr h
theorem gtP_ok {cc : ByteArray} {P : Pg} (hP : ∀ b ∈ P, ∀ q ∈ b, decode cc q.1 = .ok (q.2.1, q.2.2) ∧ lenB q = true) {pc : Nat} {ins : ClassFile.Instr} {len : Nat} (h : gtP P pc = some (ins, len)) : decode cc pc = .ok (ins, len) ∧ lenB (pc, ins, len) = true := by
  have hq := asc_ok h
  rcases nth_mem_or (d := ([] : List (Nat × ClassFile.Instr × Nat))) (l := P) (i := pc / 32) with h3 | h3
  · exact hP _ h3 (pc, ins, len) hq
  · rw [h3] at hq; exact absurd hq List.not_mem_nil
theorem run_ok (hM : MX xs cD cy A p s m args c cc nL Ts own) (hC : CgOK ad (ghN C neg) XI xs cD cy l own mY mC mL mR T lk SA SB oi ML ST KT nK) (hR : lim.1 ≤ R.frames ∧ lim.2.1 ≤ R.cells ∧ lim.2.2.1 ≤ R.slots ∧ lim.2.2.2 ≤ R.locals) (hini : ini = true → meth.name = "<init>")
    {ret : Option FieldType} (hr : meth.sig.returnType = ret) (hlk : meth.locks = false) {sg : Sg} (hsg : wfSg sg = true) (hnA : noA sg = true) (hg0 : SatI (sI sg) g0) (hanc : ∀ i, i < (sI sg).length → neg (Int.negSucc (i + 1)) = g0 i)
    (hScr : scr = true → RScr (ghN C neg) xs cD cy A p l e R s m args below meth c (MQ below (QX cD cy (PostOK T ad (ghN C neg0) XI xs sg g0 τ0 S0 ρ0) A) args s (sC sg).1 (sC sg).2 A) cc)
    {cuts : List Cut} (hwc : ∀ ct ∈ cuts, wfCut ct = true) {pops : List (Nat × List Pop)} {P : Pg} (hP : ∀ b ∈ P, ∀ q ∈ b, decode cc q.1 = .ok (q.2.1, q.2.2) ∧ lenB q = true) {mk : Nat} {top : Bool}
    (hcut : ∀ ct ∈ cuts, ∀ g τ S ρ H locs cells slots ls, SatA T ad (ghN C neg) XI S0 ρ0 xs cD cy A s nL (cutS ct) g τ S ρ H locs cells slots ls → (top = false → 0 ≤ ev g ct.2.2.2.2.1 ∧ ev g ct.2.2.2.2.1 < neg (Int.negSucc mk)) → W p l e R s m args below meth c H locs cells slots (MQ below (QX cD cy (PostOK T ad (ghN C neg0) XI xs sg g0 τ0 S0 ρ0) A) args s (sC sg).1 (sC sg).2 A) (F0 m ct.1 ls (γK g τ xs (cutS ct).1.2))) :
    ∀ {fuel : Nat} {first : Bool} {a : As} {pc : Nat}, run (T, lk, ((SA, SB), (scr, ini, oi)), (nL, ML, ST, KT, nK), lim, cs) sg ret cuts pops P mk top fuel first a pc = true → Gl T ad (ghN C neg) XI S0 ρ0 xs cD cy A p l e R s m args below meth c (MQ below (QX cD cy (PostOK T ad (ghN C neg0) XI xs sg g0 τ0 S0 ρ0) A) args s (sC sg).1 (sC sg).2 A) nL pc a
  | 0, _, _, _, h => by cases h
  | f + 1, first, a, pc, h => by
    have hT := hC.1
    simp only [run] at h
    split at h
    · rename_i c0 r hct
      have hmem : ∀ ct ∈ c0 :: r, ct ∈ cuts ∧ ct.1 = pc := by
        intro ct hz
        rw [← hct] at hz
        cases first with
        | true => simp at hz
        | false => exact cutAt_mem hz
      obtain ⟨ct, hcm, hh⟩ := anyAr_ok h
      obtain ⟨h1, h2⟩ := hmem ct hcm
      intro g τ S ρ H locs cells slots ls hA
      obtain ⟨⟨L, K⟩, E, n⟩ := a
      rcases hh with ⟨ht, ha⟩ | ⟨ht, m0, hm0, ha⟩
      · obtain ⟨g1, t1, e1, e2, -⟩ := arrv_ok hT (hwc ct h1) (fun m0 hm => by cases hm) ha hA
        have := hcut ct h1 g1 t1 S ρ H locs cells slots ls e1 (fun h => by rw [ht] at h; cases h)
        rw [e2, h2] at this
        exact this
      · have hmm := hA.1.2.2.2.1 _ (lkM_ok hm0)
        obtain ⟨g1, t1, e1, e2, e3⟩ := arrv_ok hT (hwc ct h1) (fun m1 hm => by cases hm; exact hmm.2.1) ha hA
        have hv : ghN C neg zS0 (ev g (lc (Int.negSucc mk))) = ev g m0 := hmm.2.2.1
        have hv2 : neg (Int.negSucc mk) = ev g m0 := by
          rw [← hv, ev_lc]
          show _ = if Int.negSucc mk < 0 then neg (Int.negSucc mk) else C zS0 (Int.negSucc mk)
          rw [if_pos (Int.negSucc_lt_zero _)]
        have := hcut ct h1 g1 t1 S ρ H locs cells slots ls e1 (fun _ => by rw [hv2]; exact e3 m0 rfl)
        rw [e2, h2] at this
        exact this
    · split at h
      · rename_i l1 ins len hl1 hins
        have hdec := gtP_ok hP hins
        have key : ∀ x ∈ l1, Gl T ad (ghN C neg) XI S0 ρ0 xs cD cy A p l e R s m args below meth c (MQ below (QX cD cy (PostOK T ad (ghN C neg0) XI xs sg g0 τ0 S0 ρ0) A) args s (sC sg).1 (sC sg).2 A) nL x.2 x.1 := by
          intro x hx
          obtain ⟨⟨⟨L, K⟩, E, n⟩, pcx⟩ := x
          split at h
          · have := List.all_eq_true.mp h _ hx
            dsimp only at this
            rw [Bool.and_eq_true] at this
            obtain ⟨hxp, this⟩ := this
            have hxp := Nat.eq_of_beq_eq_true hxp
            subst hxp
            split at this
            · rename_i vs hvs
              exact ret_ok hM hT hr hlk hsg hnA hg0 hanc hdec.1 hdec.2 hvs (retV_eq hvs ▸ this)
            · cases this
          · have := List.all_eq_true.mp h _ hx
            dsimp only at this
            rw [Bool.and_eq_true] at this
            obtain ⟨hxp, this⟩ := this
            have hxp := Nat.eq_of_beq_eq_true hxp
            subst hxp
            split at this
            · rename_i sc hsc
              refine step_ok hM hC hR hini hScr hdec.1 hdec.2 hsc (fun y hy => ?_)
              exact run_ok hM hC hR hini hr hlk hsg hnA hg0 hanc hScr hwc hP hcut (List.all_eq_true.mp this y hy)
            · cases this
        split at hl1
        · exact doOps_ok hT hl1 key (a, pc) List.mem_cons_self
        · cases hl1
          exact key (a, pc) List.mem_cons_self
      · cases h
end WLK
