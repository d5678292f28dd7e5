/-! one instruction: sound -/
theorem rem32 (x y : Int32) : x - x / y * y = x % y := by
  have e1 : x / y = Int32.ofInt (x.toInt.tdiv y.toInt) := by
    have := Int32.ofInt_tdiv (a := x.toInt) (b := y.toInt) (Int32.minValue_le_toInt x) (Int32.toInt_le x) (Int32.minValue_le_toInt y) (Int32.toInt_le y)
    rw [this, Int32.ofInt_toInt, Int32.ofInt_toInt]
  have e2 : x % y = Int32.ofInt (x.toInt.tmod y.toInt) := by rw [← Int32.toInt_mod, Int32.ofInt_toInt]
  rw [e1, e2, Int.tmod_def, Int32.ofInt_sub, Int32.ofInt_mul, Int32.ofInt_toInt, Int32.ofInt_toInt, Int32.mul_comm]
theorem rem64 (x y : Int64) : x - x / y * y = x % y := by
  have e1 : x / y = Int64.ofInt (x.toInt.tdiv y.toInt) := by
    have := Int64.ofInt_tdiv (a := x.toInt) (b := y.toInt) (Int64.minValue_le_toInt x) (Int64.toInt_le x) (Int64.minValue_le_toInt y) (Int64.toInt_le y)
    rw [this, Int64.ofInt_toInt, Int64.ofInt_toInt]
  have e2 : x % y = Int64.ofInt (x.toInt.tmod y.toInt) := by rw [← Int64.toInt_mod, Int64.ofInt_toInt]
  rw [e1, e2, Int.tmod_def, Int64.ofInt_sub, Int64.ofInt_mul, Int64.ofInt_toInt, Int64.ofInt_toInt, Int64.mul_comm]
section SSN
variable {T : Tt} {ad : Nat → Nat} {gh : zS → Int → Int} {XI : zS → Prop} {S0 : zS} {ρ0 : Nat → Nat} {xs : Nat → Nat} {cD : va_G} {cy : Nat → ClassId} {A : Nat → Prop}
variable {p : Program} {l : Launch} {e : Env} {R : Room} {s : State} {m : MethodId} {args : Array Value} {below : List Frame} {meth : Method} {c : Code} {Q : State → Prop} {cc : ByteArray} {nL : Nat} {Ts : List Cond} {own : String}
variable {L : Lc} {K : List Vl} {E E' : En} {n : Nn} {pc pc' : Nat} {sc : Suc}
variable {mY : Nat → MethodName} {mC : Nat → ByteArray} {mL : Nat → Nat} {mR : Nat → Option FieldType} {lk : LK} {SA SB : List (Nat × List Int)} {oi ML : List Nat} {ST : List Sg} {KT : List KC} {nK : Nat} {scr ini : Bool} {lim : Lim} {cs : List (Nat × List Alt)}
theorem oLdc_ok (hM : MX xs cD cy A p s m args c cc nL Ts own) (hL : LKOK own lk) {idx : Nat} (hd : decode cc pc = .ok (.ldc idx, 2)) (h : oLdc lk.2.2.2.2.1 lk.2.2.2.2.2.2.2.2 idx L K E n (pc + 2) = some sc) (hs : ∀ x ∈ sc, Gl T ad gh XI S0 ρ0 xs cD cy A p l e R s m args below meth c Q nL x.2 x.1) : Gl T ad gh XI S0 ρ0 xs cD cy A p l e R s m args below meth c Q nL pc ((L, K), E, n) := by
  intro g τ S ρ H locs cells slots ls hA
  have hw := hA.2.2.2.2.2.2.1
  unfold oLdc at h
  split at h
  · rename_i v hv
    cases h
    have r := (hL.2.2.2.1 idx v (asc_ok hv)).1
    refine r p l e R s m args below meth c H locs cells slots Q xs cD cy A cc nL Ts S pc ls (γK g τ xs K) hM hw hd ?_
    have := hs _ List.mem_cons_self g τ S ρ H locs cells slots ls (hA.xt (K' := .inl (lc v) :: K) Xt.refl hA.1 (wfK_cons wf_lc (SatA_wfK hA)) hw)
    have e1 : γK g τ xs (.inl (lc v) :: K) = .int (Int32.ofInt v) :: γK g τ xs K := by
      show Value.int (Int32.ofInt (ev g (lc v))) :: _ = _
      rw [ev_lc]; rfl
    rw [← e1]; exact this
  · split at h
    · rename_i k hk
      cases h
      have r := hL.2.2.2.2.2.2.2 idx k (asc_ok hk)
      refine r p l e R s m args below meth c H locs cells slots Q xs cD cy A cc nL Ts S pc ls (γK g τ xs K) hM hw hd ?_
      exact hs _ List.mem_cons_self g τ S ρ H locs cells slots ls (hA.xt (K' := .inr (.inr (.inr (.inr k))) :: K) Xt.refl hA.1 (wfK_cons trivial (SatA_wfK hA)) hw)
    · cases h
theorem oLdcw_ok (hM : MX xs cD cy A p s m args c cc nL Ts own) (hL : LKOK own lk) {idx : Nat} (hd : decode cc pc = .ok (.ldc_w idx, 3)) (h : oLdcw lk.2.2.2.2.1 idx L K E n (pc + 3) = some sc) (hs : ∀ x ∈ sc, Gl T ad gh XI S0 ρ0 xs cD cy A p l e R s m args below meth c Q nL x.2 x.1) : Gl T ad gh XI S0 ρ0 xs cD cy A p l e R s m args below meth c Q nL pc ((L, K), E, n) := by
  intro g τ S ρ H locs cells slots ls hA
  have hw := hA.2.2.2.2.2.2.1
  unfold oLdcw at h
  split at h
  · rename_i v hv
    cases h
    have r := (hL.2.2.2.1 idx v (asc_ok hv)).2
    refine r p l e R s m args below meth c H locs cells slots Q xs cD cy A cc nL Ts S pc ls (γK g τ xs K) hM hw hd ?_
    have := hs _ List.mem_cons_self g τ S ρ H locs cells slots ls (hA.xt (K' := .inl (lc v) :: K) Xt.refl hA.1 (wfK_cons wf_lc (SatA_wfK hA)) hw)
    have e1 : γK g τ xs (.inl (lc v) :: K) = .int (Int32.ofInt v) :: γK g τ xs K := by
      show Value.int (Int32.ofInt (ev g (lc v))) :: _ = _
      rw [ev_lc]; rfl
    rw [← e1]; exact this
  · cases h
theorem oLdc2_ok (hM : MX xs cD cy A p s m args c cc nL Ts own) (hL : LKOK own lk) {idx : Nat} (hd : decode cc pc = .ok (.ldc2_w idx, 3)) (h : oLdc2 lk.2.2.2.2.2.1 idx L K E n (pc + 3) = some sc) (hs : ∀ x ∈ sc, Gl T ad gh XI S0 ρ0 xs cD cy A p l e R s m args below meth c Q nL x.2 x.1) : Gl T ad gh XI S0 ρ0 xs cD cy A p l e R s m args below meth c Q nL pc ((L, K), E, n) := by
  intro g τ S ρ H locs cells slots ls hA
  have hw := hA.2.2.2.2.2.2.1
  unfold oLdc2 at h
  split at h
  · rename_i v hv
    cases h
    have r := hL.2.2.2.2.1 idx v (asc_ok hv)
    refine r p l e R s m args below meth c H locs cells slots Q xs cD cy A cc nL Ts S pc ls (γK g τ xs K) hM hw hd ?_
    have := hs _ List.mem_cons_self g τ S ρ H locs cells slots ls (hA.xt (K' := .inr (.inl (lc v)) :: K) Xt.refl hA.1 (wfK_cons wf_lc (SatA_wfK hA)) hw)
    have e1 : γK g τ xs (.inr (.inl (lc v)) :: K) = .long (Int64.ofInt v) :: γK g τ xs K := by
      show Value.long (Int64.ofInt (ev g (lc v))) :: _ = _
      rw [ev_lc]; rfl
    rw [← e1]; exact this
  · cases h
theorem oStat_ok (hM : MX xs cD cy A p s m args c cc nL Ts own) (hL : LKOK own lk) {idx : Nat} (hd : decode cc pc = .ok (.getstatic idx, 3)) (h : oStat lk.2.2.2.2.2.2.1 idx L K E n (pc + 3) = some sc) (hs : ∀ x ∈ sc, Gl T ad gh XI S0 ρ0 xs cD cy A p l e R s m args below meth c Q nL x.2 x.1) : Gl T ad gh XI S0 ρ0 xs cD cy A p l e R s m args below meth c Q nL pc ((L, K), E, n) := by
  intro g τ S ρ H locs cells slots ls hA
  have hw := hA.2.2.2.2.2.2.1
  unfold oStat at h
  split at h
  · rename_i v hv
    cases h
    have r := hL.2.2.2.2.2.1 idx v (asc_ok hv)
    refine r p l e R s m args below meth c H locs cells slots Q xs cD cy A cc nL Ts S pc ls (γK g τ xs K) hM hw hd ?_
    have := hs _ List.mem_cons_self g τ S ρ H locs cells slots ls (hA.xt (K' := svV v :: K) Xt.refl hA.1 (wfK_cons svV_wf (SatA_wfK hA)) hw)
    have e1 : γK g τ xs (svV v :: K) = svX xs v :: γK g τ xs K := by
      show γ g τ xs (svV v) :: _ = _
      rw [svV_ok]; rfl
    rw [← e1]; exact this
  · cases h
theorem lcn_ok : ∀ v : Fin 2, Int64.ofNat (v : Nat) = Int64.ofInt (Int.ofNat v.val) := by decide
theorem lenB_ok {k : Nat} {ins : ClassFile.Instr} {len : Nat} (h : lenB (k, ins, len) = true) (hn : ilen ins ≠ 0) : len = ilen ins := by
  unfold lenB at h
  dsimp only at h
  split at h
  · rename_i h0; exact absurd h0 hn
  · exact Nat.eq_of_beq_eq_true h
theorem step_ok (hM : MX xs cD cy A p s m args c cc nL Ts own) (hC : CgOK ad gh XI xs cD cy l own mY mC mL mR T lk SA SB oi ML ST KT nK) (hR : lim.1 ≤ R.frames ∧ lim.2.1 ≤ R.cells ∧ lim.2.2.1 ≤ R.slots ∧ lim.2.2.2 ≤ R.locals) (hini : ini = true → meth.name = "<init>") (hScr : scr = true → RScr gh xs cD cy A p l e R s m args below meth c Q cc)
    {ins : ClassFile.Instr} {len : Nat} (hd : decode cc pc = .ok (ins, len)) (hlen : lenB (pc, ins, len) = true) (h : step (T, lk, ((SA, SB), (scr, ini, oi)), (nL, ML, ST, KT, nK), lim, cs) ins L K E n pc = some sc) (hs : ∀ x ∈ sc, Gl T ad gh XI S0 ρ0 xs cD cy A p l e R s m args below meth c Q nL x.2 x.1) : Gl T ad gh XI S0 ρ0 xs cD cy A p l e R s m args below meth c Q nL pc ((L, K), E, n) := by
  have hx := hM.1.1
  have hb := hM.1.2.1
  have hmL := hM.1.2.2.1
  obtain ⟨c1, c2, c3, c4, c5, c6, c7, c8, c9, c10, c11, c12⟩ := id hC
  have hln := fun hn => lenB_ok hlen hn
  unfold step at h
  dsimp only at h
  split at h <;> (try (have hl := hln (Nat.succ_ne_zero _); subst hl))
  · exact oI_ok h hs (fun st H locs cells slots ls k => lv_iconst hx hb hd rfl k)
  · exact oBip_ok hx hb hd h hs
  · exact oSip_ok hx hb hd h hs
  · exact oJ_ok h hs (fun st H locs cells slots ls k => lv_lconst hx hb hd (lcn_ok _) k)
  · intro g τ S ρ H locs cells slots ls hA
    exact lv_null hx hb hd (pR_ok h hs hA (SatA_wfK hA) (q := none) rfl)
  · exact oLdc_ok hM c4 hd h hs
  · exact oLdcw_ok hM c4 hd h hs
  · exact oLdc2_ok hM c4 hd h hs
  · exact oStat_ok hM c4 hd h hs
  · exact oIload_ok h hs (fun x st ls hl H locs cells slots k => lv_iload hx hb hd hl k)
  · exact oIload_ok h hs (fun x st ls hl H locs cells slots k => lv_iload_n hx hb hd rfl hl k)
  · exact oLload_ok h hs (fun x st ls hl H locs cells slots k => lv_lload hx hb hd hl k)
  · exact oLload_ok h hs (fun x st ls hl H locs cells slots k => lv_lload_n hx hb hd rfl hl k)
  · exact oAload_ok h hs (fun x st ls hl H locs cells slots k => lv_aload hx hb hd hl k) (fun st ls hl H locs cells slots k => lv_aloadN hx hb hd hl k)
  · exact oAload_ok h hs (fun x st ls hl H locs cells slots k => lv_aload_n hx hb hd rfl hl k) (fun st ls hl H locs cells slots k => lv_aload_nN hx hb hd rfl hl k)
  · exact oIstore_ok h hs (fun x st ls lv lv' h1 h2 h3 H locs cells slots k => lv_istore hx hb hd h1 h2 h3 k)
  · exact oIstore_ok h hs (fun x st ls lv lv' h1 h2 h3 H locs cells slots k => lv_istore_n hx hb hd rfl h1 h2 h3 k)
  · exact oLstore_ok h hs (fun x st ls lv lv' h1 h2 h3 H locs cells slots k => lv_lstore hx hb hd h1 h2 h3 k)
  · exact oLstore_ok h hs (fun x st ls lv lv' h1 h2 h3 H locs cells slots k => lv_lstore_n hx hb hd rfl h1 h2 h3 k)
  · exact oAstore_ok h hs (fun x st ls lv lv' h1 h2 h3 H locs cells slots k => lv_astore hx hb hd h1 h2 h3 k) (fun st ls lv lv' h1 h2 h3 H locs cells slots k => lv_astoreN hx hb hd h1 h2 h3 k)
  · exact oAstore_ok h hs (fun x st ls lv lv' h1 h2 h3 H locs cells slots k => lv_astore_n hx hb hd rfl h1 h2 h3 k) (fun st ls lv lv' h1 h2 h3 H locs cells slots k => lv_astore_nN hx hb hd rfl h1 h2 h3 k)
  · exact oIinc_ok hx hb hd h hs
  · exact oBin_ok (op := fun x y => x + y) (fun I g x y hI w1 w2 => fz32_ok (add32 w1 w2)) h hs (fun x y st H locs cells slots ls k => lv_iadd hx hb hd k)
  · exact oBin_ok (op := fun x y => x - y) (fun I g x y hI w1 w2 => fz32_ok (sub32 w1 w2)) h hs (fun x y st H locs cells slots ls k => lv_isub hx hb hd k)
  · exact oBin_ok (op := fun x y => x * y) (fun I g x y hI w1 w2 => fz32_ok (mul32 w1 w2)) h hs (fun x y st H locs cells slots ls k => lv_imul hx hb hd k)
  · exact oBin_ok (op := fun x y => x &&& y) (fun I g x y hI w1 w2 => and32 hI w1 w2) h hs (fun x y st H locs cells slots ls k => lv_iand hx hb hd k)
  · exact oBin_ok (op := fun x y => x ||| y) (fun I g x y hI w1 w2 => full32) h hs (fun x y st H locs cells slots ls k => lv_ior hx hb hd k)
  · exact oBin_ok (op := fun x y => x ^^^ y) (fun I g x y hI w1 w2 => full32) h hs (fun x y st H locs cells slots ls k => lv_ixor hx hb hd k)
  · exact oBin_ok (op := fun x y => x <<< (y &&& 31)) (fun I g x y hI w1 w2 => fz32_ok (shlI32 hI w1 w2)) h hs (fun x y st H locs cells slots ls k => lv_ishl hx hb hd k)
  · exact oShr_ok h hs (fun x y st H locs cells slots ls k => lv_ishr hx hb hd k)
  · exact oBin_ok (op := fun x y => (x.toUInt32 >>> (y.toUInt32 &&& Int32.toUInt32 31)).toInt32) (fun I g x y hI w1 w2 => ushr32) h hs (fun x y st H locs cells slots ls k => lv_iushr hx hb hd rfl k)
  · exact oDivI_ok h hs (fun x y st hne H locs cells slots ls k => lv_idiv hx hb hd hne k)
  · exact oDivI_ok h hs (fun x y st hne H locs cells slots ls k => lv_irem hx hb hd hne (by rw [rem32]; exact k))
  · exact oUn_ok (op := fun x => -x) (fun I g x hI w1 => fz32_ok (neg32 w1)) h hs (fun x st H locs cells slots ls k => lv_ineg hx hb hd k)
  · exact oBinJ_ok (op := fun x y => x + y) (fun I g x y hI w1 w2 => fz64_ok (add64 w1 w2)) h hs (fun x y st H locs cells slots ls k => lv_ladd hx hb hd k)
  · exact oBinJ_ok (op := fun x y => x - y) (fun I g x y hI w1 w2 => fz64_ok (sub64 w1 w2)) h hs (fun x y st H locs cells slots ls k => lv_lsub hx hb hd k)
  · exact oBinJ_ok (op := fun x y => x * y) (fun I g x y hI w1 w2 => fz64_ok (mul64 w1 w2)) h hs (fun x y st H locs cells slots ls k => lv_lmul hx hb hd k)
  · exact oBinJ_ok (op := fun x y => x &&& y) (fun I g x y hI w1 w2 => and64 hI w1 w2) h hs (fun x y st H locs cells slots ls k => lv_land hx hb hd k)
  · exact oBinJ_ok (op := fun x y => x ||| y) (fun I g x y hI w1 w2 => full64) h hs (fun x y st H locs cells slots ls k => lv_lor hx hb hd k)
  · exact oBinJ_ok (op := fun x y => x ^^^ y) (fun I g x y hI w1 w2 => full64) h hs (fun x y st H locs cells slots ls k => lv_lxor hx hb hd k)
  · exact oDivJ_ok h hs (fun x y st hne H locs cells slots ls k => lv_ldiv hx hb hd hne k)
  · exact oDivJ_ok h hs (fun x y st hne H locs cells slots ls k => lv_lrem hx hb hd hne (by rw [rem64]; exact k))
  · exact oUnJ_ok (op := fun x => -x) (fun I g x hI w1 => fz64_ok (neg64 w1)) h hs (fun x st H locs cells slots ls k => lv_lneg hx hb hd k)
  · exact oShJ_ok (op := fun x y => x <<< (y.toInt64 &&& 63)) h hs (fun x y st H locs cells slots ls k => lv_lshl hx hb hd rfl k)
  · exact oShJ_ok (op := fun x y => x >>> (y.toInt64 &&& 63)) h hs (fun x y st H locs cells slots ls k => lv_lshr hx hb hd rfl k)
  · exact oShJ_ok (op := fun x y => (x.toUInt64 >>> (y.toInt64.toUInt64 &&& Int64.toUInt64 63)).toInt64) h hs (fun x y st H locs cells slots ls k => lv_lushr hx hb hd rfl k)
  · exact oI2l_ok hx hb hd h hs
  · exact oL2i_ok hx hb hd h hs
  · exact oUn_ok (op := fun x => x.toInt8.toInt32) (fun I g x hI w1 => i2b32) h hs (fun x st H locs cells slots ls k => lv_i2b hx hb hd rfl k)
  · exact oUn_ok (op := fun x => x.toInt16.toInt32) (fun I g x hI w1 => i2s32) h hs (fun x st H locs cells slots ls k => lv_i2s hx hb hd rfl k)
  · exact oUn_ok (op := fun x => (x.toUInt32 % 65536).toInt32) (fun I g x hI w1 => i2c32) h hs (fun x st H locs cells slots ls k => lv_i2c hx hb hd rfl k)
  · exact oLcmp_ok hx hb hd h hs
  · exact oDup_ok hx hb hd h hs
  · exact oPop_ok hx hb hd h hs
  · exact oDupX1_ok hx hb hd h hs
  · exact oDup2_ok hx hb hd h hs
  · exact oPop2_ok hx hb hd h hs
  · exact oIf_ok hx hb hd h hs
  · exact oIcmp_ok hx hb hd h hs
  · exact oGoto_ok hx hb hd h hs
  · exact oSw_ok hx hb hd h hs
  · exact oNul_ok h hs (fun t ht x st ls H locs cells slots k => lv_ifnull hx hb hd k) (fun t ht st ls H locs cells slots k => lv_ifnullN hx hb hd ht k)
  · exact oNul_ok h hs (fun t ht x st ls H locs cells slots k => lv_ifnonnull hx hb hd ht k) (fun t ht st ls H locs cells slots k => lv_ifnonnullN hx hb hd k)
  · exact oGetf_ok hM c2 c4 hd h hs
  · exact oPutf_ok hM c2 c1 c4 hini hd h hs
  · exact oIald_ok hM c5 hScr hd h hs
  · exact oBald_ok hM c6 hd h hs
  · exact oLald_ok hM hd h hs
  · exact oAald_ok hM hd h hs
  · exact oIast_ok hM c1 hd h hs
  · exact oLast_ok hM c1 hd h hs
  · exact oAast_ok hM c1 hd h hs
  · exact oAlen_ok hM c3 c5 c6 hScr hd h hs
  · exact oNew_ok hM c1 c4 hR.2.1 hR.2.2.1 hd h hs
  · split at h
    · exact oAcp_ok hM c1 hmL c12 hR hd h hs
    · split at h
      · exact oMM_ok hM hmL c12 hR hd h hs
      · split at h
        · exact oMM_ok hM hmL c12 hR hd h hs
        · split at h
          · exact oMM_ok hM hmL c12 hR hd h hs
          · split at h
            · exact oAbs_ok hM hmL c12 hR hd h hs
            · exact oCall_ok (op := 0) hM hC hR hd h hs
  · exact oCall_ok (op := 2) hM hC hR hd h hs
  · split at h
    · exact oObj_ok hM hmL c12 hR hd h hs
    · exact oCall_ok (op := 1) hM hC hR hd h hs
  · cases h
end SSN
