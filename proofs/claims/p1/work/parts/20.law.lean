/-! THE CLAIM OUT OF ONE WALK OF THE LAW'S BODY. Your part is whole_start (and what it stands on); all else here is the same for every law, but numbers. -/
def R_law : String := "FoldedInHalfLaw"
def lw_P (b : Addr) (xs : List Int32) (args : Array Value) (s : State) : Prop := args = #[.ref b] ∧ s.IntsAt b xs ∧ xs.length ≤ 7 ∧ (Jvm.Cond.and given_1 narrow_1).before args s = true
def lw_Q (_ : Array Value) (s : State) (o : Outcome) (t : State) : Prop := o = .returned (some (.int 1)) ∧ Framed s o t [] 600000 7302250
def lw_Z (below : List Frame) (a : Array Value) (s : State) : State → Prop := fun t => ∃ o, t.status = .running ∧ Ended t below o ∧ lw_Q a s o t
/-- the law's own end, with 1 on the stack, nothing written that was there before, its room as the claim has it -/
theorem lw_ret {p : Program} {l : Launch} {e : Env} {s : State} {m : MethodId} {below : List Frame} {meth : Method} {c : Code} {b : Nat} (hx : p.tables.exec = Jvm.exec) (hb : c.code = code) (hr : meth.sig.returnType = ret) (hlocks : meth.locks = false) {pc : Nat} {H : Heap} {ls : Array Slot} (hdg : decode code pc = .ok (.ireturn, 1)) : W p l e room_1 s m #[Value.ref b] below meth c H [] 600000 7302250 (lw_Z below #[Value.ref b] s) (F0 m pc ls [.int 1]) := by
  intro T hT X
  obtain ⟨fs, hret, hrun, hended, hW, hframe⟩ := X.leave (v := some (.int 1)) (hlocks := hlocks) (fun h => by rw [hr] at h; cases h)
  have hmeth' : T.vm.method? m = some meth := X.method'
  refine ⟨T.setFrames fs, ?_, .returned (some (.int 1)), hrun, hended, rfl, ⟨_, rfl⟩, hW, hframe⟩
  jvm_step X.here [X.here.top, hx, hb, hdg, hmeth', hr, ret, narrow_b1]
  (try refine ⟨rfl, ?_⟩); (try refine ⟨rfl, ?_⟩)
  first | (intro acts; rw [hret _ acts rfl rfl rfl]) | rw [hret _ _ rfl rfl rfl]
  exact Steps.refl _
/-- what holds at the law's entry: the machine, the code, the tables' words (any of lw_tbl by 'hts w (by decide +kernel)'), the script of L ints xs at the cell b, what the Statement gives of the start (any of its parts by flat_of_before) -/
def lw_At (p : Program) (s : State) (m : MethodId) (meth : Method) (c : Code) (b L : Nat) (xs : Nat → Int32) : Prop :=
  p.tables.exec = Jvm.exec ∧ c.code = code ∧ meth.sig.returnType = ret ∧ c.maxLocals = 4 ∧ s.vm.findClass R_law = some m.cls ∧ (∀ w ∈ lw_tbl, w.before #[Value.ref b] s = true) ∧ va_X b L xs s s.heap ∧ b < s.heap.size ∧ meth.locks = false ∧ (Jvm.Cond.and given_1 narrow_1).before #[Value.ref b] s = true
set_option maxHeartbeats 4000000 in
set_option maxRecDepth 100000 in
theorem whole_start {p : Program} {e : Env} {s : State} {m : MethodId} {below : List Frame} {meth : Method} {c : Code} (l : Launch) (hflags : l.flags = flags0) {b L : Nat} {xs : Nat → Int32} (hL : L ≤ 7) (C0 : lw_At p s m meth c b L xs) : W p l e room_1 s m #[Value.ref b] below meth c s.heap [] 0 0 (lw_Z below #[Value.ref b] s) (entryFrame m ([Value.ref b] : List Value).toArray 4) := by
  obtain ⟨hx, hb, hr, hml, hown, hts, hX, hbl, hlocks, hgv⟩ := id C0
  have hcf : CallFix p m c cL_law 4 s #[Value.ref b] lw_tbl RL := ⟨hx, hb, hml, hown, hts⟩
  have hE : zE s := zE.tab (fun w h => hts w (List.mem_append_right _ h))
  obtain ⟨cD, cy, hK⟩ := z_start hts
  have hA : ∀ q : Nat, s.heap.size ≤ q → (fun q : Nat => s.heap.size ≤ q) q := fun _ h => h
  have hbA : ¬ (fun q : Nat => s.heap.size ≤ q) b := Nat.not_le.mpr hbl
  have hw := zPw_0 cD cy (fun q : Nat => s.heap.size ≤ q) s.heap
  have hl := lv_entry ([.ref b]) (n := 4) (Nat.le_of_ble_eq_true rfl)
  rw [lg_entry_eq]
  generalize (lg_sl ([.ref b]) ++ List.replicate (4 - (lg_sl ([.ref b])).length) Slot.unset).toArray = ls at hl ⊢
  have hl : lv_has ls 4 [(0, .ref b)] := hl
  refine z_new (k := 11) tyX11 hcf hK hw hA inX11 tyX11_ok (List.mem_of_getElem? (i := 121) (by decide +kernel)) (List.mem_of_getElem? (i := 122) (by decide +kernel)) (List.mem_of_getElem? (i := 99) (by decide +kernel)) rfl (by decide) zdf11 (Nat.le_of_ble_eq_true rfl) (Nat.le_of_ble_eq_true rfl) dL_law_0 (fun q1 H hqn hw => ?_)
  refine lv_dup hx hb dL_law_3 rfl ?_
  refine z_kv hw hA (va_runI (As := []) (rest := [.ref q1]) hcf (c_X11_init l cD cy _ (zNew zS0 q1 11 0) q1 rfl zNew_m zNew_K ) (cwI 0 hts gL_law_X11_init rfl rfl rfl (hts (.initialized RX11) (List.mem_of_getElem? (i := 99) (by decide +kernel))) (hts (.methodLink RL 9 yX11_init) (List.mem_of_getElem? (i := 123) (by decide +kernel))) (hts (.instanceMethod yX11_init) (List.mem_of_getElem? (i := 124) (by decide +kernel))) rfl (by decide +kernel) ⟨Nat.le_of_ble_eq_true rfl, Nat.le_of_ble_eq_true rfl⟩) (z_preS hK hE hw) rfl rfl hl.1 rfl (lv_room (Nat.le_of_ble_eq_true rfl)) dL_law_4 ⟨Nat.le_of_ble_eq_true rfl, Nat.le_of_ble_eq_true rfl⟩) (fun S1 H locs hp hwn => ?_)
  obtain ⟨r1, hr0r1, hS1, hF1⟩ := hp
  subst hr0r1
  have hw := zP2_of hwn
  refine lv_astore_n (lv' := [(1, .ref (r1 0)), (0, .ref b)]) hx hb dL_law_7 rfl hl (by decide) rfl (fun ls hl => ?_)
  refine z2_new (k := 12) tyX12 hcf hK hw hA inX12 tyX12_ok (List.mem_of_getElem? (i := 1227) (by decide +kernel)) (List.mem_of_getElem? (i := 1228) (by decide +kernel)) (List.mem_of_getElem? (i := 103) (by decide +kernel)) rfl (by decide) zdf12 (Nat.le_of_ble_eq_true rfl) (Nat.le_of_ble_eq_true rfl) dL_law_8 (fun q2 H hw => ?_)
  refine lv_dup hx hb dL_law_11 rfl ?_
  refine z2_k2v hw hA (va_runI (As := []) (rest := [.ref q2]) hcf (c_X12_init l cD cy _ (zNew zS0 q2 12 0) q2 rfl zNew_m zNew_K (fun j => zNew_I)) (cwI 0 hts gL_law_X12_init rfl rfl rfl (hts (.initialized RX12) (List.mem_of_getElem? (i := 103) (by decide +kernel))) (hts (.methodLink RL 12 yX12_init) (List.mem_of_getElem? (i := 1229) (by decide +kernel))) (hts (.instanceMethod yX12_init) (List.mem_of_getElem? (i := 1230) (by decide +kernel))) rfl (by decide +kernel) ⟨Nat.le_of_ble_eq_true rfl, Nat.le_of_ble_eq_true rfl⟩) (z_preS hK hE hw.r) rfl rfl hl.1 rfl (lv_room (Nat.le_of_ble_eq_true rfl)) dL_law_12 ⟨Nat.le_of_ble_eq_true rfl, Nat.le_of_ble_eq_true rfl⟩) (fun S2 H locs hp hwn => ?_)
  obtain ⟨r2, hr0r2, hS2, hF2⟩ := hp
  subst hr0r2
  have hw := hwn
  refine lv_astore_n (lv' := [(2, .ref (r2 0)), (1, .ref (r1 0)), (0, .ref b)]) hx hb dL_law_15 rfl hl (by decide) rfl (fun ls hl => ?_)
  refine lv_iconst (v := 0) hx hb dL_law_16 (by decide) ?_
  refine lv_istore_n (lv' := [(3, .int 0), (2, .ref (r2 0)), (1, .ref (r1 0)), (0, .ref b)]) hx hb dL_law_17 rfl hl (by decide) rfl (fun ls hl => ?_)
  refine lv_iload_n hx hb dL_law_18 rfl (lv_at hl 0 rfl) ?_
  refine lv_aload_n hx hb dL_law_19 rfl (lv_at hl 3 rfl) ?_
  refine va_slen hx hb hX hbl hbA hw.2.2 dL_law_20 ?_
  refine lv_bipush (v := 7) hx hb dL_law_21 (by decide) ?_
  refine lv_isub hx hb dL_law_23 ?_
  refine lv_icmp_gt (tgt := 1722) hx hb dL_law_24 (by decide) (fun c_24 => ?_) (fun c_24 => ?_)
  · refine lv_iconst (v := 1) hx hb dL_law_1722 (by decide) ?_
    refine va_forget (fun q hq => hw.2.2.2.2 q hq) ?_
    refine W.widen (k := 600000) (n := 7302250) (Nat.le_of_ble_eq_true rfl) (Nat.le_of_ble_eq_true rfl) ?_
    exact lw_ret hx hb hr hlocks dL_law_1723
  · have hL7 : L = 7 := by
      rcases (show L = 0 ∨ L = 1 ∨ L = 2 ∨ L = 3 ∨ L = 4 ∨ L = 5 ∨ L = 6 ∨ L = 7 by omega) with rfl | rfl | rfl | rfl | rfl | rfl | rfl | rfl
      · exact absurd (by decide) c_24
      · exact absurd (by decide) c_24
      · exact absurd (by decide) c_24
      · exact absurd (by decide) c_24
      · exact absurd (by decide) c_24
      · exact absurd (by decide) c_24
      · exact absurd (by decide) c_24
      · rfl
    subst hL7
    refine lv_aload_n hx hb dL_law_27 rfl (lv_at hl 3 rfl) ?_
    refine lv_iload_n hx hb dL_law_28 rfl (lv_at hl 0 rfl) ?_
    refine va_sld hx hb hX hbl hbA hw.2.2 (i := 0) (by unfold vp_in; decide) dL_law_29 ?_
    refine lv_bipush (v := 63) hx hb dL_law_30 (by decide) ?_
    refine lv_iand hx hb dL_law_32 ?_
    obtain ⟨k, ek⟩ : ∃ k : Int32, k = ((xs (0 : Int32).toNatClampNeg) &&& 63) := ⟨_, rfl⟩
    refine z_topi ek.symm ?_
    by_cases k0 : k = 0
    · refine z_topi (y := 0) k0 ?_
      refine lv_tableIn (off := 171) (tgt := 204) hx hb dL_law_33 (by decide) (by decide) (by decide) (by decide) ?_
      refine lv_aload_n hx hb dL_law_204 rfl (lv_at hl 2 rfl) ?_
      refine lv_aload_n hx hb dL_law_205 rfl (lv_at hl 3 rfl) ?_
      refine lv_iload_n hx hb dL_law_206 rfl (lv_at hl 0 rfl) ?_
      refine lv_iconst (v := 1) hx hb dL_law_207 (by decide) ?_
      refine lv_iadd hx hb dL_law_208 ?_
      refine z_topi (y := 1) (by decide) ?_
      refine va_sld hx hb hX hbl hbA hw.2.2 (i := 1) (by unfold vp_in; decide) dL_law_209 ?_
      refine lv_aload_n hx hb dL_law_210 rfl (lv_at hl 3 rfl) ?_
      refine lv_iload_n hx hb dL_law_211 rfl (lv_at hl 0 rfl) ?_
      refine lv_iconst (v := 2) hx hb dL_law_212 (by decide) ?_
      refine lv_iadd hx hb dL_law_213 ?_
      refine z_topi (y := 2) (by decide) ?_
      refine va_sld hx hb hX hbl hbA hw.2.2 (i := 2) (by unfold vp_in; decide) dL_law_214 ?_
      refine lv_aload_n hx hb dL_law_215 rfl (lv_at hl 3 rfl) ?_
      refine lv_iload_n hx hb dL_law_216 rfl (lv_at hl 0 rfl) ?_
      refine lv_iconst (v := 3) hx hb dL_law_217 (by decide) ?_
      refine lv_iadd hx hb dL_law_218 ?_
      refine z_topi (y := 3) (by decide) ?_
      refine va_sld hx hb hX hbl hbA hw.2.2 (i := 3) (by unfold vp_in; decide) dL_law_219 ?_
      refine z2_k1i hw hA (va_runV (As := [.int (xs (1 : Int32).toNatClampNeg), .int (xs (2 : Int32).toNatClampNeg), .int (xs (3 : Int32).toNatClampNeg)]) (rest := []) hcf (c_X11_row l cD cy _ r1 S1 hS1 hF1 ((xs (1 : Int32).toNatClampNeg)) ((xs (2 : Int32).toNatClampNeg)) ((xs (3 : Int32).toNatClampNeg))) (cwV 3 hts gL_law_X11_row rfl rfl rfl (by decide +kernel) ⟨Nat.le_of_ble_eq_true rfl, Nat.le_of_ble_eq_true rfl⟩) (z_preV (k := 11) hK hE hw.l (cL hS1 0) (cK hS1 0) (by decide) rfl) rfl rfl hl.1 rfl (lv_room (Nat.le_of_ble_eq_true rfl)) dL_law_220 ⟨Nat.le_of_ble_eq_true rfl, Nat.le_of_ble_eq_true rfl⟩) (fun v1 S1 H locs hv1 hw => ?_)
      refine lv_aload_n hx hb dL_law_223 rfl (lv_at hl 1 rfl) ?_
      refine lv_aload_n hx hb dL_law_224 rfl (lv_at hl 3 rfl) ?_
      refine lv_iload_n hx hb dL_law_225 rfl (lv_at hl 0 rfl) ?_
      refine lv_iconst (v := 1) hx hb dL_law_226 (by decide) ?_
      refine lv_iadd hx hb dL_law_227 ?_
      refine z_topi (y := 1) (by decide) ?_
      refine va_sld hx hb hX hbl hbA hw.2.2 (i := 1) (by unfold vp_in; decide) dL_law_228 ?_
      refine lv_aload_n hx hb dL_law_229 rfl (lv_at hl 3 rfl) ?_
      refine lv_iload_n hx hb dL_law_230 rfl (lv_at hl 0 rfl) ?_
      refine lv_iconst (v := 2) hx hb dL_law_231 (by decide) ?_
      refine lv_iadd hx hb dL_law_232 ?_
      refine z_topi (y := 2) (by decide) ?_
      refine va_sld hx hb hX hbl hbA hw.2.2 (i := 2) (by unfold vp_in; decide) dL_law_233 ?_
      refine lv_aload_n hx hb dL_law_234 rfl (lv_at hl 3 rfl) ?_
      refine lv_iload_n hx hb dL_law_235 rfl (lv_at hl 0 rfl) ?_
      refine lv_iconst (v := 3) hx hb dL_law_236 (by decide) ?_
      refine lv_iadd hx hb dL_law_237 ?_
      refine z_topi (y := 3) (by decide) ?_
      refine va_sld hx hb hX hbl hbA hw.2.2 (i := 3) (by unfold vp_in; decide) dL_law_238 ?_
      refine z2_k2i hw hA (va_runV (As := [.int (xs (1 : Int32).toNatClampNeg), .int (xs (2 : Int32).toNatClampNeg), .int (xs (3 : Int32).toNatClampNeg)]) (rest := [.int v1]) hcf (c_X12_row l cD cy _ r2 S2 hS2 hF2 ((xs (1 : Int32).toNatClampNeg)) ((xs (2 : Int32).toNatClampNeg)) ((xs (3 : Int32).toNatClampNeg))) (cwV 3 hts gL_law_X12_row rfl rfl rfl (by decide +kernel) ⟨Nat.le_of_ble_eq_true rfl, Nat.le_of_ble_eq_true rfl⟩) (z_preV (k := 12) hK hE hw.r (mL hS2 0) (mK hS2 0) (by decide) rfl) rfl rfl hl.1 rfl (lv_room (Nat.le_of_ble_eq_true rfl)) dL_law_239 ⟨Nat.le_of_ble_eq_true rfl, Nat.le_of_ble_eq_true rfl⟩) (fun v2 S2 H locs hv2 hw => ?_)
      refine lv_icmp_eq (tgt := 1716) hx hb dL_law_242 (by decide) (fun _ => ?_) (fun q => absurd (hv1.trans hv2.symm) q)
      refine lv_iinc (v := 7) (lv' := [(3, .int 7), (2, .ref (r2 0)), (1, .ref (r1 0)), (0, .ref b)]) hx hb dL_law_1716 hl (k := 0) rfl (by decide) (by decide) rfl (fun ls hl => ?_)
      refine lv_goto (tgt := 18) hx hb dL_law_1719 (by decide) ?_
      refine lv_iload_n hx hb dL_law_18 rfl (lv_at hl 0 rfl) ?_
      refine lv_aload_n hx hb dL_law_19 rfl (lv_at hl 3 rfl) ?_
      refine va_slen hx hb hX hbl hbA hw.2.2 dL_law_20 ?_
      refine z_topi (y := 7) (by decide) ?_
      refine lv_bipush (v := 7) hx hb dL_law_21 (by decide) ?_
      refine lv_isub hx hb dL_law_23 ?_
      refine z_topi (y := 0) (by decide) ?_
      refine lv_icmp_gt (tgt := 1722) hx hb dL_law_24 (by decide) (fun _ => ?_) (fun c_24 => absurd c_24 (by decide))
      refine lv_iconst (v := 1) hx hb dL_law_1722 (by decide) ?_
      refine va_forget (fun q hq => hw.2.2.2.2 q hq) ?_
      refine W.widen (k := 600000) (n := 7302250) (Nat.le_of_ble_eq_true rfl) (Nat.le_of_ble_eq_true rfl) ?_
      exact lw_ret hx hb hr hlocks dL_law_1723
    by_cases k1 : k = 1
    · refine z_topi (y := 1) k1 ?_
      refine lv_tableIn (off := 214) (tgt := 247) hx hb dL_law_33 (by decide) (by decide) (by decide) (by decide) ?_
      refine lv_aload_n hx hb dL_law_247 rfl (lv_at hl 2 rfl) ?_
      refine lv_aload_n hx hb dL_law_248 rfl (lv_at hl 3 rfl) ?_
      refine lv_iload_n hx hb dL_law_249 rfl (lv_at hl 0 rfl) ?_
      refine lv_iconst (v := 1) hx hb dL_law_250 (by decide) ?_
      refine lv_iadd hx hb dL_law_251 ?_
      refine z_topi (y := 1) (by decide) ?_
      refine va_sld hx hb hX hbl hbA hw.2.2 (i := 1) (by unfold vp_in; decide) dL_law_252 ?_
      refine lv_aload_n hx hb dL_law_253 rfl (lv_at hl 3 rfl) ?_
      refine lv_iload_n hx hb dL_law_254 rfl (lv_at hl 0 rfl) ?_
      refine lv_iconst (v := 2) hx hb dL_law_255 (by decide) ?_
      refine lv_iadd hx hb dL_law_256 ?_
      refine z_topi (y := 2) (by decide) ?_
      refine va_sld hx hb hX hbl hbA hw.2.2 (i := 2) (by unfold vp_in; decide) dL_law_257 ?_
      refine lv_aload_n hx hb dL_law_258 rfl (lv_at hl 3 rfl) ?_
      refine lv_iload_n hx hb dL_law_259 rfl (lv_at hl 0 rfl) ?_
      refine lv_iconst (v := 3) hx hb dL_law_260 (by decide) ?_
      refine lv_iadd hx hb dL_law_261 ?_
      refine z_topi (y := 3) (by decide) ?_
      refine va_sld hx hb hX hbl hbA hw.2.2 (i := 3) (by unfold vp_in; decide) dL_law_262 ?_
      refine lv_i2l (v := ((xs (3 : Int32).toNatClampNeg) : Int32).toInt64) hx hb dL_law_263 rfl ?_
      refine lv_bipush (v := 32) hx hb dL_law_264 (by decide) ?_
      refine lv_lshl (v := ((((xs (3 : Int32).toNatClampNeg) : Int32).toInt64 : Int64) <<< ((32 : Int32).toInt64 &&& 63))) hx hb dL_law_266 rfl ?_
      refine lv_aload_n hx hb dL_law_267 rfl (lv_at hl 3 rfl) ?_
      refine lv_iload_n hx hb dL_law_268 rfl (lv_at hl 0 rfl) ?_
      refine lv_iconst (v := 4) hx hb dL_law_269 (by decide) ?_
      refine lv_iadd hx hb dL_law_270 ?_
      refine z_topi (y := 4) (by decide) ?_
      refine va_sld hx hb hX hbl hbA hw.2.2 (i := 4) (by unfold vp_in; decide) dL_law_271 ?_
      refine lv_i2l (v := ((xs (4 : Int32).toNatClampNeg) : Int32).toInt64) hx hb dL_law_272 rfl ?_
      refine lv_ldc2 (v := 4294967295) hx hb hown (hts (.constantLong RL 18 4294967295) (by decide +kernel)) dL_law_273 ?_
      refine lv_land hx hb dL_law_276 ?_
      refine lv_lor hx hb dL_law_277 ?_
      refine z2_k1i hw hA (va_runV (As := [.int (xs (1 : Int32).toNatClampNeg), .int (xs (2 : Int32).toNatClampNeg), .long (((((xs (3 : Int32).toNatClampNeg) : Int32).toInt64 : Int64) <<< ((32 : Int32).toInt64 &&& 63)) ||| (((xs (4 : Int32).toNatClampNeg) : Int32).toInt64 &&& 4294967295))]) (rest := []) hcf (c_X11_set l cD cy _ r1 S1 hS1 hF1 ((xs (1 : Int32).toNatClampNeg)) ((xs (2 : Int32).toNatClampNeg)) ((((((xs (3 : Int32).toNatClampNeg) : Int32).toInt64 : Int64) <<< ((32 : Int32).toInt64 &&& 63)) ||| (((xs (4 : Int32).toNatClampNeg) : Int32).toInt64 &&& 4294967295)))) (cwV 3 hts gL_law_X11_set rfl rfl rfl (by decide +kernel) ⟨Nat.le_of_ble_eq_true rfl, Nat.le_of_ble_eq_true rfl⟩) (z_preV (k := 11) hK hE hw.l (cL hS1 0) (cK hS1 0) (by decide) rfl) rfl rfl hl.1 rfl (lv_room (Nat.le_of_ble_eq_true rfl)) dL_law_278 ⟨Nat.le_of_ble_eq_true rfl, Nat.le_of_ble_eq_true rfl⟩) (fun v1 S1 H locs hv1 hw => ?_)
      refine lv_aload_n hx hb dL_law_281 rfl (lv_at hl 1 rfl) ?_
      refine lv_aload_n hx hb dL_law_282 rfl (lv_at hl 3 rfl) ?_
      refine lv_iload_n hx hb dL_law_283 rfl (lv_at hl 0 rfl) ?_
      refine lv_iconst (v := 1) hx hb dL_law_284 (by decide) ?_
      refine lv_iadd hx hb dL_law_285 ?_
      refine z_topi (y := 1) (by decide) ?_
      refine va_sld hx hb hX hbl hbA hw.2.2 (i := 1) (by unfold vp_in; decide) dL_law_286 ?_
      refine lv_aload_n hx hb dL_law_287 rfl (lv_at hl 3 rfl) ?_
      refine lv_iload_n hx hb dL_law_288 rfl (lv_at hl 0 rfl) ?_
      refine lv_iconst (v := 2) hx hb dL_law_289 (by decide) ?_
      refine lv_iadd hx hb dL_law_290 ?_
      refine z_topi (y := 2) (by decide) ?_
      refine va_sld hx hb hX hbl hbA hw.2.2 (i := 2) (by unfold vp_in; decide) dL_law_291 ?_
      refine lv_aload_n hx hb dL_law_292 rfl (lv_at hl 3 rfl) ?_
      refine lv_iload_n hx hb dL_law_293 rfl (lv_at hl 0 rfl) ?_
      refine lv_iconst (v := 3) hx hb dL_law_294 (by decide) ?_
      refine lv_iadd hx hb dL_law_295 ?_
      refine z_topi (y := 3) (by decide) ?_
      refine va_sld hx hb hX hbl hbA hw.2.2 (i := 3) (by unfold vp_in; decide) dL_law_296 ?_
      refine lv_i2l (v := ((xs (3 : Int32).toNatClampNeg) : Int32).toInt64) hx hb dL_law_297 rfl ?_
      refine lv_bipush (v := 32) hx hb dL_law_298 (by decide) ?_
      refine lv_lshl (v := ((((xs (3 : Int32).toNatClampNeg) : Int32).toInt64 : Int64) <<< ((32 : Int32).toInt64 &&& 63))) hx hb dL_law_300 rfl ?_
      refine lv_aload_n hx hb dL_law_301 rfl (lv_at hl 3 rfl) ?_
      refine lv_iload_n hx hb dL_law_302 rfl (lv_at hl 0 rfl) ?_
      refine lv_iconst (v := 4) hx hb dL_law_303 (by decide) ?_
      refine lv_iadd hx hb dL_law_304 ?_
      refine z_topi (y := 4) (by decide) ?_
      refine va_sld hx hb hX hbl hbA hw.2.2 (i := 4) (by unfold vp_in; decide) dL_law_305 ?_
      refine lv_i2l (v := ((xs (4 : Int32).toNatClampNeg) : Int32).toInt64) hx hb dL_law_306 rfl ?_
      refine lv_ldc2 (v := 4294967295) hx hb hown (hts (.constantLong RL 18 4294967295) (by decide +kernel)) dL_law_307 ?_
      refine lv_land hx hb dL_law_310 ?_
      refine lv_lor hx hb dL_law_311 ?_
      refine z2_k2i hw hA (va_runV (As := [.int (xs (1 : Int32).toNatClampNeg), .int (xs (2 : Int32).toNatClampNeg), .long (((((xs (3 : Int32).toNatClampNeg) : Int32).toInt64 : Int64) <<< ((32 : Int32).toInt64 &&& 63)) ||| (((xs (4 : Int32).toNatClampNeg) : Int32).toInt64 &&& 4294967295))]) (rest := [.int v1]) hcf (c_X12_set l cD cy _ r2 S2 hS2 hF2 ((xs (1 : Int32).toNatClampNeg)) ((xs (2 : Int32).toNatClampNeg)) ((((((xs (3 : Int32).toNatClampNeg) : Int32).toInt64 : Int64) <<< ((32 : Int32).toInt64 &&& 63)) ||| (((xs (4 : Int32).toNatClampNeg) : Int32).toInt64 &&& 4294967295)))) (cwV 3 hts gL_law_X12_set rfl rfl rfl (by decide +kernel) ⟨Nat.le_of_ble_eq_true rfl, Nat.le_of_ble_eq_true rfl⟩) (z_preV (k := 12) hK hE hw.r (mL hS2 0) (mK hS2 0) (by decide) rfl) rfl rfl hl.1 rfl (lv_room (Nat.le_of_ble_eq_true rfl)) dL_law_312 ⟨Nat.le_of_ble_eq_true rfl, Nat.le_of_ble_eq_true rfl⟩) (fun v2 S2 H locs hv2 hw => ?_)
      refine lv_icmp_eq (tgt := 1716) hx hb dL_law_315 (by decide) (fun _ => ?_) (fun q => absurd (hv1.trans hv2.symm) q)
      refine lv_iinc (v := 7) (lv' := [(3, .int 7), (2, .ref (r2 0)), (1, .ref (r1 0)), (0, .ref b)]) hx hb dL_law_1716 hl (k := 0) rfl (by decide) (by decide) rfl (fun ls hl => ?_)
      refine lv_goto (tgt := 18) hx hb dL_law_1719 (by decide) ?_
      refine lv_iload_n hx hb dL_law_18 rfl (lv_at hl 0 rfl) ?_
      refine lv_aload_n hx hb dL_law_19 rfl (lv_at hl 3 rfl) ?_
      refine va_slen hx hb hX hbl hbA hw.2.2 dL_law_20 ?_
      refine z_topi (y := 7) (by decide) ?_
      refine lv_bipush (v := 7) hx hb dL_law_21 (by decide) ?_
      refine lv_isub hx hb dL_law_23 ?_
      refine z_topi (y := 0) (by decide) ?_
      refine lv_icmp_gt (tgt := 1722) hx hb dL_law_24 (by decide) (fun _ => ?_) (fun c_24 => absurd c_24 (by decide))
      refine lv_iconst (v := 1) hx hb dL_law_1722 (by decide) ?_
      refine va_forget (fun q hq => hw.2.2.2.2 q hq) ?_
      refine W.widen (k := 600000) (n := 7302250) (Nat.le_of_ble_eq_true rfl) (Nat.le_of_ble_eq_true rfl) ?_
      exact lw_ret hx hb hr hlocks dL_law_1723
    by_cases k2 : k = 2
    · refine z_topi (y := 2) k2 ?_
      refine lv_tableIn (off := 287) (tgt := 320) hx hb dL_law_33 (by decide) (by decide) (by decide) (by decide) ?_
      refine lv_aload_n hx hb dL_law_320 rfl (lv_at hl 2 rfl) ?_
      refine lv_aload_n hx hb dL_law_321 rfl (lv_at hl 3 rfl) ?_
      refine lv_iload_n hx hb dL_law_322 rfl (lv_at hl 0 rfl) ?_
      refine lv_iconst (v := 1) hx hb dL_law_323 (by decide) ?_
      refine lv_iadd hx hb dL_law_324 ?_
      refine z_topi (y := 1) (by decide) ?_
      refine va_sld hx hb hX hbl hbA hw.2.2 (i := 1) (by unfold vp_in; decide) dL_law_325 ?_
      refine lv_aload_n hx hb dL_law_326 rfl (lv_at hl 3 rfl) ?_
      refine lv_iload_n hx hb dL_law_327 rfl (lv_at hl 0 rfl) ?_
      refine lv_iconst (v := 2) hx hb dL_law_328 (by decide) ?_
      refine lv_iadd hx hb dL_law_329 ?_
      refine z_topi (y := 2) (by decide) ?_
      refine va_sld hx hb hX hbl hbA hw.2.2 (i := 2) (by unfold vp_in; decide) dL_law_330 ?_
      refine lv_aload_n hx hb dL_law_331 rfl (lv_at hl 3 rfl) ?_
      refine lv_iload_n hx hb dL_law_332 rfl (lv_at hl 0 rfl) ?_
      refine lv_iconst (v := 3) hx hb dL_law_333 (by decide) ?_
      refine lv_iadd hx hb dL_law_334 ?_
      refine z_topi (y := 3) (by decide) ?_
      refine va_sld hx hb hX hbl hbA hw.2.2 (i := 3) (by unfold vp_in; decide) dL_law_335 ?_
      refine lv_aload_n hx hb dL_law_336 rfl (lv_at hl 3 rfl) ?_
      refine lv_iload_n hx hb dL_law_337 rfl (lv_at hl 0 rfl) ?_
      refine lv_iconst (v := 4) hx hb dL_law_338 (by decide) ?_
      refine lv_iadd hx hb dL_law_339 ?_
      refine z_topi (y := 4) (by decide) ?_
      refine va_sld hx hb hX hbl hbA hw.2.2 (i := 4) (by unfold vp_in; decide) dL_law_340 ?_
      refine lv_aload_n hx hb dL_law_341 rfl (lv_at hl 3 rfl) ?_
      refine lv_iload_n hx hb dL_law_342 rfl (lv_at hl 0 rfl) ?_
      refine lv_iconst (v := 5) hx hb dL_law_343 (by decide) ?_
      refine lv_iadd hx hb dL_law_344 ?_
      refine z_topi (y := 5) (by decide) ?_
      refine va_sld hx hb hX hbl hbA hw.2.2 (i := 5) (by unfold vp_in; decide) dL_law_345 ?_
      refine z2_k1i hw hA (va_runV (As := [.int (xs (1 : Int32).toNatClampNeg), .int (xs (2 : Int32).toNatClampNeg), .int (xs (3 : Int32).toNatClampNeg), .int (xs (4 : Int32).toNatClampNeg), .int (xs (5 : Int32).toNatClampNeg)]) (rest := []) hcf (c_X11_copy l cD cy _ r1 S1 hS1 hF1 ((xs (1 : Int32).toNatClampNeg)) ((xs (2 : Int32).toNatClampNeg)) ((xs (3 : Int32).toNatClampNeg)) ((xs (4 : Int32).toNatClampNeg)) ((xs (5 : Int32).toNatClampNeg))) (cwV 5 hts gL_law_X11_copy rfl rfl rfl (by decide +kernel) ⟨Nat.le_of_ble_eq_true rfl, Nat.le_of_ble_eq_true rfl⟩) (z_preV (k := 11) hK hE hw.l (cL hS1 0) (cK hS1 0) (by decide) rfl) rfl rfl hl.1 rfl (lv_room (Nat.le_of_ble_eq_true rfl)) dL_law_346 ⟨Nat.le_of_ble_eq_true rfl, Nat.le_of_ble_eq_true rfl⟩) (fun v1 S1 H locs hv1 hw => ?_)
      refine lv_aload_n hx hb dL_law_349 rfl (lv_at hl 1 rfl) ?_
      refine lv_aload_n hx hb dL_law_350 rfl (lv_at hl 3 rfl) ?_
      refine lv_iload_n hx hb dL_law_351 rfl (lv_at hl 0 rfl) ?_
      refine lv_iconst (v := 1) hx hb dL_law_352 (by decide) ?_
      refine lv_iadd hx hb dL_law_353 ?_
      refine z_topi (y := 1) (by decide) ?_
      refine va_sld hx hb hX hbl hbA hw.2.2 (i := 1) (by unfold vp_in; decide) dL_law_354 ?_
      refine lv_aload_n hx hb dL_law_355 rfl (lv_at hl 3 rfl) ?_
      refine lv_iload_n hx hb dL_law_356 rfl (lv_at hl 0 rfl) ?_
      refine lv_iconst (v := 2) hx hb dL_law_357 (by decide) ?_
      refine lv_iadd hx hb dL_law_358 ?_
      refine z_topi (y := 2) (by decide) ?_
      refine va_sld hx hb hX hbl hbA hw.2.2 (i := 2) (by unfold vp_in; decide) dL_law_359 ?_
      refine lv_aload_n hx hb dL_law_360 rfl (lv_at hl 3 rfl) ?_
      refine lv_iload_n hx hb dL_law_361 rfl (lv_at hl 0 rfl) ?_
      refine lv_iconst (v := 3) hx hb dL_law_362 (by decide) ?_
      refine lv_iadd hx hb dL_law_363 ?_
      refine z_topi (y := 3) (by decide) ?_
      refine va_sld hx hb hX hbl hbA hw.2.2 (i := 3) (by unfold vp_in; decide) dL_law_364 ?_
      refine lv_aload_n hx hb dL_law_365 rfl (lv_at hl 3 rfl) ?_
      refine lv_iload_n hx hb dL_law_366 rfl (lv_at hl 0 rfl) ?_
      refine lv_iconst (v := 4) hx hb dL_law_367 (by decide) ?_
      refine lv_iadd hx hb dL_law_368 ?_
      refine z_topi (y := 4) (by decide) ?_
      refine va_sld hx hb hX hbl hbA hw.2.2 (i := 4) (by unfold vp_in; decide) dL_law_369 ?_
      refine lv_aload_n hx hb dL_law_370 rfl (lv_at hl 3 rfl) ?_
      refine lv_iload_n hx hb dL_law_371 rfl (lv_at hl 0 rfl) ?_
      refine lv_iconst (v := 5) hx hb dL_law_372 (by decide) ?_
      refine lv_iadd hx hb dL_law_373 ?_
      refine z_topi (y := 5) (by decide) ?_
      refine va_sld hx hb hX hbl hbA hw.2.2 (i := 5) (by unfold vp_in; decide) dL_law_374 ?_
      refine z2_k2i hw hA (va_runV (As := [.int (xs (1 : Int32).toNatClampNeg), .int (xs (2 : Int32).toNatClampNeg), .int (xs (3 : Int32).toNatClampNeg), .int (xs (4 : Int32).toNatClampNeg), .int (xs (5 : Int32).toNatClampNeg)]) (rest := [.int v1]) hcf (c_X12_copy l cD cy _ r2 S2 hS2 hF2 ((xs (1 : Int32).toNatClampNeg)) ((xs (2 : Int32).toNatClampNeg)) ((xs (3 : Int32).toNatClampNeg)) ((xs (4 : Int32).toNatClampNeg)) ((xs (5 : Int32).toNatClampNeg))) (cwV 5 hts gL_law_X12_copy rfl rfl rfl (by decide +kernel) ⟨Nat.le_of_ble_eq_true rfl, Nat.le_of_ble_eq_true rfl⟩) (z_preV (k := 12) hK hE hw.r (mL hS2 0) (mK hS2 0) (by decide) rfl) rfl rfl hl.1 rfl (lv_room (Nat.le_of_ble_eq_true rfl)) dL_law_375 ⟨Nat.le_of_ble_eq_true rfl, Nat.le_of_ble_eq_true rfl⟩) (fun v2 S2 H locs hv2 hw => ?_)
      refine lv_icmp_eq (tgt := 1716) hx hb dL_law_378 (by decide) (fun _ => ?_) (fun q => absurd (hv1.trans hv2.symm) q)
      refine lv_iinc (v := 7) (lv' := [(3, .int 7), (2, .ref (r2 0)), (1, .ref (r1 0)), (0, .ref b)]) hx hb dL_law_1716 hl (k := 0) rfl (by decide) (by decide) rfl (fun ls hl => ?_)
      refine lv_goto (tgt := 18) hx hb dL_law_1719 (by decide) ?_
      refine lv_iload_n hx hb dL_law_18 rfl (lv_at hl 0 rfl) ?_
      refine lv_aload_n hx hb dL_law_19 rfl (lv_at hl 3 rfl) ?_
      refine va_slen hx hb hX hbl hbA hw.2.2 dL_law_20 ?_
      refine z_topi (y := 7) (by decide) ?_
      refine lv_bipush (v := 7) hx hb dL_law_21 (by decide) ?_
      refine lv_isub hx hb dL_law_23 ?_
      refine z_topi (y := 0) (by decide) ?_
      refine lv_icmp_gt (tgt := 1722) hx hb dL_law_24 (by decide) (fun _ => ?_) (fun c_24 => absurd c_24 (by decide))
      refine lv_iconst (v := 1) hx hb dL_law_1722 (by decide) ?_
      refine va_forget (fun q hq => hw.2.2.2.2 q hq) ?_
      refine W.widen (k := 600000) (n := 7302250) (Nat.le_of_ble_eq_true rfl) (Nat.le_of_ble_eq_true rfl) ?_
      exact lw_ret hx hb hr hlocks dL_law_1723
    by_cases k3 : k = 3
    · refine z_topi (y := 3) k3 ?_
      refine lv_tableIn (off := 350) (tgt := 383) hx hb dL_law_33 (by decide) (by decide) (by decide) (by decide) ?_
      refine lv_aload_n hx hb dL_law_383 rfl (lv_at hl 2 rfl) ?_
      refine lv_aload_n hx hb dL_law_384 rfl (lv_at hl 3 rfl) ?_
      refine lv_iload_n hx hb dL_law_385 rfl (lv_at hl 0 rfl) ?_
      refine lv_iconst (v := 1) hx hb dL_law_386 (by decide) ?_
      refine lv_iadd hx hb dL_law_387 ?_
      refine z_topi (y := 1) (by decide) ?_
      refine va_sld hx hb hX hbl hbA hw.2.2 (i := 1) (by unfold vp_in; decide) dL_law_388 ?_
      refine lv_aload_n hx hb dL_law_389 rfl (lv_at hl 3 rfl) ?_
      refine lv_iload_n hx hb dL_law_390 rfl (lv_at hl 0 rfl) ?_
      refine lv_iconst (v := 2) hx hb dL_law_391 (by decide) ?_
      refine lv_iadd hx hb dL_law_392 ?_
      refine z_topi (y := 2) (by decide) ?_
      refine va_sld hx hb hX hbl hbA hw.2.2 (i := 2) (by unfold vp_in; decide) dL_law_393 ?_
      refine z2_k1l hw hA (va_runV (As := [.int (xs (1 : Int32).toNatClampNeg), .int (xs (2 : Int32).toNatClampNeg)]) (rest := []) hcf (c_X11_element l cD cy _ r1 S1 hS1 hF1 ((xs (1 : Int32).toNatClampNeg)) ((xs (2 : Int32).toNatClampNeg))) (cwV 2 hts gL_law_X11_element rfl rfl rfl (by decide +kernel) ⟨Nat.le_of_ble_eq_true rfl, Nat.le_of_ble_eq_true rfl⟩) (z_preV (k := 11) hK hE hw.l (cL hS1 0) (cK hS1 0) (by decide) rfl) rfl rfl hl.1 rfl (lv_room (Nat.le_of_ble_eq_true rfl)) dL_law_394 ⟨Nat.le_of_ble_eq_true rfl, Nat.le_of_ble_eq_true rfl⟩) (fun v1 S1 H locs hv1 hw => ?_)
      refine lv_aload_n hx hb dL_law_397 rfl (lv_at hl 1 rfl) ?_
      refine lv_aload_n hx hb dL_law_398 rfl (lv_at hl 3 rfl) ?_
      refine lv_iload_n hx hb dL_law_399 rfl (lv_at hl 0 rfl) ?_
      refine lv_iconst (v := 1) hx hb dL_law_400 (by decide) ?_
      refine lv_iadd hx hb dL_law_401 ?_
      refine z_topi (y := 1) (by decide) ?_
      refine va_sld hx hb hX hbl hbA hw.2.2 (i := 1) (by unfold vp_in; decide) dL_law_402 ?_
      refine lv_aload_n hx hb dL_law_403 rfl (lv_at hl 3 rfl) ?_
      refine lv_iload_n hx hb dL_law_404 rfl (lv_at hl 0 rfl) ?_
      refine lv_iconst (v := 2) hx hb dL_law_405 (by decide) ?_
      refine lv_iadd hx hb dL_law_406 ?_
      refine z_topi (y := 2) (by decide) ?_
      refine va_sld hx hb hX hbl hbA hw.2.2 (i := 2) (by unfold vp_in; decide) dL_law_407 ?_
      refine z2_k2l hw hA (va_runV (As := [.int (xs (1 : Int32).toNatClampNeg), .int (xs (2 : Int32).toNatClampNeg)]) (rest := [.long v1]) hcf (c_X12_element l cD cy _ r2 S2 hS2 hF2 ((xs (1 : Int32).toNatClampNeg)) ((xs (2 : Int32).toNatClampNeg))) (cwV 2 hts gL_law_X12_element rfl rfl rfl (by decide +kernel) ⟨Nat.le_of_ble_eq_true rfl, Nat.le_of_ble_eq_true rfl⟩) (z_preV (k := 12) hK hE hw.r (mL hS2 0) (mK hS2 0) (by decide) rfl) rfl rfl hl.1 rfl (lv_room (Nat.le_of_ble_eq_true rfl)) dL_law_408 ⟨Nat.le_of_ble_eq_true rfl, Nat.le_of_ble_eq_true rfl⟩) (fun v2 S2 H locs hv2 hw => ?_)
      refine z_lc_eq (tgt := 1716) hx hb dL_law_411 dL_law_412 (by decide) (fun _ => ?_) (fun q => absurd (hv1.trans hv2.symm) q)
      refine lv_iinc (v := 7) (lv' := [(3, .int 7), (2, .ref (r2 0)), (1, .ref (r1 0)), (0, .ref b)]) hx hb dL_law_1716 hl (k := 0) rfl (by decide) (by decide) rfl (fun ls hl => ?_)
      refine lv_goto (tgt := 18) hx hb dL_law_1719 (by decide) ?_
      refine lv_iload_n hx hb dL_law_18 rfl (lv_at hl 0 rfl) ?_
      refine lv_aload_n hx hb dL_law_19 rfl (lv_at hl 3 rfl) ?_
      refine va_slen hx hb hX hbl hbA hw.2.2 dL_law_20 ?_
      refine z_topi (y := 7) (by decide) ?_
      refine lv_bipush (v := 7) hx hb dL_law_21 (by decide) ?_
      refine lv_isub hx hb dL_law_23 ?_
      refine z_topi (y := 0) (by decide) ?_
      refine lv_icmp_gt (tgt := 1722) hx hb dL_law_24 (by decide) (fun _ => ?_) (fun c_24 => absurd c_24 (by decide))
      refine lv_iconst (v := 1) hx hb dL_law_1722 (by decide) ?_
      refine va_forget (fun q hq => hw.2.2.2.2 q hq) ?_
      refine W.widen (k := 600000) (n := 7302250) (Nat.le_of_ble_eq_true rfl) (Nat.le_of_ble_eq_true rfl) ?_
      exact lw_ret hx hb hr hlocks dL_law_1723
    by_cases k4 : k = 4
    · refine z_topi (y := 4) k4 ?_
      refine lv_tableIn (off := 384) (tgt := 417) hx hb dL_law_33 (by decide) (by decide) (by decide) (by decide) ?_
      refine lv_aload_n hx hb dL_law_417 rfl (lv_at hl 2 rfl) ?_
      refine lv_aload_n hx hb dL_law_418 rfl (lv_at hl 3 rfl) ?_
      refine lv_iload_n hx hb dL_law_419 rfl (lv_at hl 0 rfl) ?_
      refine lv_iconst (v := 1) hx hb dL_law_420 (by decide) ?_
      refine lv_iadd hx hb dL_law_421 ?_
      refine z_topi (y := 1) (by decide) ?_
      refine va_sld hx hb hX hbl hbA hw.2.2 (i := 1) (by unfold vp_in; decide) dL_law_422 ?_
      refine lv_aload_n hx hb dL_law_423 rfl (lv_at hl 3 rfl) ?_
      refine lv_iload_n hx hb dL_law_424 rfl (lv_at hl 0 rfl) ?_
      refine lv_iconst (v := 2) hx hb dL_law_425 (by decide) ?_
      refine lv_iadd hx hb dL_law_426 ?_
      refine z_topi (y := 2) (by decide) ?_
      refine va_sld hx hb hX hbl hbA hw.2.2 (i := 2) (by unfold vp_in; decide) dL_law_427 ?_
      refine z2_k1i hw hA (va_runV (As := [.int (xs (1 : Int32).toNatClampNeg), .int (xs (2 : Int32).toNatClampNeg)]) (rest := []) hcf (c_X11_show l cD cy _ r1 S1 hS1 hF1 ((xs (1 : Int32).toNatClampNeg)) ((xs (2 : Int32).toNatClampNeg))) (cwV 2 hts gL_law_X11_show rfl rfl rfl (by decide +kernel) ⟨Nat.le_of_ble_eq_true rfl, Nat.le_of_ble_eq_true rfl⟩) (z_preV (k := 11) hK hE hw.l (cL hS1 0) (cK hS1 0) (by decide) rfl) rfl rfl hl.1 rfl (lv_room (Nat.le_of_ble_eq_true rfl)) dL_law_428 ⟨Nat.le_of_ble_eq_true rfl, Nat.le_of_ble_eq_true rfl⟩) (fun v1 S1 H locs hv1 hw => ?_)
      refine lv_aload_n hx hb dL_law_431 rfl (lv_at hl 1 rfl) ?_
      refine lv_aload_n hx hb dL_law_432 rfl (lv_at hl 3 rfl) ?_
      refine lv_iload_n hx hb dL_law_433 rfl (lv_at hl 0 rfl) ?_
      refine lv_iconst (v := 1) hx hb dL_law_434 (by decide) ?_
      refine lv_iadd hx hb dL_law_435 ?_
      refine z_topi (y := 1) (by decide) ?_
      refine va_sld hx hb hX hbl hbA hw.2.2 (i := 1) (by unfold vp_in; decide) dL_law_436 ?_
      refine lv_aload_n hx hb dL_law_437 rfl (lv_at hl 3 rfl) ?_
      refine lv_iload_n hx hb dL_law_438 rfl (lv_at hl 0 rfl) ?_
      refine lv_iconst (v := 2) hx hb dL_law_439 (by decide) ?_
      refine lv_iadd hx hb dL_law_440 ?_
      refine z_topi (y := 2) (by decide) ?_
      refine va_sld hx hb hX hbl hbA hw.2.2 (i := 2) (by unfold vp_in; decide) dL_law_441 ?_
      refine z2_k2i hw hA (va_runV (As := [.int (xs (1 : Int32).toNatClampNeg), .int (xs (2 : Int32).toNatClampNeg)]) (rest := [.int v1]) hcf (c_X12_show l cD cy _ r2 S2 hS2 hF2 ((xs (1 : Int32).toNatClampNeg)) ((xs (2 : Int32).toNatClampNeg))) (cwV 2 hts gL_law_X12_show rfl rfl rfl (by decide +kernel) ⟨Nat.le_of_ble_eq_true rfl, Nat.le_of_ble_eq_true rfl⟩) (z_preV (k := 12) hK hE hw.r (mL hS2 0) (mK hS2 0) (by decide) rfl) rfl rfl hl.1 rfl (lv_room (Nat.le_of_ble_eq_true rfl)) dL_law_442 ⟨Nat.le_of_ble_eq_true rfl, Nat.le_of_ble_eq_true rfl⟩) (fun v2 S2 H locs hv2 hw => ?_)
      refine lv_icmp_eq (tgt := 1716) hx hb dL_law_445 (by decide) (fun _ => ?_) (fun q => absurd (hv1.trans hv2.symm) q)
      refine lv_iinc (v := 7) (lv' := [(3, .int 7), (2, .ref (r2 0)), (1, .ref (r1 0)), (0, .ref b)]) hx hb dL_law_1716 hl (k := 0) rfl (by decide) (by decide) rfl (fun ls hl => ?_)
      refine lv_goto (tgt := 18) hx hb dL_law_1719 (by decide) ?_
      refine lv_iload_n hx hb dL_law_18 rfl (lv_at hl 0 rfl) ?_
      refine lv_aload_n hx hb dL_law_19 rfl (lv_at hl 3 rfl) ?_
      refine va_slen hx hb hX hbl hbA hw.2.2 dL_law_20 ?_
      refine z_topi (y := 7) (by decide) ?_
      refine lv_bipush (v := 7) hx hb dL_law_21 (by decide) ?_
      refine lv_isub hx hb dL_law_23 ?_
      refine z_topi (y := 0) (by decide) ?_
      refine lv_icmp_gt (tgt := 1722) hx hb dL_law_24 (by decide) (fun _ => ?_) (fun c_24 => absurd c_24 (by decide))
      refine lv_iconst (v := 1) hx hb dL_law_1722 (by decide) ?_
      refine va_forget (fun q hq => hw.2.2.2.2 q hq) ?_
      refine W.widen (k := 600000) (n := 7302250) (Nat.le_of_ble_eq_true rfl) (Nat.le_of_ble_eq_true rfl) ?_
      exact lw_ret hx hb hr hlocks dL_law_1723
    by_cases k5 : k = 5
    · refine z_topi (y := 5) k5 ?_
      refine lv_tableIn (off := 417) (tgt := 450) hx hb dL_law_33 (by decide) (by decide) (by decide) (by decide) ?_
      refine lv_aload_n hx hb dL_law_450 rfl (lv_at hl 2 rfl) ?_
      refine lv_aload_n hx hb dL_law_451 rfl (lv_at hl 3 rfl) ?_
      refine lv_iload_n hx hb dL_law_452 rfl (lv_at hl 0 rfl) ?_
      refine lv_iconst (v := 1) hx hb dL_law_453 (by decide) ?_
      refine lv_iadd hx hb dL_law_454 ?_
      refine z_topi (y := 1) (by decide) ?_
      refine va_sld hx hb hX hbl hbA hw.2.2 (i := 1) (by unfold vp_in; decide) dL_law_455 ?_
      refine z2_k1i hw hA (va_runV (As := [.int (xs (1 : Int32).toNatClampNeg)]) (rest := []) hcf (c_X11_holds l cD cy _ r1 S1 hS1 hF1 ((xs (1 : Int32).toNatClampNeg))) (cwV 1 hts gL_law_X11_holds rfl rfl rfl (by decide +kernel) ⟨Nat.le_of_ble_eq_true rfl, Nat.le_of_ble_eq_true rfl⟩) (z_preV (k := 11) hK hE hw.l (cL hS1 0) (cK hS1 0) (by decide) rfl) rfl rfl hl.1 rfl (lv_room (Nat.le_of_ble_eq_true rfl)) dL_law_456 ⟨Nat.le_of_ble_eq_true rfl, Nat.le_of_ble_eq_true rfl⟩) (fun v1 S1 H locs hv1 hw => ?_)
      refine lv_aload_n hx hb dL_law_459 rfl (lv_at hl 1 rfl) ?_
      refine lv_aload_n hx hb dL_law_460 rfl (lv_at hl 3 rfl) ?_
      refine lv_iload_n hx hb dL_law_461 rfl (lv_at hl 0 rfl) ?_
      refine lv_iconst (v := 1) hx hb dL_law_462 (by decide) ?_
      refine lv_iadd hx hb dL_law_463 ?_
      refine z_topi (y := 1) (by decide) ?_
      refine va_sld hx hb hX hbl hbA hw.2.2 (i := 1) (by unfold vp_in; decide) dL_law_464 ?_
      refine z2_k2i hw hA (va_runV (As := [.int (xs (1 : Int32).toNatClampNeg)]) (rest := [.int v1]) hcf (c_X12_holds l cD cy _ r2 S2 hS2 hF2 ((xs (1 : Int32).toNatClampNeg))) (cwV 1 hts gL_law_X12_holds rfl rfl rfl (by decide +kernel) ⟨Nat.le_of_ble_eq_true rfl, Nat.le_of_ble_eq_true rfl⟩) (z_preV (k := 12) hK hE hw.r (mL hS2 0) (mK hS2 0) (by decide) rfl) rfl rfl hl.1 rfl (lv_room (Nat.le_of_ble_eq_true rfl)) dL_law_465 ⟨Nat.le_of_ble_eq_true rfl, Nat.le_of_ble_eq_true rfl⟩) (fun v2 S2 H locs hv2 hw => ?_)
      refine lv_icmp_eq (tgt := 1716) hx hb dL_law_468 (by decide) (fun _ => ?_) (fun q => absurd (hv1.trans hv2.symm) q)
      refine lv_iinc (v := 7) (lv' := [(3, .int 7), (2, .ref (r2 0)), (1, .ref (r1 0)), (0, .ref b)]) hx hb dL_law_1716 hl (k := 0) rfl (by decide) (by decide) rfl (fun ls hl => ?_)
      refine lv_goto (tgt := 18) hx hb dL_law_1719 (by decide) ?_
      refine lv_iload_n hx hb dL_law_18 rfl (lv_at hl 0 rfl) ?_
      refine lv_aload_n hx hb dL_law_19 rfl (lv_at hl 3 rfl) ?_
      refine va_slen hx hb hX hbl hbA hw.2.2 dL_law_20 ?_
      refine z_topi (y := 7) (by decide) ?_
      refine lv_bipush (v := 7) hx hb dL_law_21 (by decide) ?_
      refine lv_isub hx hb dL_law_23 ?_
      refine z_topi (y := 0) (by decide) ?_
      refine lv_icmp_gt (tgt := 1722) hx hb dL_law_24 (by decide) (fun _ => ?_) (fun c_24 => absurd c_24 (by decide))
      refine lv_iconst (v := 1) hx hb dL_law_1722 (by decide) ?_
      refine va_forget (fun q hq => hw.2.2.2.2 q hq) ?_
      refine W.widen (k := 600000) (n := 7302250) (Nat.le_of_ble_eq_true rfl) (Nat.le_of_ble_eq_true rfl) ?_
      exact lw_ret hx hb hr hlocks dL_law_1723
    by_cases k6 : k = 6
    · refine z_topi (y := 6) k6 ?_
      refine lv_tableIn (off := 440) (tgt := 473) hx hb dL_law_33 (by decide) (by decide) (by decide) (by decide) ?_
      refine lv_aload_n hx hb dL_law_473 rfl (lv_at hl 2 rfl) ?_
      refine lv_aload_n hx hb dL_law_474 rfl (lv_at hl 3 rfl) ?_
      refine lv_iload_n hx hb dL_law_475 rfl (lv_at hl 0 rfl) ?_
      refine lv_iconst (v := 1) hx hb dL_law_476 (by decide) ?_
      refine lv_iadd hx hb dL_law_477 ?_
      refine z_topi (y := 1) (by decide) ?_
      refine va_sld hx hb hX hbl hbA hw.2.2 (i := 1) (by unfold vp_in; decide) dL_law_478 ?_
      refine lv_aload_n hx hb dL_law_479 rfl (lv_at hl 3 rfl) ?_
      refine lv_iload_n hx hb dL_law_480 rfl (lv_at hl 0 rfl) ?_
      refine lv_iconst (v := 2) hx hb dL_law_481 (by decide) ?_
      refine lv_iadd hx hb dL_law_482 ?_
      refine z_topi (y := 2) (by decide) ?_
      refine va_sld hx hb hX hbl hbA hw.2.2 (i := 2) (by unfold vp_in; decide) dL_law_483 ?_
      refine z2_k1i hw hA (va_runV (As := [.int (xs (1 : Int32).toNatClampNeg), .int (xs (2 : Int32).toNatClampNeg)]) (rest := []) hcf (c_X11_says l cD cy _ r1 S1 hS1 hF1 ((xs (1 : Int32).toNatClampNeg)) ((xs (2 : Int32).toNatClampNeg))) (cwV 2 hts gL_law_X11_says rfl rfl rfl (by decide +kernel) ⟨Nat.le_of_ble_eq_true rfl, Nat.le_of_ble_eq_true rfl⟩) (z_preV (k := 11) hK hE hw.l (cL hS1 0) (cK hS1 0) (by decide) rfl) rfl rfl hl.1 rfl (lv_room (Nat.le_of_ble_eq_true rfl)) dL_law_484 ⟨Nat.le_of_ble_eq_true rfl, Nat.le_of_ble_eq_true rfl⟩) (fun v1 S1 H locs hv1 hw => ?_)
      refine lv_aload_n hx hb dL_law_487 rfl (lv_at hl 1 rfl) ?_
      refine lv_aload_n hx hb dL_law_488 rfl (lv_at hl 3 rfl) ?_
      refine lv_iload_n hx hb dL_law_489 rfl (lv_at hl 0 rfl) ?_
      refine lv_iconst (v := 1) hx hb dL_law_490 (by decide) ?_
      refine lv_iadd hx hb dL_law_491 ?_
      refine z_topi (y := 1) (by decide) ?_
      refine va_sld hx hb hX hbl hbA hw.2.2 (i := 1) (by unfold vp_in; decide) dL_law_492 ?_
      refine lv_aload_n hx hb dL_law_493 rfl (lv_at hl 3 rfl) ?_
      refine lv_iload_n hx hb dL_law_494 rfl (lv_at hl 0 rfl) ?_
      refine lv_iconst (v := 2) hx hb dL_law_495 (by decide) ?_
      refine lv_iadd hx hb dL_law_496 ?_
      refine z_topi (y := 2) (by decide) ?_
      refine va_sld hx hb hX hbl hbA hw.2.2 (i := 2) (by unfold vp_in; decide) dL_law_497 ?_
      refine z2_k2i hw hA (va_runV (As := [.int (xs (1 : Int32).toNatClampNeg), .int (xs (2 : Int32).toNatClampNeg)]) (rest := [.int v1]) hcf (c_X12_says l cD cy _ r2 S2 hS2 hF2 ((xs (1 : Int32).toNatClampNeg)) ((xs (2 : Int32).toNatClampNeg))) (cwV 2 hts gL_law_X12_says rfl rfl rfl (by decide +kernel) ⟨Nat.le_of_ble_eq_true rfl, Nat.le_of_ble_eq_true rfl⟩) (z_preV (k := 12) hK hE hw.r (mL hS2 0) (mK hS2 0) (by decide) rfl) rfl rfl hl.1 rfl (lv_room (Nat.le_of_ble_eq_true rfl)) dL_law_498 ⟨Nat.le_of_ble_eq_true rfl, Nat.le_of_ble_eq_true rfl⟩) (fun v2 S2 H locs hv2 hw => ?_)
      refine lv_icmp_eq (tgt := 1716) hx hb dL_law_501 (by decide) (fun _ => ?_) (fun q => absurd (hv1.trans hv2.symm) q)
      refine lv_iinc (v := 7) (lv' := [(3, .int 7), (2, .ref (r2 0)), (1, .ref (r1 0)), (0, .ref b)]) hx hb dL_law_1716 hl (k := 0) rfl (by decide) (by decide) rfl (fun ls hl => ?_)
      refine lv_goto (tgt := 18) hx hb dL_law_1719 (by decide) ?_
      refine lv_iload_n hx hb dL_law_18 rfl (lv_at hl 0 rfl) ?_
      refine lv_aload_n hx hb dL_law_19 rfl (lv_at hl 3 rfl) ?_
      refine va_slen hx hb hX hbl hbA hw.2.2 dL_law_20 ?_
      refine z_topi (y := 7) (by decide) ?_
      refine lv_bipush (v := 7) hx hb dL_law_21 (by decide) ?_
      refine lv_isub hx hb dL_law_23 ?_
      refine z_topi (y := 0) (by decide) ?_
      refine lv_icmp_gt (tgt := 1722) hx hb dL_law_24 (by decide) (fun _ => ?_) (fun c_24 => absurd c_24 (by decide))
      refine lv_iconst (v := 1) hx hb dL_law_1722 (by decide) ?_
      refine va_forget (fun q hq => hw.2.2.2.2 q hq) ?_
      refine W.widen (k := 600000) (n := 7302250) (Nat.le_of_ble_eq_true rfl) (Nat.le_of_ble_eq_true rfl) ?_
      exact lw_ret hx hb hr hlocks dL_law_1723
    by_cases k7 : k = 7
    · refine z_topi (y := 7) k7 ?_
      refine lv_tableIn (off := 473) (tgt := 506) hx hb dL_law_33 (by decide) (by decide) (by decide) (by decide) ?_
      refine lv_aload_n hx hb dL_law_506 rfl (lv_at hl 2 rfl) ?_
      refine lv_aload_n hx hb dL_law_507 rfl (lv_at hl 3 rfl) ?_
      refine lv_iload_n hx hb dL_law_508 rfl (lv_at hl 0 rfl) ?_
      refine lv_iconst (v := 1) hx hb dL_law_509 (by decide) ?_
      refine lv_iadd hx hb dL_law_510 ?_
      refine z_topi (y := 1) (by decide) ?_
      refine va_sld hx hb hX hbl hbA hw.2.2 (i := 1) (by unfold vp_in; decide) dL_law_511 ?_
      refine lv_aload_n hx hb dL_law_512 rfl (lv_at hl 3 rfl) ?_
      refine lv_iload_n hx hb dL_law_513 rfl (lv_at hl 0 rfl) ?_
      refine lv_iconst (v := 2) hx hb dL_law_514 (by decide) ?_
      refine lv_iadd hx hb dL_law_515 ?_
      refine z_topi (y := 2) (by decide) ?_
      refine va_sld hx hb hX hbl hbA hw.2.2 (i := 2) (by unfold vp_in; decide) dL_law_516 ?_
      refine lv_aload_n hx hb dL_law_517 rfl (lv_at hl 3 rfl) ?_
      refine lv_iload_n hx hb dL_law_518 rfl (lv_at hl 0 rfl) ?_
      refine lv_iconst (v := 3) hx hb dL_law_519 (by decide) ?_
      refine lv_iadd hx hb dL_law_520 ?_
      refine z_topi (y := 3) (by decide) ?_
      refine va_sld hx hb hX hbl hbA hw.2.2 (i := 3) (by unfold vp_in; decide) dL_law_521 ?_
      refine lv_aload_n hx hb dL_law_522 rfl (lv_at hl 3 rfl) ?_
      refine lv_iload_n hx hb dL_law_523 rfl (lv_at hl 0 rfl) ?_
      refine lv_iconst (v := 4) hx hb dL_law_524 (by decide) ?_
      refine lv_iadd hx hb dL_law_525 ?_
      refine z_topi (y := 4) (by decide) ?_
      refine va_sld hx hb hX hbl hbA hw.2.2 (i := 4) (by unfold vp_in; decide) dL_law_526 ?_
      refine z2_k1i hw hA (va_runV (As := [.int (xs (1 : Int32).toNatClampNeg), .int (xs (2 : Int32).toNatClampNeg), .int (xs (3 : Int32).toNatClampNeg), .int (xs (4 : Int32).toNatClampNeg)]) (rest := []) hcf (c_X11_strip l cD cy _ r1 S1 hS1 hF1 ((xs (1 : Int32).toNatClampNeg)) ((xs (2 : Int32).toNatClampNeg)) ((xs (3 : Int32).toNatClampNeg)) ((xs (4 : Int32).toNatClampNeg))) (cwV 4 hts gL_law_X11_strip rfl rfl rfl (by decide +kernel) ⟨Nat.le_of_ble_eq_true rfl, Nat.le_of_ble_eq_true rfl⟩) (z_preV (k := 11) hK hE hw.l (cL hS1 0) (cK hS1 0) (by decide) rfl) rfl rfl hl.1 rfl (lv_room (Nat.le_of_ble_eq_true rfl)) dL_law_527 ⟨Nat.le_of_ble_eq_true rfl, Nat.le_of_ble_eq_true rfl⟩) (fun v1 S1 H locs hv1 hw => ?_)
      refine lv_aload_n hx hb dL_law_530 rfl (lv_at hl 1 rfl) ?_
      refine lv_aload_n hx hb dL_law_531 rfl (lv_at hl 3 rfl) ?_
      refine lv_iload_n hx hb dL_law_532 rfl (lv_at hl 0 rfl) ?_
      refine lv_iconst (v := 1) hx hb dL_law_533 (by decide) ?_
      refine lv_iadd hx hb dL_law_534 ?_
      refine z_topi (y := 1) (by decide) ?_
      refine va_sld hx hb hX hbl hbA hw.2.2 (i := 1) (by unfold vp_in; decide) dL_law_535 ?_
      refine lv_aload_n hx hb dL_law_536 rfl (lv_at hl 3 rfl) ?_
      refine lv_iload_n hx hb dL_law_537 rfl (lv_at hl 0 rfl) ?_
      refine lv_iconst (v := 2) hx hb dL_law_538 (by decide) ?_
      refine lv_iadd hx hb dL_law_539 ?_
      refine z_topi (y := 2) (by decide) ?_
      refine va_sld hx hb hX hbl hbA hw.2.2 (i := 2) (by unfold vp_in; decide) dL_law_540 ?_
      refine lv_aload_n hx hb dL_law_541 rfl (lv_at hl 3 rfl) ?_
      refine lv_iload_n hx hb dL_law_542 rfl (lv_at hl 0 rfl) ?_
      refine lv_iconst (v := 3) hx hb dL_law_543 (by decide) ?_
      refine lv_iadd hx hb dL_law_544 ?_
      refine z_topi (y := 3) (by decide) ?_
      refine va_sld hx hb hX hbl hbA hw.2.2 (i := 3) (by unfold vp_in; decide) dL_law_545 ?_
      refine lv_aload_n hx hb dL_law_546 rfl (lv_at hl 3 rfl) ?_
      refine lv_iload_n hx hb dL_law_547 rfl (lv_at hl 0 rfl) ?_
      refine lv_iconst (v := 4) hx hb dL_law_548 (by decide) ?_
      refine lv_iadd hx hb dL_law_549 ?_
      refine z_topi (y := 4) (by decide) ?_
      refine va_sld hx hb hX hbl hbA hw.2.2 (i := 4) (by unfold vp_in; decide) dL_law_550 ?_
      refine z2_k2i hw hA (va_runV (As := [.int (xs (1 : Int32).toNatClampNeg), .int (xs (2 : Int32).toNatClampNeg), .int (xs (3 : Int32).toNatClampNeg), .int (xs (4 : Int32).toNatClampNeg)]) (rest := [.int v1]) hcf (c_X12_strip l cD cy _ r2 S2 hS2 hF2 ((xs (1 : Int32).toNatClampNeg)) ((xs (2 : Int32).toNatClampNeg)) ((xs (3 : Int32).toNatClampNeg)) ((xs (4 : Int32).toNatClampNeg))) (cwV 4 hts gL_law_X12_strip rfl rfl rfl (by decide +kernel) ⟨Nat.le_of_ble_eq_true rfl, Nat.le_of_ble_eq_true rfl⟩) (z_preV (k := 12) hK hE hw.r (mL hS2 0) (mK hS2 0) (by decide) rfl) rfl rfl hl.1 rfl (lv_room (Nat.le_of_ble_eq_true rfl)) dL_law_551 ⟨Nat.le_of_ble_eq_true rfl, Nat.le_of_ble_eq_true rfl⟩) (fun v2 S2 H locs hv2 hw => ?_)
      refine lv_icmp_eq (tgt := 1716) hx hb dL_law_554 (by decide) (fun _ => ?_) (fun q => absurd (hv1.trans hv2.symm) q)
      refine lv_iinc (v := 7) (lv' := [(3, .int 7), (2, .ref (r2 0)), (1, .ref (r1 0)), (0, .ref b)]) hx hb dL_law_1716 hl (k := 0) rfl (by decide) (by decide) rfl (fun ls hl => ?_)
      refine lv_goto (tgt := 18) hx hb dL_law_1719 (by decide) ?_
      refine lv_iload_n hx hb dL_law_18 rfl (lv_at hl 0 rfl) ?_
      refine lv_aload_n hx hb dL_law_19 rfl (lv_at hl 3 rfl) ?_
      refine va_slen hx hb hX hbl hbA hw.2.2 dL_law_20 ?_
      refine z_topi (y := 7) (by decide) ?_
      refine lv_bipush (v := 7) hx hb dL_law_21 (by decide) ?_
      refine lv_isub hx hb dL_law_23 ?_
      refine z_topi (y := 0) (by decide) ?_
      refine lv_icmp_gt (tgt := 1722) hx hb dL_law_24 (by decide) (fun _ => ?_) (fun c_24 => absurd c_24 (by decide))
      refine lv_iconst (v := 1) hx hb dL_law_1722 (by decide) ?_
      refine va_forget (fun q hq => hw.2.2.2.2 q hq) ?_
      refine W.widen (k := 600000) (n := 7302250) (Nat.le_of_ble_eq_true rfl) (Nat.le_of_ble_eq_true rfl) ?_
      exact lw_ret hx hb hr hlocks dL_law_1723
    by_cases k8 : k = 8
    · refine z_topi (y := 8) k8 ?_
      refine lv_tableIn (off := 526) (tgt := 559) hx hb dL_law_33 (by decide) (by decide) (by decide) (by decide) ?_
      refine lv_aload_n hx hb dL_law_559 rfl (lv_at hl 2 rfl) ?_
      refine lv_aload_n hx hb dL_law_560 rfl (lv_at hl 3 rfl) ?_
      refine lv_iload_n hx hb dL_law_561 rfl (lv_at hl 0 rfl) ?_
      refine lv_iconst (v := 1) hx hb dL_law_562 (by decide) ?_
      refine lv_iadd hx hb dL_law_563 ?_
      refine z_topi (y := 1) (by decide) ?_
      refine va_sld hx hb hX hbl hbA hw.2.2 (i := 1) (by unfold vp_in; decide) dL_law_564 ?_
      refine lv_aload_n hx hb dL_law_565 rfl (lv_at hl 3 rfl) ?_
      refine lv_iload_n hx hb dL_law_566 rfl (lv_at hl 0 rfl) ?_
      refine lv_iconst (v := 2) hx hb dL_law_567 (by decide) ?_
      refine lv_iadd hx hb dL_law_568 ?_
      refine z_topi (y := 2) (by decide) ?_
      refine va_sld hx hb hX hbl hbA hw.2.2 (i := 2) (by unfold vp_in; decide) dL_law_569 ?_
      refine z2_k1i hw hA (va_runV (As := [.int (xs (1 : Int32).toNatClampNeg), .int (xs (2 : Int32).toNatClampNeg)]) (rest := []) hcf (c_X11_stripOf l cD cy _ r1 S1 hS1 hF1 ((xs (1 : Int32).toNatClampNeg)) ((xs (2 : Int32).toNatClampNeg))) (cwV 2 hts gL_law_X11_stripOf rfl rfl rfl (by decide +kernel) ⟨Nat.le_of_ble_eq_true rfl, Nat.le_of_ble_eq_true rfl⟩) (z_preV (k := 11) hK hE hw.l (cL hS1 0) (cK hS1 0) (by decide) rfl) rfl rfl hl.1 rfl (lv_room (Nat.le_of_ble_eq_true rfl)) dL_law_570 ⟨Nat.le_of_ble_eq_true rfl, Nat.le_of_ble_eq_true rfl⟩) (fun v1 S1 H locs hv1 hw => ?_)
      refine lv_aload_n hx hb dL_law_573 rfl (lv_at hl 1 rfl) ?_
      refine lv_aload_n hx hb dL_law_574 rfl (lv_at hl 3 rfl) ?_
      refine lv_iload_n hx hb dL_law_575 rfl (lv_at hl 0 rfl) ?_
      refine lv_iconst (v := 1) hx hb dL_law_576 (by decide) ?_
      refine lv_iadd hx hb dL_law_577 ?_
      refine z_topi (y := 1) (by decide) ?_
      refine va_sld hx hb hX hbl hbA hw.2.2 (i := 1) (by unfold vp_in; decide) dL_law_578 ?_
      refine lv_aload_n hx hb dL_law_579 rfl (lv_at hl 3 rfl) ?_
      refine lv_iload_n hx hb dL_law_580 rfl (lv_at hl 0 rfl) ?_
      refine lv_iconst (v := 2) hx hb dL_law_581 (by decide) ?_
      refine lv_iadd hx hb dL_law_582 ?_
      refine z_topi (y := 2) (by decide) ?_
      refine va_sld hx hb hX hbl hbA hw.2.2 (i := 2) (by unfold vp_in; decide) dL_law_583 ?_
      refine z2_k2i hw hA (va_runV (As := [.int (xs (1 : Int32).toNatClampNeg), .int (xs (2 : Int32).toNatClampNeg)]) (rest := [.int v1]) hcf (c_X12_stripOf l cD cy _ r2 S2 hS2 hF2 ((xs (1 : Int32).toNatClampNeg)) ((xs (2 : Int32).toNatClampNeg))) (cwV 2 hts gL_law_X12_stripOf rfl rfl rfl (by decide +kernel) ⟨Nat.le_of_ble_eq_true rfl, Nat.le_of_ble_eq_true rfl⟩) (z_preV (k := 12) hK hE hw.r (mL hS2 0) (mK hS2 0) (by decide) rfl) rfl rfl hl.1 rfl (lv_room (Nat.le_of_ble_eq_true rfl)) dL_law_584 ⟨Nat.le_of_ble_eq_true rfl, Nat.le_of_ble_eq_true rfl⟩) (fun v2 S2 H locs hv2 hw => ?_)
      refine lv_icmp_eq (tgt := 1716) hx hb dL_law_587 (by decide) (fun _ => ?_) (fun q => absurd (hv1.trans hv2.symm) q)
      refine lv_iinc (v := 7) (lv' := [(3, .int 7), (2, .ref (r2 0)), (1, .ref (r1 0)), (0, .ref b)]) hx hb dL_law_1716 hl (k := 0) rfl (by decide) (by decide) rfl (fun ls hl => ?_)
      refine lv_goto (tgt := 18) hx hb dL_law_1719 (by decide) ?_
      refine lv_iload_n hx hb dL_law_18 rfl (lv_at hl 0 rfl) ?_
      refine lv_aload_n hx hb dL_law_19 rfl (lv_at hl 3 rfl) ?_
      refine va_slen hx hb hX hbl hbA hw.2.2 dL_law_20 ?_
      refine z_topi (y := 7) (by decide) ?_
      refine lv_bipush (v := 7) hx hb dL_law_21 (by decide) ?_
      refine lv_isub hx hb dL_law_23 ?_
      refine z_topi (y := 0) (by decide) ?_
      refine lv_icmp_gt (tgt := 1722) hx hb dL_law_24 (by decide) (fun _ => ?_) (fun c_24 => absurd c_24 (by decide))
      refine lv_iconst (v := 1) hx hb dL_law_1722 (by decide) ?_
      refine va_forget (fun q hq => hw.2.2.2.2 q hq) ?_
      refine W.widen (k := 600000) (n := 7302250) (Nat.le_of_ble_eq_true rfl) (Nat.le_of_ble_eq_true rfl) ?_
      exact lw_ret hx hb hr hlocks dL_law_1723
    by_cases k9 : k = 9
    · refine z_topi (y := 9) k9 ?_
      refine lv_tableIn (off := 559) (tgt := 592) hx hb dL_law_33 (by decide) (by decide) (by decide) (by decide) ?_
      refine lv_aload_n hx hb dL_law_592 rfl (lv_at hl 2 rfl) ?_
      refine lv_aload_n hx hb dL_law_593 rfl (lv_at hl 3 rfl) ?_
      refine lv_iload_n hx hb dL_law_594 rfl (lv_at hl 0 rfl) ?_
      refine lv_iconst (v := 1) hx hb dL_law_595 (by decide) ?_
      refine lv_iadd hx hb dL_law_596 ?_
      refine z_topi (y := 1) (by decide) ?_
      refine va_sld hx hb hX hbl hbA hw.2.2 (i := 1) (by unfold vp_in; decide) dL_law_597 ?_
      refine lv_aload_n hx hb dL_law_598 rfl (lv_at hl 3 rfl) ?_
      refine lv_iload_n hx hb dL_law_599 rfl (lv_at hl 0 rfl) ?_
      refine lv_iconst (v := 2) hx hb dL_law_600 (by decide) ?_
      refine lv_iadd hx hb dL_law_601 ?_
      refine z_topi (y := 2) (by decide) ?_
      refine va_sld hx hb hX hbl hbA hw.2.2 (i := 2) (by unfold vp_in; decide) dL_law_602 ?_
      refine z2_k1i hw hA (va_runV (As := [.int (xs (1 : Int32).toNatClampNeg), .int (xs (2 : Int32).toNatClampNeg)]) (rest := []) hcf (c_X11_turn l cD cy _ r1 S1 hS1 hF1 ((xs (1 : Int32).toNatClampNeg)) ((xs (2 : Int32).toNatClampNeg))) (cwV 2 hts gL_law_X11_turn rfl rfl rfl (by decide +kernel) ⟨Nat.le_of_ble_eq_true rfl, Nat.le_of_ble_eq_true rfl⟩) (z_preV (k := 11) hK hE hw.l (cL hS1 0) (cK hS1 0) (by decide) rfl) rfl rfl hl.1 rfl (lv_room (Nat.le_of_ble_eq_true rfl)) dL_law_603 ⟨Nat.le_of_ble_eq_true rfl, Nat.le_of_ble_eq_true rfl⟩) (fun v1 S1 H locs hv1 hw => ?_)
      refine lv_aload_n hx hb dL_law_606 rfl (lv_at hl 1 rfl) ?_
      refine lv_aload_n hx hb dL_law_607 rfl (lv_at hl 3 rfl) ?_
      refine lv_iload_n hx hb dL_law_608 rfl (lv_at hl 0 rfl) ?_
      refine lv_iconst (v := 1) hx hb dL_law_609 (by decide) ?_
      refine lv_iadd hx hb dL_law_610 ?_
      refine z_topi (y := 1) (by decide) ?_
      refine va_sld hx hb hX hbl hbA hw.2.2 (i := 1) (by unfold vp_in; decide) dL_law_611 ?_
      refine lv_aload_n hx hb dL_law_612 rfl (lv_at hl 3 rfl) ?_
      refine lv_iload_n hx hb dL_law_613 rfl (lv_at hl 0 rfl) ?_
      refine lv_iconst (v := 2) hx hb dL_law_614 (by decide) ?_
      refine lv_iadd hx hb dL_law_615 ?_
      refine z_topi (y := 2) (by decide) ?_
      refine va_sld hx hb hX hbl hbA hw.2.2 (i := 2) (by unfold vp_in; decide) dL_law_616 ?_
      refine z2_k2i hw hA (va_runV (As := [.int (xs (1 : Int32).toNatClampNeg), .int (xs (2 : Int32).toNatClampNeg)]) (rest := [.int v1]) hcf (c_X12_turn l cD cy _ r2 S2 hS2 hF2 ((xs (1 : Int32).toNatClampNeg)) ((xs (2 : Int32).toNatClampNeg))) (cwV 2 hts gL_law_X12_turn rfl rfl rfl (by decide +kernel) ⟨Nat.le_of_ble_eq_true rfl, Nat.le_of_ble_eq_true rfl⟩) (z_preV (k := 12) hK hE hw.r (mL hS2 0) (mK hS2 0) (by decide) rfl) rfl rfl hl.1 rfl (lv_room (Nat.le_of_ble_eq_true rfl)) dL_law_617 ⟨Nat.le_of_ble_eq_true rfl, Nat.le_of_ble_eq_true rfl⟩) (fun v2 S2 H locs hv2 hw => ?_)
      refine lv_icmp_eq (tgt := 1716) hx hb dL_law_620 (by decide) (fun _ => ?_) (fun q => absurd (hv1.trans hv2.symm) q)
      refine lv_iinc (v := 7) (lv' := [(3, .int 7), (2, .ref (r2 0)), (1, .ref (r1 0)), (0, .ref b)]) hx hb dL_law_1716 hl (k := 0) rfl (by decide) (by decide) rfl (fun ls hl => ?_)
      refine lv_goto (tgt := 18) hx hb dL_law_1719 (by decide) ?_
      refine lv_iload_n hx hb dL_law_18 rfl (lv_at hl 0 rfl) ?_
      refine lv_aload_n hx hb dL_law_19 rfl (lv_at hl 3 rfl) ?_
      refine va_slen hx hb hX hbl hbA hw.2.2 dL_law_20 ?_
      refine z_topi (y := 7) (by decide) ?_
      refine lv_bipush (v := 7) hx hb dL_law_21 (by decide) ?_
      refine lv_isub hx hb dL_law_23 ?_
      refine z_topi (y := 0) (by decide) ?_
      refine lv_icmp_gt (tgt := 1722) hx hb dL_law_24 (by decide) (fun _ => ?_) (fun c_24 => absurd c_24 (by decide))
      refine lv_iconst (v := 1) hx hb dL_law_1722 (by decide) ?_
      refine va_forget (fun q hq => hw.2.2.2.2 q hq) ?_
      refine W.widen (k := 600000) (n := 7302250) (Nat.le_of_ble_eq_true rfl) (Nat.le_of_ble_eq_true rfl) ?_
      exact lw_ret hx hb hr hlocks dL_law_1723
    by_cases k10 : k = 10
    · refine z_topi (y := 10) k10 ?_
      refine lv_tableIn (off := 592) (tgt := 625) hx hb dL_law_33 (by decide) (by decide) (by decide) (by decide) ?_
      refine lv_aload_n hx hb dL_law_625 rfl (lv_at hl 2 rfl) ?_
      refine lv_aload_n hx hb dL_law_626 rfl (lv_at hl 3 rfl) ?_
      refine lv_iload_n hx hb dL_law_627 rfl (lv_at hl 0 rfl) ?_
      refine lv_iconst (v := 1) hx hb dL_law_628 (by decide) ?_
      refine lv_iadd hx hb dL_law_629 ?_
      refine z_topi (y := 1) (by decide) ?_
      refine va_sld hx hb hX hbl hbA hw.2.2 (i := 1) (by unfold vp_in; decide) dL_law_630 ?_
      refine z2_k1i hw hA (va_runV (As := [.int (xs (1 : Int32).toNatClampNeg)]) (rest := []) hcf (c_X11_read l cD cy _ r1 S1 hS1 hF1 ((xs (1 : Int32).toNatClampNeg))) (cwV 1 hts gL_law_X11_read rfl rfl rfl (by decide +kernel) ⟨Nat.le_of_ble_eq_true rfl, Nat.le_of_ble_eq_true rfl⟩) (z_preV (k := 11) hK hE hw.l (cL hS1 0) (cK hS1 0) (by decide) rfl) rfl rfl hl.1 rfl (lv_room (Nat.le_of_ble_eq_true rfl)) dL_law_631 ⟨Nat.le_of_ble_eq_true rfl, Nat.le_of_ble_eq_true rfl⟩) (fun v1 S1 H locs hv1 hw => ?_)
      refine lv_aload_n hx hb dL_law_634 rfl (lv_at hl 1 rfl) ?_
      refine lv_aload_n hx hb dL_law_635 rfl (lv_at hl 3 rfl) ?_
      refine lv_iload_n hx hb dL_law_636 rfl (lv_at hl 0 rfl) ?_
      refine lv_iconst (v := 1) hx hb dL_law_637 (by decide) ?_
      refine lv_iadd hx hb dL_law_638 ?_
      refine z_topi (y := 1) (by decide) ?_
      refine va_sld hx hb hX hbl hbA hw.2.2 (i := 1) (by unfold vp_in; decide) dL_law_639 ?_
      refine z2_k2i hw hA (va_runV (As := [.int (xs (1 : Int32).toNatClampNeg)]) (rest := [.int v1]) hcf (c_X12_read l cD cy _ r2 S2 hS2 hF2 ((xs (1 : Int32).toNatClampNeg))) (cwV 1 hts gL_law_X12_read rfl rfl rfl (by decide +kernel) ⟨Nat.le_of_ble_eq_true rfl, Nat.le_of_ble_eq_true rfl⟩) (z_preV (k := 12) hK hE hw.r (mL hS2 0) (mK hS2 0) (by decide) rfl) rfl rfl hl.1 rfl (lv_room (Nat.le_of_ble_eq_true rfl)) dL_law_640 ⟨Nat.le_of_ble_eq_true rfl, Nat.le_of_ble_eq_true rfl⟩) (fun v2 S2 H locs hv2 hw => ?_)
      refine lv_icmp_eq (tgt := 1716) hx hb dL_law_643 (by decide) (fun _ => ?_) (fun q => absurd (hv1.trans hv2.symm) q)
      refine lv_iinc (v := 7) (lv' := [(3, .int 7), (2, .ref (r2 0)), (1, .ref (r1 0)), (0, .ref b)]) hx hb dL_law_1716 hl (k := 0) rfl (by decide) (by decide) rfl (fun ls hl => ?_)
      refine lv_goto (tgt := 18) hx hb dL_law_1719 (by decide) ?_
      refine lv_iload_n hx hb dL_law_18 rfl (lv_at hl 0 rfl) ?_
      refine lv_aload_n hx hb dL_law_19 rfl (lv_at hl 3 rfl) ?_
      refine va_slen hx hb hX hbl hbA hw.2.2 dL_law_20 ?_
      refine z_topi (y := 7) (by decide) ?_
      refine lv_bipush (v := 7) hx hb dL_law_21 (by decide) ?_
      refine lv_isub hx hb dL_law_23 ?_
      refine z_topi (y := 0) (by decide) ?_
      refine lv_icmp_gt (tgt := 1722) hx hb dL_law_24 (by decide) (fun _ => ?_) (fun c_24 => absurd c_24 (by decide))
      refine lv_iconst (v := 1) hx hb dL_law_1722 (by decide) ?_
      refine va_forget (fun q hq => hw.2.2.2.2 q hq) ?_
      refine W.widen (k := 600000) (n := 7302250) (Nat.le_of_ble_eq_true rfl) (Nat.le_of_ble_eq_true rfl) ?_
      exact lw_ret hx hb hr hlocks dL_law_1723
    by_cases k11 : k = 11
    · refine z_topi (y := 11) k11 ?_
      refine lv_tableIn (off := 615) (tgt := 648) hx hb dL_law_33 (by decide) (by decide) (by decide) (by decide) ?_
      refine lv_aload_n hx hb dL_law_648 rfl (lv_at hl 2 rfl) ?_
      refine z2_k1i hw hA (va_runV (As := []) (rest := []) hcf (c_X11_fault l cD cy _ r1 S1 hS1 hF1 ) (cwV 0 hts gL_law_X11_fault rfl rfl rfl (by decide +kernel) ⟨Nat.le_of_ble_eq_true rfl, Nat.le_of_ble_eq_true rfl⟩) (z_preV (k := 11) hK hE hw.l (cL hS1 0) (cK hS1 0) (by decide) rfl) rfl rfl hl.1 rfl (lv_room (Nat.le_of_ble_eq_true rfl)) dL_law_649 ⟨Nat.le_of_ble_eq_true rfl, Nat.le_of_ble_eq_true rfl⟩) (fun v1 S1 H locs hv1 hw => ?_)
      refine lv_aload_n hx hb dL_law_652 rfl (lv_at hl 1 rfl) ?_
      refine z2_k2i hw hA (va_runV (As := []) (rest := [.int v1]) hcf (c_X12_fault l cD cy _ r2 S2 hS2 hF2 ) (cwV 0 hts gL_law_X12_fault rfl rfl rfl (by decide +kernel) ⟨Nat.le_of_ble_eq_true rfl, Nat.le_of_ble_eq_true rfl⟩) (z_preV (k := 12) hK hE hw.r (mL hS2 0) (mK hS2 0) (by decide) rfl) rfl rfl hl.1 rfl (lv_room (Nat.le_of_ble_eq_true rfl)) dL_law_653 ⟨Nat.le_of_ble_eq_true rfl, Nat.le_of_ble_eq_true rfl⟩) (fun v2 S2 H locs hv2 hw => ?_)
      refine lv_icmp_eq (tgt := 1716) hx hb dL_law_656 (by decide) (fun _ => ?_) (fun q => absurd (hv1.trans hv2.symm) q)
      refine lv_iinc (v := 7) (lv' := [(3, .int 7), (2, .ref (r2 0)), (1, .ref (r1 0)), (0, .ref b)]) hx hb dL_law_1716 hl (k := 0) rfl (by decide) (by decide) rfl (fun ls hl => ?_)
      refine lv_goto (tgt := 18) hx hb dL_law_1719 (by decide) ?_
      refine lv_iload_n hx hb dL_law_18 rfl (lv_at hl 0 rfl) ?_
      refine lv_aload_n hx hb dL_law_19 rfl (lv_at hl 3 rfl) ?_
      refine va_slen hx hb hX hbl hbA hw.2.2 dL_law_20 ?_
      refine z_topi (y := 7) (by decide) ?_
      refine lv_bipush (v := 7) hx hb dL_law_21 (by decide) ?_
      refine lv_isub hx hb dL_law_23 ?_
      refine z_topi (y := 0) (by decide) ?_
      refine lv_icmp_gt (tgt := 1722) hx hb dL_law_24 (by decide) (fun _ => ?_) (fun c_24 => absurd c_24 (by decide))
      refine lv_iconst (v := 1) hx hb dL_law_1722 (by decide) ?_
      refine va_forget (fun q hq => hw.2.2.2.2 q hq) ?_
      refine W.widen (k := 600000) (n := 7302250) (Nat.le_of_ble_eq_true rfl) (Nat.le_of_ble_eq_true rfl) ?_
      exact lw_ret hx hb hr hlocks dL_law_1723
    by_cases k12 : k = 12
    · refine z_topi (y := 12) k12 ?_
      refine lv_tableIn (off := 628) (tgt := 661) hx hb dL_law_33 (by decide) (by decide) (by decide) (by decide) ?_
      refine lv_aload_n hx hb dL_law_661 rfl (lv_at hl 2 rfl) ?_
      refine lv_aload_n hx hb dL_law_662 rfl (lv_at hl 3 rfl) ?_
      refine lv_iload_n hx hb dL_law_663 rfl (lv_at hl 0 rfl) ?_
      refine lv_iconst (v := 1) hx hb dL_law_664 (by decide) ?_
      refine lv_iadd hx hb dL_law_665 ?_
      refine z_topi (y := 1) (by decide) ?_
      refine va_sld hx hb hX hbl hbA hw.2.2 (i := 1) (by unfold vp_in; decide) dL_law_666 ?_
      refine z2_k1l hw hA (va_runV (As := [.int (xs (1 : Int32).toNatClampNeg)]) (rest := []) hcf (c_X11_creases l cD cy _ r1 S1 hS1 hF1 ((xs (1 : Int32).toNatClampNeg))) (cwV 1 hts gL_law_X11_creases rfl rfl rfl (by decide +kernel) ⟨Nat.le_of_ble_eq_true rfl, Nat.le_of_ble_eq_true rfl⟩) (z_preV (k := 11) hK hE hw.l (cL hS1 0) (cK hS1 0) (by decide) rfl) rfl rfl hl.1 rfl (lv_room (Nat.le_of_ble_eq_true rfl)) dL_law_667 ⟨Nat.le_of_ble_eq_true rfl, Nat.le_of_ble_eq_true rfl⟩) (fun v1 S1 H locs hv1 hw => ?_)
      refine lv_aload_n hx hb dL_law_670 rfl (lv_at hl 1 rfl) ?_
      refine lv_aload_n hx hb dL_law_671 rfl (lv_at hl 3 rfl) ?_
      refine lv_iload_n hx hb dL_law_672 rfl (lv_at hl 0 rfl) ?_
      refine lv_iconst (v := 1) hx hb dL_law_673 (by decide) ?_
      refine lv_iadd hx hb dL_law_674 ?_
      refine z_topi (y := 1) (by decide) ?_
      refine va_sld hx hb hX hbl hbA hw.2.2 (i := 1) (by unfold vp_in; decide) dL_law_675 ?_
      refine z2_k2l hw hA (va_runV (As := [.int (xs (1 : Int32).toNatClampNeg)]) (rest := [.long v1]) hcf (c_X12_creases l cD cy _ r2 S2 hS2 hF2 ((xs (1 : Int32).toNatClampNeg))) (cwV 1 hts gL_law_X12_creases rfl rfl rfl (by decide +kernel) ⟨Nat.le_of_ble_eq_true rfl, Nat.le_of_ble_eq_true rfl⟩) (z_preV (k := 12) hK hE hw.r (mL hS2 0) (mK hS2 0) (by decide) rfl) rfl rfl hl.1 rfl (lv_room (Nat.le_of_ble_eq_true rfl)) dL_law_676 ⟨Nat.le_of_ble_eq_true rfl, Nat.le_of_ble_eq_true rfl⟩) (fun v2 S2 H locs hv2 hw => ?_)
      refine z_lc_eq (tgt := 1716) hx hb dL_law_679 dL_law_680 (by decide) (fun _ => ?_) (fun q => absurd (hv1.trans hv2.symm) q)
      refine lv_iinc (v := 7) (lv' := [(3, .int 7), (2, .ref (r2 0)), (1, .ref (r1 0)), (0, .ref b)]) hx hb dL_law_1716 hl (k := 0) rfl (by decide) (by decide) rfl (fun ls hl => ?_)
      refine lv_goto (tgt := 18) hx hb dL_law_1719 (by decide) ?_
      refine lv_iload_n hx hb dL_law_18 rfl (lv_at hl 0 rfl) ?_
      refine lv_aload_n hx hb dL_law_19 rfl (lv_at hl 3 rfl) ?_
      refine va_slen hx hb hX hbl hbA hw.2.2 dL_law_20 ?_
      refine z_topi (y := 7) (by decide) ?_
      refine lv_bipush (v := 7) hx hb dL_law_21 (by decide) ?_
      refine lv_isub hx hb dL_law_23 ?_
      refine z_topi (y := 0) (by decide) ?_
      refine lv_icmp_gt (tgt := 1722) hx hb dL_law_24 (by decide) (fun _ => ?_) (fun c_24 => absurd c_24 (by decide))
      refine lv_iconst (v := 1) hx hb dL_law_1722 (by decide) ?_
      refine va_forget (fun q hq => hw.2.2.2.2 q hq) ?_
      refine W.widen (k := 600000) (n := 7302250) (Nat.le_of_ble_eq_true rfl) (Nat.le_of_ble_eq_true rfl) ?_
      exact lw_ret hx hb hr hlocks dL_law_1723
    by_cases k13 : k = 13
    · refine z_topi (y := 13) k13 ?_
      refine lv_tableIn (off := 652) (tgt := 685) hx hb dL_law_33 (by decide) (by decide) (by decide) (by decide) ?_
      refine lv_aload_n hx hb dL_law_685 rfl (lv_at hl 2 rfl) ?_
      refine lv_aload_n hx hb dL_law_686 rfl (lv_at hl 3 rfl) ?_
      refine lv_iload_n hx hb dL_law_687 rfl (lv_at hl 0 rfl) ?_
      refine lv_iconst (v := 1) hx hb dL_law_688 (by decide) ?_
      refine lv_iadd hx hb dL_law_689 ?_
      refine z_topi (y := 1) (by decide) ?_
      refine va_sld hx hb hX hbl hbA hw.2.2 (i := 1) (by unfold vp_in; decide) dL_law_690 ?_
      refine lv_aload_n hx hb dL_law_691 rfl (lv_at hl 3 rfl) ?_
      refine lv_iload_n hx hb dL_law_692 rfl (lv_at hl 0 rfl) ?_
      refine lv_iconst (v := 2) hx hb dL_law_693 (by decide) ?_
      refine lv_iadd hx hb dL_law_694 ?_
      refine z_topi (y := 2) (by decide) ?_
      refine va_sld hx hb hX hbl hbA hw.2.2 (i := 2) (by unfold vp_in; decide) dL_law_695 ?_
      refine lv_i2l (v := ((xs (2 : Int32).toNatClampNeg) : Int32).toInt64) hx hb dL_law_696 rfl ?_
      refine lv_bipush (v := 32) hx hb dL_law_697 (by decide) ?_
      refine lv_lshl (v := ((((xs (2 : Int32).toNatClampNeg) : Int32).toInt64 : Int64) <<< ((32 : Int32).toInt64 &&& 63))) hx hb dL_law_699 rfl ?_
      refine lv_aload_n hx hb dL_law_700 rfl (lv_at hl 3 rfl) ?_
      refine lv_iload_n hx hb dL_law_701 rfl (lv_at hl 0 rfl) ?_
      refine lv_iconst (v := 3) hx hb dL_law_702 (by decide) ?_
      refine lv_iadd hx hb dL_law_703 ?_
      refine z_topi (y := 3) (by decide) ?_
      refine va_sld hx hb hX hbl hbA hw.2.2 (i := 3) (by unfold vp_in; decide) dL_law_704 ?_
      refine lv_i2l (v := ((xs (3 : Int32).toNatClampNeg) : Int32).toInt64) hx hb dL_law_705 rfl ?_
      refine lv_ldc2 (v := 4294967295) hx hb hown (hts (.constantLong RL 18 4294967295) (by decide +kernel)) dL_law_706 ?_
      refine lv_land hx hb dL_law_709 ?_
      refine lv_lor hx hb dL_law_710 ?_
      refine z2_k1i hw hA (va_runV (As := [.int (xs (1 : Int32).toNatClampNeg), .long (((((xs (2 : Int32).toNatClampNeg) : Int32).toInt64 : Int64) <<< ((32 : Int32).toInt64 &&& 63)) ||| (((xs (3 : Int32).toNatClampNeg) : Int32).toInt64 &&& 4294967295))]) (rest := []) hcf (c_X11_crease l cD cy _ r1 S1 hS1 hF1 ((xs (1 : Int32).toNatClampNeg)) ((((((xs (2 : Int32).toNatClampNeg) : Int32).toInt64 : Int64) <<< ((32 : Int32).toInt64 &&& 63)) ||| (((xs (3 : Int32).toNatClampNeg) : Int32).toInt64 &&& 4294967295)))) (cwV 2 hts gL_law_X11_crease rfl rfl rfl (by decide +kernel) ⟨Nat.le_of_ble_eq_true rfl, Nat.le_of_ble_eq_true rfl⟩) (z_preV (k := 11) hK hE hw.l (cL hS1 0) (cK hS1 0) (by decide) rfl) rfl rfl hl.1 rfl (lv_room (Nat.le_of_ble_eq_true rfl)) dL_law_711 ⟨Nat.le_of_ble_eq_true rfl, Nat.le_of_ble_eq_true rfl⟩) (fun v1 S1 H locs hv1 hw => ?_)
      refine lv_aload_n hx hb dL_law_714 rfl (lv_at hl 1 rfl) ?_
      refine lv_aload_n hx hb dL_law_715 rfl (lv_at hl 3 rfl) ?_
      refine lv_iload_n hx hb dL_law_716 rfl (lv_at hl 0 rfl) ?_
      refine lv_iconst (v := 1) hx hb dL_law_717 (by decide) ?_
      refine lv_iadd hx hb dL_law_718 ?_
      refine z_topi (y := 1) (by decide) ?_
      refine va_sld hx hb hX hbl hbA hw.2.2 (i := 1) (by unfold vp_in; decide) dL_law_719 ?_
      refine lv_aload_n hx hb dL_law_720 rfl (lv_at hl 3 rfl) ?_
      refine lv_iload_n hx hb dL_law_721 rfl (lv_at hl 0 rfl) ?_
      refine lv_iconst (v := 2) hx hb dL_law_722 (by decide) ?_
      refine lv_iadd hx hb dL_law_723 ?_
      refine z_topi (y := 2) (by decide) ?_
      refine va_sld hx hb hX hbl hbA hw.2.2 (i := 2) (by unfold vp_in; decide) dL_law_724 ?_
      refine lv_i2l (v := ((xs (2 : Int32).toNatClampNeg) : Int32).toInt64) hx hb dL_law_725 rfl ?_
      refine lv_bipush (v := 32) hx hb dL_law_726 (by decide) ?_
      refine lv_lshl (v := ((((xs (2 : Int32).toNatClampNeg) : Int32).toInt64 : Int64) <<< ((32 : Int32).toInt64 &&& 63))) hx hb dL_law_728 rfl ?_
      refine lv_aload_n hx hb dL_law_729 rfl (lv_at hl 3 rfl) ?_
      refine lv_iload_n hx hb dL_law_730 rfl (lv_at hl 0 rfl) ?_
      refine lv_iconst (v := 3) hx hb dL_law_731 (by decide) ?_
      refine lv_iadd hx hb dL_law_732 ?_
      refine z_topi (y := 3) (by decide) ?_
      refine va_sld hx hb hX hbl hbA hw.2.2 (i := 3) (by unfold vp_in; decide) dL_law_733 ?_
      refine lv_i2l (v := ((xs (3 : Int32).toNatClampNeg) : Int32).toInt64) hx hb dL_law_734 rfl ?_
      refine lv_ldc2 (v := 4294967295) hx hb hown (hts (.constantLong RL 18 4294967295) (by decide +kernel)) dL_law_735 ?_
      refine lv_land hx hb dL_law_738 ?_
      refine lv_lor hx hb dL_law_739 ?_
      refine z2_k2i hw hA (va_runV (As := [.int (xs (1 : Int32).toNatClampNeg), .long (((((xs (2 : Int32).toNatClampNeg) : Int32).toInt64 : Int64) <<< ((32 : Int32).toInt64 &&& 63)) ||| (((xs (3 : Int32).toNatClampNeg) : Int32).toInt64 &&& 4294967295))]) (rest := [.int v1]) hcf (c_X12_crease l cD cy _ r2 S2 hS2 hF2 ((xs (1 : Int32).toNatClampNeg)) ((((((xs (2 : Int32).toNatClampNeg) : Int32).toInt64 : Int64) <<< ((32 : Int32).toInt64 &&& 63)) ||| (((xs (3 : Int32).toNatClampNeg) : Int32).toInt64 &&& 4294967295)))) (cwV 2 hts gL_law_X12_crease rfl rfl rfl (by decide +kernel) ⟨Nat.le_of_ble_eq_true rfl, Nat.le_of_ble_eq_true rfl⟩) (z_preV (k := 12) hK hE hw.r (mL hS2 0) (mK hS2 0) (by decide) rfl) rfl rfl hl.1 rfl (lv_room (Nat.le_of_ble_eq_true rfl)) dL_law_740 ⟨Nat.le_of_ble_eq_true rfl, Nat.le_of_ble_eq_true rfl⟩) (fun v2 S2 H locs hv2 hw => ?_)
      refine lv_icmp_eq (tgt := 1716) hx hb dL_law_743 (by decide) (fun _ => ?_) (fun q => absurd (hv1.trans hv2.symm) q)
      refine lv_iinc (v := 7) (lv' := [(3, .int 7), (2, .ref (r2 0)), (1, .ref (r1 0)), (0, .ref b)]) hx hb dL_law_1716 hl (k := 0) rfl (by decide) (by decide) rfl (fun ls hl => ?_)
      refine lv_goto (tgt := 18) hx hb dL_law_1719 (by decide) ?_
      refine lv_iload_n hx hb dL_law_18 rfl (lv_at hl 0 rfl) ?_
      refine lv_aload_n hx hb dL_law_19 rfl (lv_at hl 3 rfl) ?_
      refine va_slen hx hb hX hbl hbA hw.2.2 dL_law_20 ?_
      refine z_topi (y := 7) (by decide) ?_
      refine lv_bipush (v := 7) hx hb dL_law_21 (by decide) ?_
      refine lv_isub hx hb dL_law_23 ?_
      refine z_topi (y := 0) (by decide) ?_
      refine lv_icmp_gt (tgt := 1722) hx hb dL_law_24 (by decide) (fun _ => ?_) (fun c_24 => absurd c_24 (by decide))
      refine lv_iconst (v := 1) hx hb dL_law_1722 (by decide) ?_
      refine va_forget (fun q hq => hw.2.2.2.2 q hq) ?_
      refine W.widen (k := 600000) (n := 7302250) (Nat.le_of_ble_eq_true rfl) (Nat.le_of_ble_eq_true rfl) ?_
      exact lw_ret hx hb hr hlocks dL_law_1723
    by_cases k14 : k = 14
    · refine z_topi (y := 14) k14 ?_
      refine lv_tableIn (off := 715) (tgt := 748) hx hb dL_law_33 (by decide) (by decide) (by decide) (by decide) ?_
      refine lv_aload_n hx hb dL_law_748 rfl (lv_at hl 2 rfl) ?_
      refine lv_aload_n hx hb dL_law_749 rfl (lv_at hl 3 rfl) ?_
      refine lv_iload_n hx hb dL_law_750 rfl (lv_at hl 0 rfl) ?_
      refine lv_iconst (v := 1) hx hb dL_law_751 (by decide) ?_
      refine lv_iadd hx hb dL_law_752 ?_
      refine z_topi (y := 1) (by decide) ?_
      refine va_sld hx hb hX hbl hbA hw.2.2 (i := 1) (by unfold vp_in; decide) dL_law_753 ?_
      refine lv_aload_n hx hb dL_law_754 rfl (lv_at hl 3 rfl) ?_
      refine lv_iload_n hx hb dL_law_755 rfl (lv_at hl 0 rfl) ?_
      refine lv_iconst (v := 2) hx hb dL_law_756 (by decide) ?_
      refine lv_iadd hx hb dL_law_757 ?_
      refine z_topi (y := 2) (by decide) ?_
      refine va_sld hx hb hX hbl hbA hw.2.2 (i := 2) (by unfold vp_in; decide) dL_law_758 ?_
      refine lv_i2l (v := ((xs (2 : Int32).toNatClampNeg) : Int32).toInt64) hx hb dL_law_759 rfl ?_
      refine lv_bipush (v := 32) hx hb dL_law_760 (by decide) ?_
      refine lv_lshl (v := ((((xs (2 : Int32).toNatClampNeg) : Int32).toInt64 : Int64) <<< ((32 : Int32).toInt64 &&& 63))) hx hb dL_law_762 rfl ?_
      refine lv_aload_n hx hb dL_law_763 rfl (lv_at hl 3 rfl) ?_
      refine lv_iload_n hx hb dL_law_764 rfl (lv_at hl 0 rfl) ?_
      refine lv_iconst (v := 3) hx hb dL_law_765 (by decide) ?_
      refine lv_iadd hx hb dL_law_766 ?_
      refine z_topi (y := 3) (by decide) ?_
      refine va_sld hx hb hX hbl hbA hw.2.2 (i := 3) (by unfold vp_in; decide) dL_law_767 ?_
      refine lv_i2l (v := ((xs (3 : Int32).toNatClampNeg) : Int32).toInt64) hx hb dL_law_768 rfl ?_
      refine lv_ldc2 (v := 4294967295) hx hb hown (hts (.constantLong RL 18 4294967295) (by decide +kernel)) dL_law_769 ?_
      refine lv_land hx hb dL_law_772 ?_
      refine lv_lor hx hb dL_law_773 ?_
      refine z2_k1i hw hA (va_runV (As := [.int (xs (1 : Int32).toNatClampNeg), .long (((((xs (2 : Int32).toNatClampNeg) : Int32).toInt64 : Int64) <<< ((32 : Int32).toInt64 &&& 63)) ||| (((xs (3 : Int32).toNatClampNeg) : Int32).toInt64 &&& 4294967295))]) (rest := []) hcf (c_X11_way l cD cy _ r1 S1 hS1 hF1 ((xs (1 : Int32).toNatClampNeg)) ((((((xs (2 : Int32).toNatClampNeg) : Int32).toInt64 : Int64) <<< ((32 : Int32).toInt64 &&& 63)) ||| (((xs (3 : Int32).toNatClampNeg) : Int32).toInt64 &&& 4294967295)))) (cwV 2 hts gL_law_X11_way rfl rfl rfl (by decide +kernel) ⟨Nat.le_of_ble_eq_true rfl, Nat.le_of_ble_eq_true rfl⟩) (z_preV (k := 11) hK hE hw.l (cL hS1 0) (cK hS1 0) (by decide) rfl) rfl rfl hl.1 rfl (lv_room (Nat.le_of_ble_eq_true rfl)) dL_law_774 ⟨Nat.le_of_ble_eq_true rfl, Nat.le_of_ble_eq_true rfl⟩) (fun v1 S1 H locs hv1 hw => ?_)
      refine lv_aload_n hx hb dL_law_777 rfl (lv_at hl 1 rfl) ?_
      refine lv_aload_n hx hb dL_law_778 rfl (lv_at hl 3 rfl) ?_
      refine lv_iload_n hx hb dL_law_779 rfl (lv_at hl 0 rfl) ?_
      refine lv_iconst (v := 1) hx hb dL_law_780 (by decide) ?_
      refine lv_iadd hx hb dL_law_781 ?_
      refine z_topi (y := 1) (by decide) ?_
      refine va_sld hx hb hX hbl hbA hw.2.2 (i := 1) (by unfold vp_in; decide) dL_law_782 ?_
      refine lv_aload_n hx hb dL_law_783 rfl (lv_at hl 3 rfl) ?_
      refine lv_iload_n hx hb dL_law_784 rfl (lv_at hl 0 rfl) ?_
      refine lv_iconst (v := 2) hx hb dL_law_785 (by decide) ?_
      refine lv_iadd hx hb dL_law_786 ?_
      refine z_topi (y := 2) (by decide) ?_
      refine va_sld hx hb hX hbl hbA hw.2.2 (i := 2) (by unfold vp_in; decide) dL_law_787 ?_
      refine lv_i2l (v := ((xs (2 : Int32).toNatClampNeg) : Int32).toInt64) hx hb dL_law_788 rfl ?_
      refine lv_bipush (v := 32) hx hb dL_law_789 (by decide) ?_
      refine lv_lshl (v := ((((xs (2 : Int32).toNatClampNeg) : Int32).toInt64 : Int64) <<< ((32 : Int32).toInt64 &&& 63))) hx hb dL_law_791 rfl ?_
      refine lv_aload_n hx hb dL_law_792 rfl (lv_at hl 3 rfl) ?_
      refine lv_iload_n hx hb dL_law_793 rfl (lv_at hl 0 rfl) ?_
      refine lv_iconst (v := 3) hx hb dL_law_794 (by decide) ?_
      refine lv_iadd hx hb dL_law_795 ?_
      refine z_topi (y := 3) (by decide) ?_
      refine va_sld hx hb hX hbl hbA hw.2.2 (i := 3) (by unfold vp_in; decide) dL_law_796 ?_
      refine lv_i2l (v := ((xs (3 : Int32).toNatClampNeg) : Int32).toInt64) hx hb dL_law_797 rfl ?_
      refine lv_ldc2 (v := 4294967295) hx hb hown (hts (.constantLong RL 18 4294967295) (by decide +kernel)) dL_law_798 ?_
      refine lv_land hx hb dL_law_801 ?_
      refine lv_lor hx hb dL_law_802 ?_
      refine z2_k2i hw hA (va_runV (As := [.int (xs (1 : Int32).toNatClampNeg), .long (((((xs (2 : Int32).toNatClampNeg) : Int32).toInt64 : Int64) <<< ((32 : Int32).toInt64 &&& 63)) ||| (((xs (3 : Int32).toNatClampNeg) : Int32).toInt64 &&& 4294967295))]) (rest := [.int v1]) hcf (c_X12_way l cD cy _ r2 S2 hS2 hF2 ((xs (1 : Int32).toNatClampNeg)) ((((((xs (2 : Int32).toNatClampNeg) : Int32).toInt64 : Int64) <<< ((32 : Int32).toInt64 &&& 63)) ||| (((xs (3 : Int32).toNatClampNeg) : Int32).toInt64 &&& 4294967295)))) (cwV 2 hts gL_law_X12_way rfl rfl rfl (by decide +kernel) ⟨Nat.le_of_ble_eq_true rfl, Nat.le_of_ble_eq_true rfl⟩) (z_preV (k := 12) hK hE hw.r (mL hS2 0) (mK hS2 0) (by decide) rfl) rfl rfl hl.1 rfl (lv_room (Nat.le_of_ble_eq_true rfl)) dL_law_803 ⟨Nat.le_of_ble_eq_true rfl, Nat.le_of_ble_eq_true rfl⟩) (fun v2 S2 H locs hv2 hw => ?_)
      refine lv_icmp_eq (tgt := 1716) hx hb dL_law_806 (by decide) (fun _ => ?_) (fun q => absurd (hv1.trans hv2.symm) q)
      refine lv_iinc (v := 7) (lv' := [(3, .int 7), (2, .ref (r2 0)), (1, .ref (r1 0)), (0, .ref b)]) hx hb dL_law_1716 hl (k := 0) rfl (by decide) (by decide) rfl (fun ls hl => ?_)
      refine lv_goto (tgt := 18) hx hb dL_law_1719 (by decide) ?_
      refine lv_iload_n hx hb dL_law_18 rfl (lv_at hl 0 rfl) ?_
      refine lv_aload_n hx hb dL_law_19 rfl (lv_at hl 3 rfl) ?_
      refine va_slen hx hb hX hbl hbA hw.2.2 dL_law_20 ?_
      refine z_topi (y := 7) (by decide) ?_
      refine lv_bipush (v := 7) hx hb dL_law_21 (by decide) ?_
      refine lv_isub hx hb dL_law_23 ?_
      refine z_topi (y := 0) (by decide) ?_
      refine lv_icmp_gt (tgt := 1722) hx hb dL_law_24 (by decide) (fun _ => ?_) (fun c_24 => absurd c_24 (by decide))
      refine lv_iconst (v := 1) hx hb dL_law_1722 (by decide) ?_
      refine va_forget (fun q hq => hw.2.2.2.2 q hq) ?_
      refine W.widen (k := 600000) (n := 7302250) (Nat.le_of_ble_eq_true rfl) (Nat.le_of_ble_eq_true rfl) ?_
      exact lw_ret hx hb hr hlocks dL_law_1723
    by_cases k15 : k = 15
    · refine z_topi (y := 15) k15 ?_
      refine lv_tableIn (off := 778) (tgt := 811) hx hb dL_law_33 (by decide) (by decide) (by decide) (by decide) ?_
      refine lv_aload_n hx hb dL_law_811 rfl (lv_at hl 2 rfl) ?_
      refine lv_aload_n hx hb dL_law_812 rfl (lv_at hl 3 rfl) ?_
      refine lv_iload_n hx hb dL_law_813 rfl (lv_at hl 0 rfl) ?_
      refine lv_iconst (v := 1) hx hb dL_law_814 (by decide) ?_
      refine lv_iadd hx hb dL_law_815 ?_
      refine z_topi (y := 1) (by decide) ?_
      refine va_sld hx hb hX hbl hbA hw.2.2 (i := 1) (by unfold vp_in; decide) dL_law_816 ?_
      refine lv_aload_n hx hb dL_law_817 rfl (lv_at hl 3 rfl) ?_
      refine lv_iload_n hx hb dL_law_818 rfl (lv_at hl 0 rfl) ?_
      refine lv_iconst (v := 2) hx hb dL_law_819 (by decide) ?_
      refine lv_iadd hx hb dL_law_820 ?_
      refine z_topi (y := 2) (by decide) ?_
      refine va_sld hx hb hX hbl hbA hw.2.2 (i := 2) (by unfold vp_in; decide) dL_law_821 ?_
      refine lv_i2l (v := ((xs (2 : Int32).toNatClampNeg) : Int32).toInt64) hx hb dL_law_822 rfl ?_
      refine lv_bipush (v := 32) hx hb dL_law_823 (by decide) ?_
      refine lv_lshl (v := ((((xs (2 : Int32).toNatClampNeg) : Int32).toInt64 : Int64) <<< ((32 : Int32).toInt64 &&& 63))) hx hb dL_law_825 rfl ?_
      refine lv_aload_n hx hb dL_law_826 rfl (lv_at hl 3 rfl) ?_
      refine lv_iload_n hx hb dL_law_827 rfl (lv_at hl 0 rfl) ?_
      refine lv_iconst (v := 3) hx hb dL_law_828 (by decide) ?_
      refine lv_iadd hx hb dL_law_829 ?_
      refine z_topi (y := 3) (by decide) ?_
      refine va_sld hx hb hX hbl hbA hw.2.2 (i := 3) (by unfold vp_in; decide) dL_law_830 ?_
      refine lv_i2l (v := ((xs (3 : Int32).toNatClampNeg) : Int32).toInt64) hx hb dL_law_831 rfl ?_
      refine lv_ldc2 (v := 4294967295) hx hb hown (hts (.constantLong RL 18 4294967295) (by decide +kernel)) dL_law_832 ?_
      refine lv_land hx hb dL_law_835 ?_
      refine lv_lor hx hb dL_law_836 ?_
      refine lv_aload_n hx hb dL_law_837 rfl (lv_at hl 3 rfl) ?_
      refine lv_iload_n hx hb dL_law_838 rfl (lv_at hl 0 rfl) ?_
      refine lv_iconst (v := 4) hx hb dL_law_839 (by decide) ?_
      refine lv_iadd hx hb dL_law_840 ?_
      refine z_topi (y := 4) (by decide) ?_
      refine va_sld hx hb hX hbl hbA hw.2.2 (i := 4) (by unfold vp_in; decide) dL_law_841 ?_
      refine z2_k1l hw hA (va_runV (As := [.int (xs (1 : Int32).toNatClampNeg), .long (((((xs (2 : Int32).toNatClampNeg) : Int32).toInt64 : Int64) <<< ((32 : Int32).toInt64 &&& 63)) ||| (((xs (3 : Int32).toNatClampNeg) : Int32).toInt64 &&& 4294967295)), .int (xs (4 : Int32).toNatClampNeg)]) (rest := []) hcf (c_X11_place l cD cy _ r1 S1 hS1 hF1 ((xs (1 : Int32).toNatClampNeg)) ((((((xs (2 : Int32).toNatClampNeg) : Int32).toInt64 : Int64) <<< ((32 : Int32).toInt64 &&& 63)) ||| (((xs (3 : Int32).toNatClampNeg) : Int32).toInt64 &&& 4294967295))) ((xs (4 : Int32).toNatClampNeg))) (cwV 3 hts gL_law_X11_place rfl rfl rfl (by decide +kernel) ⟨Nat.le_of_ble_eq_true rfl, Nat.le_of_ble_eq_true rfl⟩) (z_preV (k := 11) hK hE hw.l (cL hS1 0) (cK hS1 0) (by decide) rfl) rfl rfl hl.1 rfl (lv_room (Nat.le_of_ble_eq_true rfl)) dL_law_842 ⟨Nat.le_of_ble_eq_true rfl, Nat.le_of_ble_eq_true rfl⟩) (fun v1 S1 H locs hv1 hw => ?_)
      refine lv_aload_n hx hb dL_law_845 rfl (lv_at hl 1 rfl) ?_
      refine lv_aload_n hx hb dL_law_846 rfl (lv_at hl 3 rfl) ?_
      refine lv_iload_n hx hb dL_law_847 rfl (lv_at hl 0 rfl) ?_
      refine lv_iconst (v := 1) hx hb dL_law_848 (by decide) ?_
      refine lv_iadd hx hb dL_law_849 ?_
      refine z_topi (y := 1) (by decide) ?_
      refine va_sld hx hb hX hbl hbA hw.2.2 (i := 1) (by unfold vp_in; decide) dL_law_850 ?_
      refine lv_aload_n hx hb dL_law_851 rfl (lv_at hl 3 rfl) ?_
      refine lv_iload_n hx hb dL_law_852 rfl (lv_at hl 0 rfl) ?_
      refine lv_iconst (v := 2) hx hb dL_law_853 (by decide) ?_
      refine lv_iadd hx hb dL_law_854 ?_
      refine z_topi (y := 2) (by decide) ?_
      refine va_sld hx hb hX hbl hbA hw.2.2 (i := 2) (by unfold vp_in; decide) dL_law_855 ?_
      refine lv_i2l (v := ((xs (2 : Int32).toNatClampNeg) : Int32).toInt64) hx hb dL_law_856 rfl ?_
      refine lv_bipush (v := 32) hx hb dL_law_857 (by decide) ?_
      refine lv_lshl (v := ((((xs (2 : Int32).toNatClampNeg) : Int32).toInt64 : Int64) <<< ((32 : Int32).toInt64 &&& 63))) hx hb dL_law_859 rfl ?_
      refine lv_aload_n hx hb dL_law_860 rfl (lv_at hl 3 rfl) ?_
      refine lv_iload_n hx hb dL_law_861 rfl (lv_at hl 0 rfl) ?_
      refine lv_iconst (v := 3) hx hb dL_law_862 (by decide) ?_
      refine lv_iadd hx hb dL_law_863 ?_
      refine z_topi (y := 3) (by decide) ?_
      refine va_sld hx hb hX hbl hbA hw.2.2 (i := 3) (by unfold vp_in; decide) dL_law_864 ?_
      refine lv_i2l (v := ((xs (3 : Int32).toNatClampNeg) : Int32).toInt64) hx hb dL_law_865 rfl ?_
      refine lv_ldc2 (v := 4294967295) hx hb hown (hts (.constantLong RL 18 4294967295) (by decide +kernel)) dL_law_866 ?_
      refine lv_land hx hb dL_law_869 ?_
      refine lv_lor hx hb dL_law_870 ?_
      refine lv_aload_n hx hb dL_law_871 rfl (lv_at hl 3 rfl) ?_
      refine lv_iload_n hx hb dL_law_872 rfl (lv_at hl 0 rfl) ?_
      refine lv_iconst (v := 4) hx hb dL_law_873 (by decide) ?_
      refine lv_iadd hx hb dL_law_874 ?_
      refine z_topi (y := 4) (by decide) ?_
      refine va_sld hx hb hX hbl hbA hw.2.2 (i := 4) (by unfold vp_in; decide) dL_law_875 ?_
      refine z2_k2l hw hA (va_runV (As := [.int (xs (1 : Int32).toNatClampNeg), .long (((((xs (2 : Int32).toNatClampNeg) : Int32).toInt64 : Int64) <<< ((32 : Int32).toInt64 &&& 63)) ||| (((xs (3 : Int32).toNatClampNeg) : Int32).toInt64 &&& 4294967295)), .int (xs (4 : Int32).toNatClampNeg)]) (rest := [.long v1]) hcf (c_X12_place l cD cy _ r2 S2 hS2 hF2 ((xs (1 : Int32).toNatClampNeg)) ((((((xs (2 : Int32).toNatClampNeg) : Int32).toInt64 : Int64) <<< ((32 : Int32).toInt64 &&& 63)) ||| (((xs (3 : Int32).toNatClampNeg) : Int32).toInt64 &&& 4294967295))) ((xs (4 : Int32).toNatClampNeg))) (cwV 3 hts gL_law_X12_place rfl rfl rfl (by decide +kernel) ⟨Nat.le_of_ble_eq_true rfl, Nat.le_of_ble_eq_true rfl⟩) (z_preV (k := 12) hK hE hw.r (mL hS2 0) (mK hS2 0) (by decide) rfl) rfl rfl hl.1 rfl (lv_room (Nat.le_of_ble_eq_true rfl)) dL_law_876 ⟨Nat.le_of_ble_eq_true rfl, Nat.le_of_ble_eq_true rfl⟩) (fun v2 S2 H locs hv2 hw => ?_)
      refine z_lc_eq (tgt := 1716) hx hb dL_law_879 dL_law_880 (by decide) (fun _ => ?_) (fun q => absurd (hv1.trans hv2.symm) q)
      refine lv_iinc (v := 7) (lv' := [(3, .int 7), (2, .ref (r2 0)), (1, .ref (r1 0)), (0, .ref b)]) hx hb dL_law_1716 hl (k := 0) rfl (by decide) (by decide) rfl (fun ls hl => ?_)
      refine lv_goto (tgt := 18) hx hb dL_law_1719 (by decide) ?_
      refine lv_iload_n hx hb dL_law_18 rfl (lv_at hl 0 rfl) ?_
      refine lv_aload_n hx hb dL_law_19 rfl (lv_at hl 3 rfl) ?_
      refine va_slen hx hb hX hbl hbA hw.2.2 dL_law_20 ?_
      refine z_topi (y := 7) (by decide) ?_
      refine lv_bipush (v := 7) hx hb dL_law_21 (by decide) ?_
      refine lv_isub hx hb dL_law_23 ?_
      refine z_topi (y := 0) (by decide) ?_
      refine lv_icmp_gt (tgt := 1722) hx hb dL_law_24 (by decide) (fun _ => ?_) (fun c_24 => absurd c_24 (by decide))
      refine lv_iconst (v := 1) hx hb dL_law_1722 (by decide) ?_
      refine va_forget (fun q hq => hw.2.2.2.2 q hq) ?_
      refine W.widen (k := 600000) (n := 7302250) (Nat.le_of_ble_eq_true rfl) (Nat.le_of_ble_eq_true rfl) ?_
      exact lw_ret hx hb hr hlocks dL_law_1723
    by_cases k16 : k = 16
    · refine z_topi (y := 16) k16 ?_
      refine lv_tableIn (off := 852) (tgt := 885) hx hb dL_law_33 (by decide) (by decide) (by decide) (by decide) ?_
      refine lv_aload_n hx hb dL_law_885 rfl (lv_at hl 2 rfl) ?_
      refine lv_aload_n hx hb dL_law_886 rfl (lv_at hl 3 rfl) ?_
      refine lv_iload_n hx hb dL_law_887 rfl (lv_at hl 0 rfl) ?_
      refine lv_iconst (v := 1) hx hb dL_law_888 (by decide) ?_
      refine lv_iadd hx hb dL_law_889 ?_
      refine z_topi (y := 1) (by decide) ?_
      refine va_sld hx hb hX hbl hbA hw.2.2 (i := 1) (by unfold vp_in; decide) dL_law_890 ?_
      refine lv_aload_n hx hb dL_law_891 rfl (lv_at hl 3 rfl) ?_
      refine lv_iload_n hx hb dL_law_892 rfl (lv_at hl 0 rfl) ?_
      refine lv_iconst (v := 2) hx hb dL_law_893 (by decide) ?_
      refine lv_iadd hx hb dL_law_894 ?_
      refine z_topi (y := 2) (by decide) ?_
      refine va_sld hx hb hX hbl hbA hw.2.2 (i := 2) (by unfold vp_in; decide) dL_law_895 ?_
      refine lv_aload_n hx hb dL_law_896 rfl (lv_at hl 3 rfl) ?_
      refine lv_iload_n hx hb dL_law_897 rfl (lv_at hl 0 rfl) ?_
      refine lv_iconst (v := 3) hx hb dL_law_898 (by decide) ?_
      refine lv_iadd hx hb dL_law_899 ?_
      refine z_topi (y := 3) (by decide) ?_
      refine va_sld hx hb hX hbl hbA hw.2.2 (i := 3) (by unfold vp_in; decide) dL_law_900 ?_
      refine lv_aload_n hx hb dL_law_901 rfl (lv_at hl 3 rfl) ?_
      refine lv_iload_n hx hb dL_law_902 rfl (lv_at hl 0 rfl) ?_
      refine lv_iconst (v := 4) hx hb dL_law_903 (by decide) ?_
      refine lv_iadd hx hb dL_law_904 ?_
      refine z_topi (y := 4) (by decide) ?_
      refine va_sld hx hb hX hbl hbA hw.2.2 (i := 4) (by unfold vp_in; decide) dL_law_905 ?_
      refine z2_k1i hw hA (va_runV (As := [.int (xs (1 : Int32).toNatClampNeg), .int (xs (2 : Int32).toNatClampNeg), .int (xs (3 : Int32).toNatClampNeg), .int (xs (4 : Int32).toNatClampNeg)]) (rest := []) hcf (c_X11_passed l cD cy _ r1 S1 hS1 hF1 ((xs (1 : Int32).toNatClampNeg)) ((xs (2 : Int32).toNatClampNeg)) ((xs (3 : Int32).toNatClampNeg)) ((xs (4 : Int32).toNatClampNeg))) (cwV 4 hts gL_law_X11_passed rfl rfl rfl (by decide +kernel) ⟨Nat.le_of_ble_eq_true rfl, Nat.le_of_ble_eq_true rfl⟩) (z_preV (k := 11) hK hE hw.l (cL hS1 0) (cK hS1 0) (by decide) rfl) rfl rfl hl.1 rfl (lv_room (Nat.le_of_ble_eq_true rfl)) dL_law_906 ⟨Nat.le_of_ble_eq_true rfl, Nat.le_of_ble_eq_true rfl⟩) (fun v1 S1 H locs hv1 hw => ?_)
      refine lv_aload_n hx hb dL_law_909 rfl (lv_at hl 1 rfl) ?_
      refine lv_aload_n hx hb dL_law_910 rfl (lv_at hl 3 rfl) ?_
      refine lv_iload_n hx hb dL_law_911 rfl (lv_at hl 0 rfl) ?_
      refine lv_iconst (v := 1) hx hb dL_law_912 (by decide) ?_
      refine lv_iadd hx hb dL_law_913 ?_
      refine z_topi (y := 1) (by decide) ?_
      refine va_sld hx hb hX hbl hbA hw.2.2 (i := 1) (by unfold vp_in; decide) dL_law_914 ?_
      refine lv_aload_n hx hb dL_law_915 rfl (lv_at hl 3 rfl) ?_
      refine lv_iload_n hx hb dL_law_916 rfl (lv_at hl 0 rfl) ?_
      refine lv_iconst (v := 2) hx hb dL_law_917 (by decide) ?_
      refine lv_iadd hx hb dL_law_918 ?_
      refine z_topi (y := 2) (by decide) ?_
      refine va_sld hx hb hX hbl hbA hw.2.2 (i := 2) (by unfold vp_in; decide) dL_law_919 ?_
      refine lv_aload_n hx hb dL_law_920 rfl (lv_at hl 3 rfl) ?_
      refine lv_iload_n hx hb dL_law_921 rfl (lv_at hl 0 rfl) ?_
      refine lv_iconst (v := 3) hx hb dL_law_922 (by decide) ?_
      refine lv_iadd hx hb dL_law_923 ?_
      refine z_topi (y := 3) (by decide) ?_
      refine va_sld hx hb hX hbl hbA hw.2.2 (i := 3) (by unfold vp_in; decide) dL_law_924 ?_
      refine lv_aload_n hx hb dL_law_925 rfl (lv_at hl 3 rfl) ?_
      refine lv_iload_n hx hb dL_law_926 rfl (lv_at hl 0 rfl) ?_
      refine lv_iconst (v := 4) hx hb dL_law_927 (by decide) ?_
      refine lv_iadd hx hb dL_law_928 ?_
      refine z_topi (y := 4) (by decide) ?_
      refine va_sld hx hb hX hbl hbA hw.2.2 (i := 4) (by unfold vp_in; decide) dL_law_929 ?_
      refine z2_k2i hw hA (va_runV (As := [.int (xs (1 : Int32).toNatClampNeg), .int (xs (2 : Int32).toNatClampNeg), .int (xs (3 : Int32).toNatClampNeg), .int (xs (4 : Int32).toNatClampNeg)]) (rest := [.int v1]) hcf (c_X12_passed l cD cy _ r2 S2 hS2 hF2 ((xs (1 : Int32).toNatClampNeg)) ((xs (2 : Int32).toNatClampNeg)) ((xs (3 : Int32).toNatClampNeg)) ((xs (4 : Int32).toNatClampNeg))) (cwV 4 hts gL_law_X12_passed rfl rfl rfl (by decide +kernel) ⟨Nat.le_of_ble_eq_true rfl, Nat.le_of_ble_eq_true rfl⟩) (z_preV (k := 12) hK hE hw.r (mL hS2 0) (mK hS2 0) (by decide) rfl) rfl rfl hl.1 rfl (lv_room (Nat.le_of_ble_eq_true rfl)) dL_law_930 ⟨Nat.le_of_ble_eq_true rfl, Nat.le_of_ble_eq_true rfl⟩) (fun v2 S2 H locs hv2 hw => ?_)
      refine lv_icmp_eq (tgt := 1716) hx hb dL_law_933 (by decide) (fun _ => ?_) (fun q => absurd (hv1.trans hv2.symm) q)
      refine lv_iinc (v := 7) (lv' := [(3, .int 7), (2, .ref (r2 0)), (1, .ref (r1 0)), (0, .ref b)]) hx hb dL_law_1716 hl (k := 0) rfl (by decide) (by decide) rfl (fun ls hl => ?_)
      refine lv_goto (tgt := 18) hx hb dL_law_1719 (by decide) ?_
      refine lv_iload_n hx hb dL_law_18 rfl (lv_at hl 0 rfl) ?_
      refine lv_aload_n hx hb dL_law_19 rfl (lv_at hl 3 rfl) ?_
      refine va_slen hx hb hX hbl hbA hw.2.2 dL_law_20 ?_
      refine z_topi (y := 7) (by decide) ?_
      refine lv_bipush (v := 7) hx hb dL_law_21 (by decide) ?_
      refine lv_isub hx hb dL_law_23 ?_
      refine z_topi (y := 0) (by decide) ?_
      refine lv_icmp_gt (tgt := 1722) hx hb dL_law_24 (by decide) (fun _ => ?_) (fun c_24 => absurd c_24 (by decide))
      refine lv_iconst (v := 1) hx hb dL_law_1722 (by decide) ?_
      refine va_forget (fun q hq => hw.2.2.2.2 q hq) ?_
      refine W.widen (k := 600000) (n := 7302250) (Nat.le_of_ble_eq_true rfl) (Nat.le_of_ble_eq_true rfl) ?_
      exact lw_ret hx hb hr hlocks dL_law_1723
    by_cases k17 : k = 17
    · refine z_topi (y := 17) k17 ?_
      refine lv_tableIn (off := 905) (tgt := 938) hx hb dL_law_33 (by decide) (by decide) (by decide) (by decide) ?_
      refine lv_aload_n hx hb dL_law_938 rfl (lv_at hl 2 rfl) ?_
      refine lv_aload_n hx hb dL_law_939 rfl (lv_at hl 3 rfl) ?_
      refine lv_iload_n hx hb dL_law_940 rfl (lv_at hl 0 rfl) ?_
      refine lv_iconst (v := 1) hx hb dL_law_941 (by decide) ?_
      refine lv_iadd hx hb dL_law_942 ?_
      refine z_topi (y := 1) (by decide) ?_
      refine va_sld hx hb hX hbl hbA hw.2.2 (i := 1) (by unfold vp_in; decide) dL_law_943 ?_
      refine lv_aload_n hx hb dL_law_944 rfl (lv_at hl 3 rfl) ?_
      refine lv_iload_n hx hb dL_law_945 rfl (lv_at hl 0 rfl) ?_
      refine lv_iconst (v := 2) hx hb dL_law_946 (by decide) ?_
      refine lv_iadd hx hb dL_law_947 ?_
      refine z_topi (y := 2) (by decide) ?_
      refine va_sld hx hb hX hbl hbA hw.2.2 (i := 2) (by unfold vp_in; decide) dL_law_948 ?_
      refine z2_k1i hw hA (va_runV (As := [.int (xs (1 : Int32).toNatClampNeg), .int (xs (2 : Int32).toNatClampNeg)]) (rest := []) hcf (c_X11_most l cD cy _ r1 S1 hS1 hF1 ((xs (1 : Int32).toNatClampNeg)) ((xs (2 : Int32).toNatClampNeg))) (cwV 2 hts gL_law_X11_most rfl rfl rfl (by decide +kernel) ⟨Nat.le_of_ble_eq_true rfl, Nat.le_of_ble_eq_true rfl⟩) (z_preV (k := 11) hK hE hw.l (cL hS1 0) (cK hS1 0) (by decide) rfl) rfl rfl hl.1 rfl (lv_room (Nat.le_of_ble_eq_true rfl)) dL_law_949 ⟨Nat.le_of_ble_eq_true rfl, Nat.le_of_ble_eq_true rfl⟩) (fun v1 S1 H locs hv1 hw => ?_)
      refine lv_aload_n hx hb dL_law_952 rfl (lv_at hl 1 rfl) ?_
      refine lv_aload_n hx hb dL_law_953 rfl (lv_at hl 3 rfl) ?_
      refine lv_iload_n hx hb dL_law_954 rfl (lv_at hl 0 rfl) ?_
      refine lv_iconst (v := 1) hx hb dL_law_955 (by decide) ?_
      refine lv_iadd hx hb dL_law_956 ?_
      refine z_topi (y := 1) (by decide) ?_
      refine va_sld hx hb hX hbl hbA hw.2.2 (i := 1) (by unfold vp_in; decide) dL_law_957 ?_
      refine lv_aload_n hx hb dL_law_958 rfl (lv_at hl 3 rfl) ?_
      refine lv_iload_n hx hb dL_law_959 rfl (lv_at hl 0 rfl) ?_
      refine lv_iconst (v := 2) hx hb dL_law_960 (by decide) ?_
      refine lv_iadd hx hb dL_law_961 ?_
      refine z_topi (y := 2) (by decide) ?_
      refine va_sld hx hb hX hbl hbA hw.2.2 (i := 2) (by unfold vp_in; decide) dL_law_962 ?_
      refine z2_k2i hw hA (va_runV (As := [.int (xs (1 : Int32).toNatClampNeg), .int (xs (2 : Int32).toNatClampNeg)]) (rest := [.int v1]) hcf (c_X12_most l cD cy _ r2 S2 hS2 hF2 ((xs (1 : Int32).toNatClampNeg)) ((xs (2 : Int32).toNatClampNeg))) (cwV 2 hts gL_law_X12_most rfl rfl rfl (by decide +kernel) ⟨Nat.le_of_ble_eq_true rfl, Nat.le_of_ble_eq_true rfl⟩) (z_preV (k := 12) hK hE hw.r (mL hS2 0) (mK hS2 0) (by decide) rfl) rfl rfl hl.1 rfl (lv_room (Nat.le_of_ble_eq_true rfl)) dL_law_963 ⟨Nat.le_of_ble_eq_true rfl, Nat.le_of_ble_eq_true rfl⟩) (fun v2 S2 H locs hv2 hw => ?_)
      refine lv_icmp_eq (tgt := 1716) hx hb dL_law_966 (by decide) (fun _ => ?_) (fun q => absurd (hv1.trans hv2.symm) q)
      refine lv_iinc (v := 7) (lv' := [(3, .int 7), (2, .ref (r2 0)), (1, .ref (r1 0)), (0, .ref b)]) hx hb dL_law_1716 hl (k := 0) rfl (by decide) (by decide) rfl (fun ls hl => ?_)
      refine lv_goto (tgt := 18) hx hb dL_law_1719 (by decide) ?_
      refine lv_iload_n hx hb dL_law_18 rfl (lv_at hl 0 rfl) ?_
      refine lv_aload_n hx hb dL_law_19 rfl (lv_at hl 3 rfl) ?_
      refine va_slen hx hb hX hbl hbA hw.2.2 dL_law_20 ?_
      refine z_topi (y := 7) (by decide) ?_
      refine lv_bipush (v := 7) hx hb dL_law_21 (by decide) ?_
      refine lv_isub hx hb dL_law_23 ?_
      refine z_topi (y := 0) (by decide) ?_
      refine lv_icmp_gt (tgt := 1722) hx hb dL_law_24 (by decide) (fun _ => ?_) (fun c_24 => absurd c_24 (by decide))
      refine lv_iconst (v := 1) hx hb dL_law_1722 (by decide) ?_
      refine va_forget (fun q hq => hw.2.2.2.2 q hq) ?_
      refine W.widen (k := 600000) (n := 7302250) (Nat.le_of_ble_eq_true rfl) (Nat.le_of_ble_eq_true rfl) ?_
      exact lw_ret hx hb hr hlocks dL_law_1723
    by_cases k18 : k = 18
    · refine z_topi (y := 18) k18 ?_
      refine lv_tableIn (off := 938) (tgt := 971) hx hb dL_law_33 (by decide) (by decide) (by decide) (by decide) ?_
      refine lv_aload_n hx hb dL_law_971 rfl (lv_at hl 2 rfl) ?_
      refine lv_aload_n hx hb dL_law_972 rfl (lv_at hl 3 rfl) ?_
      refine lv_iload_n hx hb dL_law_973 rfl (lv_at hl 0 rfl) ?_
      refine lv_iconst (v := 1) hx hb dL_law_974 (by decide) ?_
      refine lv_iadd hx hb dL_law_975 ?_
      refine z_topi (y := 1) (by decide) ?_
      refine va_sld hx hb hX hbl hbA hw.2.2 (i := 1) (by unfold vp_in; decide) dL_law_976 ?_
      refine lv_aload_n hx hb dL_law_977 rfl (lv_at hl 3 rfl) ?_
      refine lv_iload_n hx hb dL_law_978 rfl (lv_at hl 0 rfl) ?_
      refine lv_iconst (v := 2) hx hb dL_law_979 (by decide) ?_
      refine lv_iadd hx hb dL_law_980 ?_
      refine z_topi (y := 2) (by decide) ?_
      refine va_sld hx hb hX hbl hbA hw.2.2 (i := 2) (by unfold vp_in; decide) dL_law_981 ?_
      refine z2_k1i hw hA (va_runV (As := [.int (xs (1 : Int32).toNatClampNeg), .int (xs (2 : Int32).toNatClampNeg)]) (rest := []) hcf (c_X11_twice l cD cy _ r1 S1 hS1 hF1 ((xs (1 : Int32).toNatClampNeg)) ((xs (2 : Int32).toNatClampNeg))) (cwV 2 hts gL_law_X11_twice rfl rfl rfl (by decide +kernel) ⟨Nat.le_of_ble_eq_true rfl, Nat.le_of_ble_eq_true rfl⟩) (z_preV (k := 11) hK hE hw.l (cL hS1 0) (cK hS1 0) (by decide) rfl) rfl rfl hl.1 rfl (lv_room (Nat.le_of_ble_eq_true rfl)) dL_law_982 ⟨Nat.le_of_ble_eq_true rfl, Nat.le_of_ble_eq_true rfl⟩) (fun v1 S1 H locs hv1 hw => ?_)
      refine lv_aload_n hx hb dL_law_985 rfl (lv_at hl 1 rfl) ?_
      refine lv_aload_n hx hb dL_law_986 rfl (lv_at hl 3 rfl) ?_
      refine lv_iload_n hx hb dL_law_987 rfl (lv_at hl 0 rfl) ?_
      refine lv_iconst (v := 1) hx hb dL_law_988 (by decide) ?_
      refine lv_iadd hx hb dL_law_989 ?_
      refine z_topi (y := 1) (by decide) ?_
      refine va_sld hx hb hX hbl hbA hw.2.2 (i := 1) (by unfold vp_in; decide) dL_law_990 ?_
      refine lv_aload_n hx hb dL_law_991 rfl (lv_at hl 3 rfl) ?_
      refine lv_iload_n hx hb dL_law_992 rfl (lv_at hl 0 rfl) ?_
      refine lv_iconst (v := 2) hx hb dL_law_993 (by decide) ?_
      refine lv_iadd hx hb dL_law_994 ?_
      refine z_topi (y := 2) (by decide) ?_
      refine va_sld hx hb hX hbl hbA hw.2.2 (i := 2) (by unfold vp_in; decide) dL_law_995 ?_
      refine z2_k2i hw hA (va_runV (As := [.int (xs (1 : Int32).toNatClampNeg), .int (xs (2 : Int32).toNatClampNeg)]) (rest := [.int v1]) hcf (c_X12_twice l cD cy _ r2 S2 hS2 hF2 ((xs (1 : Int32).toNatClampNeg)) ((xs (2 : Int32).toNatClampNeg))) (cwV 2 hts gL_law_X12_twice rfl rfl rfl (by decide +kernel) ⟨Nat.le_of_ble_eq_true rfl, Nat.le_of_ble_eq_true rfl⟩) (z_preV (k := 12) hK hE hw.r (mL hS2 0) (mK hS2 0) (by decide) rfl) rfl rfl hl.1 rfl (lv_room (Nat.le_of_ble_eq_true rfl)) dL_law_996 ⟨Nat.le_of_ble_eq_true rfl, Nat.le_of_ble_eq_true rfl⟩) (fun v2 S2 H locs hv2 hw => ?_)
      refine lv_icmp_eq (tgt := 1716) hx hb dL_law_999 (by decide) (fun _ => ?_) (fun q => absurd (hv1.trans hv2.symm) q)
      refine lv_iinc (v := 7) (lv' := [(3, .int 7), (2, .ref (r2 0)), (1, .ref (r1 0)), (0, .ref b)]) hx hb dL_law_1716 hl (k := 0) rfl (by decide) (by decide) rfl (fun ls hl => ?_)
      refine lv_goto (tgt := 18) hx hb dL_law_1719 (by decide) ?_
      refine lv_iload_n hx hb dL_law_18 rfl (lv_at hl 0 rfl) ?_
      refine lv_aload_n hx hb dL_law_19 rfl (lv_at hl 3 rfl) ?_
      refine va_slen hx hb hX hbl hbA hw.2.2 dL_law_20 ?_
      refine z_topi (y := 7) (by decide) ?_
      refine lv_bipush (v := 7) hx hb dL_law_21 (by decide) ?_
      refine lv_isub hx hb dL_law_23 ?_
      refine z_topi (y := 0) (by decide) ?_
      refine lv_icmp_gt (tgt := 1722) hx hb dL_law_24 (by decide) (fun _ => ?_) (fun c_24 => absurd c_24 (by decide))
      refine lv_iconst (v := 1) hx hb dL_law_1722 (by decide) ?_
      refine va_forget (fun q hq => hw.2.2.2.2 q hq) ?_
      refine W.widen (k := 600000) (n := 7302250) (Nat.le_of_ble_eq_true rfl) (Nat.le_of_ble_eq_true rfl) ?_
      exact lw_ret hx hb hr hlocks dL_law_1723
    by_cases k19 : k = 19
    · refine z_topi (y := 19) k19 ?_
      refine lv_tableIn (off := 971) (tgt := 1004) hx hb dL_law_33 (by decide) (by decide) (by decide) (by decide) ?_
      refine lv_aload_n hx hb dL_law_1004 rfl (lv_at hl 2 rfl) ?_
      refine lv_aload_n hx hb dL_law_1005 rfl (lv_at hl 3 rfl) ?_
      refine lv_iload_n hx hb dL_law_1006 rfl (lv_at hl 0 rfl) ?_
      refine lv_iconst (v := 1) hx hb dL_law_1007 (by decide) ?_
      refine lv_iadd hx hb dL_law_1008 ?_
      refine z_topi (y := 1) (by decide) ?_
      refine va_sld hx hb hX hbl hbA hw.2.2 (i := 1) (by unfold vp_in; decide) dL_law_1009 ?_
      refine lv_aload_n hx hb dL_law_1010 rfl (lv_at hl 3 rfl) ?_
      refine lv_iload_n hx hb dL_law_1011 rfl (lv_at hl 0 rfl) ?_
      refine lv_iconst (v := 2) hx hb dL_law_1012 (by decide) ?_
      refine lv_iadd hx hb dL_law_1013 ?_
      refine z_topi (y := 2) (by decide) ?_
      refine va_sld hx hb hX hbl hbA hw.2.2 (i := 2) (by unfold vp_in; decide) dL_law_1014 ?_
      refine z2_k1i hw hA (va_runV (As := [.int (xs (1 : Int32).toNatClampNeg), .int (xs (2 : Int32).toNatClampNeg)]) (rest := []) hcf (c_X11_cover l cD cy _ r1 S1 hS1 hF1 ((xs (1 : Int32).toNatClampNeg)) ((xs (2 : Int32).toNatClampNeg))) (cwV 2 hts gL_law_X11_cover rfl rfl rfl (by decide +kernel) ⟨Nat.le_of_ble_eq_true rfl, Nat.le_of_ble_eq_true rfl⟩) (z_preV (k := 11) hK hE hw.l (cL hS1 0) (cK hS1 0) (by decide) rfl) rfl rfl hl.1 rfl (lv_room (Nat.le_of_ble_eq_true rfl)) dL_law_1015 ⟨Nat.le_of_ble_eq_true rfl, Nat.le_of_ble_eq_true rfl⟩) (fun v1 S1 H locs hv1 hw => ?_)
      refine lv_aload_n hx hb dL_law_1018 rfl (lv_at hl 1 rfl) ?_
      refine lv_aload_n hx hb dL_law_1019 rfl (lv_at hl 3 rfl) ?_
      refine lv_iload_n hx hb dL_law_1020 rfl (lv_at hl 0 rfl) ?_
      refine lv_iconst (v := 1) hx hb dL_law_1021 (by decide) ?_
      refine lv_iadd hx hb dL_law_1022 ?_
      refine z_topi (y := 1) (by decide) ?_
      refine va_sld hx hb hX hbl hbA hw.2.2 (i := 1) (by unfold vp_in; decide) dL_law_1023 ?_
      refine lv_aload_n hx hb dL_law_1024 rfl (lv_at hl 3 rfl) ?_
      refine lv_iload_n hx hb dL_law_1025 rfl (lv_at hl 0 rfl) ?_
      refine lv_iconst (v := 2) hx hb dL_law_1026 (by decide) ?_
      refine lv_iadd hx hb dL_law_1027 ?_
      refine z_topi (y := 2) (by decide) ?_
      refine va_sld hx hb hX hbl hbA hw.2.2 (i := 2) (by unfold vp_in; decide) dL_law_1028 ?_
      refine z2_k2i hw hA (va_runV (As := [.int (xs (1 : Int32).toNatClampNeg), .int (xs (2 : Int32).toNatClampNeg)]) (rest := [.int v1]) hcf (c_X12_cover l cD cy _ r2 S2 hS2 hF2 ((xs (1 : Int32).toNatClampNeg)) ((xs (2 : Int32).toNatClampNeg))) (cwV 2 hts gL_law_X12_cover rfl rfl rfl (by decide +kernel) ⟨Nat.le_of_ble_eq_true rfl, Nat.le_of_ble_eq_true rfl⟩) (z_preV (k := 12) hK hE hw.r (mL hS2 0) (mK hS2 0) (by decide) rfl) rfl rfl hl.1 rfl (lv_room (Nat.le_of_ble_eq_true rfl)) dL_law_1029 ⟨Nat.le_of_ble_eq_true rfl, Nat.le_of_ble_eq_true rfl⟩) (fun v2 S2 H locs hv2 hw => ?_)
      refine lv_icmp_eq (tgt := 1716) hx hb dL_law_1032 (by decide) (fun _ => ?_) (fun q => absurd (hv1.trans hv2.symm) q)
      refine lv_iinc (v := 7) (lv' := [(3, .int 7), (2, .ref (r2 0)), (1, .ref (r1 0)), (0, .ref b)]) hx hb dL_law_1716 hl (k := 0) rfl (by decide) (by decide) rfl (fun ls hl => ?_)
      refine lv_goto (tgt := 18) hx hb dL_law_1719 (by decide) ?_
      refine lv_iload_n hx hb dL_law_18 rfl (lv_at hl 0 rfl) ?_
      refine lv_aload_n hx hb dL_law_19 rfl (lv_at hl 3 rfl) ?_
      refine va_slen hx hb hX hbl hbA hw.2.2 dL_law_20 ?_
      refine z_topi (y := 7) (by decide) ?_
      refine lv_bipush (v := 7) hx hb dL_law_21 (by decide) ?_
      refine lv_isub hx hb dL_law_23 ?_
      refine z_topi (y := 0) (by decide) ?_
      refine lv_icmp_gt (tgt := 1722) hx hb dL_law_24 (by decide) (fun _ => ?_) (fun c_24 => absurd c_24 (by decide))
      refine lv_iconst (v := 1) hx hb dL_law_1722 (by decide) ?_
      refine va_forget (fun q hq => hw.2.2.2.2 q hq) ?_
      refine W.widen (k := 600000) (n := 7302250) (Nat.le_of_ble_eq_true rfl) (Nat.le_of_ble_eq_true rfl) ?_
      exact lw_ret hx hb hr hlocks dL_law_1723
    by_cases k20 : k = 20
    · refine z_topi (y := 20) k20 ?_
      refine lv_tableIn (off := 1004) (tgt := 1037) hx hb dL_law_33 (by decide) (by decide) (by decide) (by decide) ?_
      refine lv_aload_n hx hb dL_law_1037 rfl (lv_at hl 2 rfl) ?_
      refine lv_aload_n hx hb dL_law_1038 rfl (lv_at hl 3 rfl) ?_
      refine lv_iload_n hx hb dL_law_1039 rfl (lv_at hl 0 rfl) ?_
      refine lv_iconst (v := 1) hx hb dL_law_1040 (by decide) ?_
      refine lv_iadd hx hb dL_law_1041 ?_
      refine z_topi (y := 1) (by decide) ?_
      refine va_sld hx hb hX hbl hbA hw.2.2 (i := 1) (by unfold vp_in; decide) dL_law_1042 ?_
      refine lv_aload_n hx hb dL_law_1043 rfl (lv_at hl 3 rfl) ?_
      refine lv_iload_n hx hb dL_law_1044 rfl (lv_at hl 0 rfl) ?_
      refine lv_iconst (v := 2) hx hb dL_law_1045 (by decide) ?_
      refine lv_iadd hx hb dL_law_1046 ?_
      refine z_topi (y := 2) (by decide) ?_
      refine va_sld hx hb hX hbl hbA hw.2.2 (i := 2) (by unfold vp_in; decide) dL_law_1047 ?_
      refine lv_aload_n hx hb dL_law_1048 rfl (lv_at hl 3 rfl) ?_
      refine lv_iload_n hx hb dL_law_1049 rfl (lv_at hl 0 rfl) ?_
      refine lv_iconst (v := 3) hx hb dL_law_1050 (by decide) ?_
      refine lv_iadd hx hb dL_law_1051 ?_
      refine z_topi (y := 3) (by decide) ?_
      refine va_sld hx hb hX hbl hbA hw.2.2 (i := 3) (by unfold vp_in; decide) dL_law_1052 ?_
      refine lv_aload_n hx hb dL_law_1053 rfl (lv_at hl 3 rfl) ?_
      refine lv_iload_n hx hb dL_law_1054 rfl (lv_at hl 0 rfl) ?_
      refine lv_iconst (v := 4) hx hb dL_law_1055 (by decide) ?_
      refine lv_iadd hx hb dL_law_1056 ?_
      refine z_topi (y := 4) (by decide) ?_
      refine va_sld hx hb hX hbl hbA hw.2.2 (i := 4) (by unfold vp_in; decide) dL_law_1057 ?_
      refine z2_k1i hw hA (va_runV (As := [.int (xs (1 : Int32).toNatClampNeg), .int (xs (2 : Int32).toNatClampNeg), .int (xs (3 : Int32).toNatClampNeg), .int (xs (4 : Int32).toNatClampNeg)]) (rest := []) hcf (c_X11_when l cD cy _ r1 S1 hS1 hF1 ((xs (1 : Int32).toNatClampNeg)) ((xs (2 : Int32).toNatClampNeg)) ((xs (3 : Int32).toNatClampNeg)) ((xs (4 : Int32).toNatClampNeg))) (cwV 4 hts gL_law_X11_when rfl rfl rfl (by decide +kernel) ⟨Nat.le_of_ble_eq_true rfl, Nat.le_of_ble_eq_true rfl⟩) (z_preV (k := 11) hK hE hw.l (cL hS1 0) (cK hS1 0) (by decide) rfl) rfl rfl hl.1 rfl (lv_room (Nat.le_of_ble_eq_true rfl)) dL_law_1058 ⟨Nat.le_of_ble_eq_true rfl, Nat.le_of_ble_eq_true rfl⟩) (fun v1 S1 H locs hv1 hw => ?_)
      refine lv_aload_n hx hb dL_law_1061 rfl (lv_at hl 1 rfl) ?_
      refine lv_aload_n hx hb dL_law_1062 rfl (lv_at hl 3 rfl) ?_
      refine lv_iload_n hx hb dL_law_1063 rfl (lv_at hl 0 rfl) ?_
      refine lv_iconst (v := 1) hx hb dL_law_1064 (by decide) ?_
      refine lv_iadd hx hb dL_law_1065 ?_
      refine z_topi (y := 1) (by decide) ?_
      refine va_sld hx hb hX hbl hbA hw.2.2 (i := 1) (by unfold vp_in; decide) dL_law_1066 ?_
      refine lv_aload_n hx hb dL_law_1067 rfl (lv_at hl 3 rfl) ?_
      refine lv_iload_n hx hb dL_law_1068 rfl (lv_at hl 0 rfl) ?_
      refine lv_iconst (v := 2) hx hb dL_law_1069 (by decide) ?_
      refine lv_iadd hx hb dL_law_1070 ?_
      refine z_topi (y := 2) (by decide) ?_
      refine va_sld hx hb hX hbl hbA hw.2.2 (i := 2) (by unfold vp_in; decide) dL_law_1071 ?_
      refine lv_aload_n hx hb dL_law_1072 rfl (lv_at hl 3 rfl) ?_
      refine lv_iload_n hx hb dL_law_1073 rfl (lv_at hl 0 rfl) ?_
      refine lv_iconst (v := 3) hx hb dL_law_1074 (by decide) ?_
      refine lv_iadd hx hb dL_law_1075 ?_
      refine z_topi (y := 3) (by decide) ?_
      refine va_sld hx hb hX hbl hbA hw.2.2 (i := 3) (by unfold vp_in; decide) dL_law_1076 ?_
      refine lv_aload_n hx hb dL_law_1077 rfl (lv_at hl 3 rfl) ?_
      refine lv_iload_n hx hb dL_law_1078 rfl (lv_at hl 0 rfl) ?_
      refine lv_iconst (v := 4) hx hb dL_law_1079 (by decide) ?_
      refine lv_iadd hx hb dL_law_1080 ?_
      refine z_topi (y := 4) (by decide) ?_
      refine va_sld hx hb hX hbl hbA hw.2.2 (i := 4) (by unfold vp_in; decide) dL_law_1081 ?_
      refine z2_k2i hw hA (va_runV (As := [.int (xs (1 : Int32).toNatClampNeg), .int (xs (2 : Int32).toNatClampNeg), .int (xs (3 : Int32).toNatClampNeg), .int (xs (4 : Int32).toNatClampNeg)]) (rest := [.int v1]) hcf (c_X12_when l cD cy _ r2 S2 hS2 hF2 ((xs (1 : Int32).toNatClampNeg)) ((xs (2 : Int32).toNatClampNeg)) ((xs (3 : Int32).toNatClampNeg)) ((xs (4 : Int32).toNatClampNeg))) (cwV 4 hts gL_law_X12_when rfl rfl rfl (by decide +kernel) ⟨Nat.le_of_ble_eq_true rfl, Nat.le_of_ble_eq_true rfl⟩) (z_preV (k := 12) hK hE hw.r (mL hS2 0) (mK hS2 0) (by decide) rfl) rfl rfl hl.1 rfl (lv_room (Nat.le_of_ble_eq_true rfl)) dL_law_1082 ⟨Nat.le_of_ble_eq_true rfl, Nat.le_of_ble_eq_true rfl⟩) (fun v2 S2 H locs hv2 hw => ?_)
      refine lv_icmp_eq (tgt := 1716) hx hb dL_law_1085 (by decide) (fun _ => ?_) (fun q => absurd (hv1.trans hv2.symm) q)
      refine lv_iinc (v := 7) (lv' := [(3, .int 7), (2, .ref (r2 0)), (1, .ref (r1 0)), (0, .ref b)]) hx hb dL_law_1716 hl (k := 0) rfl (by decide) (by decide) rfl (fun ls hl => ?_)
      refine lv_goto (tgt := 18) hx hb dL_law_1719 (by decide) ?_
      refine lv_iload_n hx hb dL_law_18 rfl (lv_at hl 0 rfl) ?_
      refine lv_aload_n hx hb dL_law_19 rfl (lv_at hl 3 rfl) ?_
      refine va_slen hx hb hX hbl hbA hw.2.2 dL_law_20 ?_
      refine z_topi (y := 7) (by decide) ?_
      refine lv_bipush (v := 7) hx hb dL_law_21 (by decide) ?_
      refine lv_isub hx hb dL_law_23 ?_
      refine z_topi (y := 0) (by decide) ?_
      refine lv_icmp_gt (tgt := 1722) hx hb dL_law_24 (by decide) (fun _ => ?_) (fun c_24 => absurd c_24 (by decide))
      refine lv_iconst (v := 1) hx hb dL_law_1722 (by decide) ?_
      refine va_forget (fun q hq => hw.2.2.2.2 q hq) ?_
      refine W.widen (k := 600000) (n := 7302250) (Nat.le_of_ble_eq_true rfl) (Nat.le_of_ble_eq_true rfl) ?_
      exact lw_ret hx hb hr hlocks dL_law_1723
    by_cases k21 : k = 21
    · refine z_topi (y := 21) k21 ?_
      refine lv_tableIn (off := 1057) (tgt := 1090) hx hb dL_law_33 (by decide) (by decide) (by decide) (by decide) ?_
      refine lv_aload_n hx hb dL_law_1090 rfl (lv_at hl 2 rfl) ?_
      refine lv_aload_n hx hb dL_law_1091 rfl (lv_at hl 3 rfl) ?_
      refine lv_iload_n hx hb dL_law_1092 rfl (lv_at hl 0 rfl) ?_
      refine lv_iconst (v := 1) hx hb dL_law_1093 (by decide) ?_
      refine lv_iadd hx hb dL_law_1094 ?_
      refine z_topi (y := 1) (by decide) ?_
      refine va_sld hx hb hX hbl hbA hw.2.2 (i := 1) (by unfold vp_in; decide) dL_law_1095 ?_
      refine lv_aload_n hx hb dL_law_1096 rfl (lv_at hl 3 rfl) ?_
      refine lv_iload_n hx hb dL_law_1097 rfl (lv_at hl 0 rfl) ?_
      refine lv_iconst (v := 2) hx hb dL_law_1098 (by decide) ?_
      refine lv_iadd hx hb dL_law_1099 ?_
      refine z_topi (y := 2) (by decide) ?_
      refine va_sld hx hb hX hbl hbA hw.2.2 (i := 2) (by unfold vp_in; decide) dL_law_1100 ?_
      refine lv_aload_n hx hb dL_law_1101 rfl (lv_at hl 3 rfl) ?_
      refine lv_iload_n hx hb dL_law_1102 rfl (lv_at hl 0 rfl) ?_
      refine lv_iconst (v := 3) hx hb dL_law_1103 (by decide) ?_
      refine lv_iadd hx hb dL_law_1104 ?_
      refine z_topi (y := 3) (by decide) ?_
      refine va_sld hx hb hX hbl hbA hw.2.2 (i := 3) (by unfold vp_in; decide) dL_law_1105 ?_
      refine lv_aload_n hx hb dL_law_1106 rfl (lv_at hl 3 rfl) ?_
      refine lv_iload_n hx hb dL_law_1107 rfl (lv_at hl 0 rfl) ?_
      refine lv_iconst (v := 4) hx hb dL_law_1108 (by decide) ?_
      refine lv_iadd hx hb dL_law_1109 ?_
      refine z_topi (y := 4) (by decide) ?_
      refine va_sld hx hb hX hbl hbA hw.2.2 (i := 4) (by unfold vp_in; decide) dL_law_1110 ?_
      refine lv_aload_n hx hb dL_law_1111 rfl (lv_at hl 3 rfl) ?_
      refine lv_iload_n hx hb dL_law_1112 rfl (lv_at hl 0 rfl) ?_
      refine lv_iconst (v := 5) hx hb dL_law_1113 (by decide) ?_
      refine lv_iadd hx hb dL_law_1114 ?_
      refine z_topi (y := 5) (by decide) ?_
      refine va_sld hx hb hX hbl hbA hw.2.2 (i := 5) (by unfold vp_in; decide) dL_law_1115 ?_
      refine lv_aload_n hx hb dL_law_1116 rfl (lv_at hl 3 rfl) ?_
      refine lv_iload_n hx hb dL_law_1117 rfl (lv_at hl 0 rfl) ?_
      refine lv_bipush (v := 6) hx hb dL_law_1118 (by decide) ?_
      refine lv_iadd hx hb dL_law_1120 ?_
      refine z_topi (y := 6) (by decide) ?_
      refine va_sld hx hb hX hbl hbA hw.2.2 (i := 6) (by unfold vp_in; decide) dL_law_1121 ?_
      refine z2_k1i hw hA (va_runV (As := [.int (xs (1 : Int32).toNatClampNeg), .int (xs (2 : Int32).toNatClampNeg), .int (xs (3 : Int32).toNatClampNeg), .int (xs (4 : Int32).toNatClampNeg), .int (xs (5 : Int32).toNatClampNeg), .int (xs (6 : Int32).toNatClampNeg)]) (rest := []) hcf (c_X11_near l cD cy _ r1 S1 hS1 hF1 ((xs (1 : Int32).toNatClampNeg)) ((xs (2 : Int32).toNatClampNeg)) ((xs (3 : Int32).toNatClampNeg)) ((xs (4 : Int32).toNatClampNeg)) ((xs (5 : Int32).toNatClampNeg)) ((xs (6 : Int32).toNatClampNeg))) (cwV 6 hts gL_law_X11_near rfl rfl rfl (by decide +kernel) ⟨Nat.le_of_ble_eq_true rfl, Nat.le_of_ble_eq_true rfl⟩) (z_preV (k := 11) hK hE hw.l (cL hS1 0) (cK hS1 0) (by decide) rfl) rfl rfl hl.1 rfl (lv_room (Nat.le_of_ble_eq_true rfl)) dL_law_1122 ⟨Nat.le_of_ble_eq_true rfl, Nat.le_of_ble_eq_true rfl⟩) (fun v1 S1 H locs hv1 hw => ?_)
      refine lv_aload_n hx hb dL_law_1125 rfl (lv_at hl 1 rfl) ?_
      refine lv_aload_n hx hb dL_law_1126 rfl (lv_at hl 3 rfl) ?_
      refine lv_iload_n hx hb dL_law_1127 rfl (lv_at hl 0 rfl) ?_
      refine lv_iconst (v := 1) hx hb dL_law_1128 (by decide) ?_
      refine lv_iadd hx hb dL_law_1129 ?_
      refine z_topi (y := 1) (by decide) ?_
      refine va_sld hx hb hX hbl hbA hw.2.2 (i := 1) (by unfold vp_in; decide) dL_law_1130 ?_
      refine lv_aload_n hx hb dL_law_1131 rfl (lv_at hl 3 rfl) ?_
      refine lv_iload_n hx hb dL_law_1132 rfl (lv_at hl 0 rfl) ?_
      refine lv_iconst (v := 2) hx hb dL_law_1133 (by decide) ?_
      refine lv_iadd hx hb dL_law_1134 ?_
      refine z_topi (y := 2) (by decide) ?_
      refine va_sld hx hb hX hbl hbA hw.2.2 (i := 2) (by unfold vp_in; decide) dL_law_1135 ?_
      refine lv_aload_n hx hb dL_law_1136 rfl (lv_at hl 3 rfl) ?_
      refine lv_iload_n hx hb dL_law_1137 rfl (lv_at hl 0 rfl) ?_
      refine lv_iconst (v := 3) hx hb dL_law_1138 (by decide) ?_
      refine lv_iadd hx hb dL_law_1139 ?_
      refine z_topi (y := 3) (by decide) ?_
      refine va_sld hx hb hX hbl hbA hw.2.2 (i := 3) (by unfold vp_in; decide) dL_law_1140 ?_
      refine lv_aload_n hx hb dL_law_1141 rfl (lv_at hl 3 rfl) ?_
      refine lv_iload_n hx hb dL_law_1142 rfl (lv_at hl 0 rfl) ?_
      refine lv_iconst (v := 4) hx hb dL_law_1143 (by decide) ?_
      refine lv_iadd hx hb dL_law_1144 ?_
      refine z_topi (y := 4) (by decide) ?_
      refine va_sld hx hb hX hbl hbA hw.2.2 (i := 4) (by unfold vp_in; decide) dL_law_1145 ?_
      refine lv_aload_n hx hb dL_law_1146 rfl (lv_at hl 3 rfl) ?_
      refine lv_iload_n hx hb dL_law_1147 rfl (lv_at hl 0 rfl) ?_
      refine lv_iconst (v := 5) hx hb dL_law_1148 (by decide) ?_
      refine lv_iadd hx hb dL_law_1149 ?_
      refine z_topi (y := 5) (by decide) ?_
      refine va_sld hx hb hX hbl hbA hw.2.2 (i := 5) (by unfold vp_in; decide) dL_law_1150 ?_
      refine lv_aload_n hx hb dL_law_1151 rfl (lv_at hl 3 rfl) ?_
      refine lv_iload_n hx hb dL_law_1152 rfl (lv_at hl 0 rfl) ?_
      refine lv_bipush (v := 6) hx hb dL_law_1153 (by decide) ?_
      refine lv_iadd hx hb dL_law_1155 ?_
      refine z_topi (y := 6) (by decide) ?_
      refine va_sld hx hb hX hbl hbA hw.2.2 (i := 6) (by unfold vp_in; decide) dL_law_1156 ?_
      refine z2_k2i hw hA (va_runV (As := [.int (xs (1 : Int32).toNatClampNeg), .int (xs (2 : Int32).toNatClampNeg), .int (xs (3 : Int32).toNatClampNeg), .int (xs (4 : Int32).toNatClampNeg), .int (xs (5 : Int32).toNatClampNeg), .int (xs (6 : Int32).toNatClampNeg)]) (rest := [.int v1]) hcf (c_X12_near l cD cy _ r2 S2 hS2 hF2 ((xs (1 : Int32).toNatClampNeg)) ((xs (2 : Int32).toNatClampNeg)) ((xs (3 : Int32).toNatClampNeg)) ((xs (4 : Int32).toNatClampNeg)) ((xs (5 : Int32).toNatClampNeg)) ((xs (6 : Int32).toNatClampNeg))) (cwV 6 hts gL_law_X12_near rfl rfl rfl (by decide +kernel) ⟨Nat.le_of_ble_eq_true rfl, Nat.le_of_ble_eq_true rfl⟩) (z_preV (k := 12) hK hE hw.r (mL hS2 0) (mK hS2 0) (by decide) rfl) rfl rfl hl.1 rfl (lv_room (Nat.le_of_ble_eq_true rfl)) dL_law_1157 ⟨Nat.le_of_ble_eq_true rfl, Nat.le_of_ble_eq_true rfl⟩) (fun v2 S2 H locs hv2 hw => ?_)
      refine lv_icmp_eq (tgt := 1716) hx hb dL_law_1160 (by decide) (fun _ => ?_) (fun q => absurd (hv1.trans hv2.symm) q)
      refine lv_iinc (v := 7) (lv' := [(3, .int 7), (2, .ref (r2 0)), (1, .ref (r1 0)), (0, .ref b)]) hx hb dL_law_1716 hl (k := 0) rfl (by decide) (by decide) rfl (fun ls hl => ?_)
      refine lv_goto (tgt := 18) hx hb dL_law_1719 (by decide) ?_
      refine lv_iload_n hx hb dL_law_18 rfl (lv_at hl 0 rfl) ?_
      refine lv_aload_n hx hb dL_law_19 rfl (lv_at hl 3 rfl) ?_
      refine va_slen hx hb hX hbl hbA hw.2.2 dL_law_20 ?_
      refine z_topi (y := 7) (by decide) ?_
      refine lv_bipush (v := 7) hx hb dL_law_21 (by decide) ?_
      refine lv_isub hx hb dL_law_23 ?_
      refine z_topi (y := 0) (by decide) ?_
      refine lv_icmp_gt (tgt := 1722) hx hb dL_law_24 (by decide) (fun _ => ?_) (fun c_24 => absurd c_24 (by decide))
      refine lv_iconst (v := 1) hx hb dL_law_1722 (by decide) ?_
      refine va_forget (fun q hq => hw.2.2.2.2 q hq) ?_
      refine W.widen (k := 600000) (n := 7302250) (Nat.le_of_ble_eq_true rfl) (Nat.le_of_ble_eq_true rfl) ?_
      exact lw_ret hx hb hr hlocks dL_law_1723
    by_cases k22 : k = 22
    · refine z_topi (y := 22) k22 ?_
      refine lv_tableIn (off := 1132) (tgt := 1165) hx hb dL_law_33 (by decide) (by decide) (by decide) (by decide) ?_
      refine lv_aload_n hx hb dL_law_1165 rfl (lv_at hl 2 rfl) ?_
      refine lv_aload_n hx hb dL_law_1166 rfl (lv_at hl 3 rfl) ?_
      refine lv_iload_n hx hb dL_law_1167 rfl (lv_at hl 0 rfl) ?_
      refine lv_iconst (v := 1) hx hb dL_law_1168 (by decide) ?_
      refine lv_iadd hx hb dL_law_1169 ?_
      refine z_topi (y := 1) (by decide) ?_
      refine va_sld hx hb hX hbl hbA hw.2.2 (i := 1) (by unfold vp_in; decide) dL_law_1170 ?_
      refine lv_aload_n hx hb dL_law_1171 rfl (lv_at hl 3 rfl) ?_
      refine lv_iload_n hx hb dL_law_1172 rfl (lv_at hl 0 rfl) ?_
      refine lv_iconst (v := 2) hx hb dL_law_1173 (by decide) ?_
      refine lv_iadd hx hb dL_law_1174 ?_
      refine z_topi (y := 2) (by decide) ?_
      refine va_sld hx hb hX hbl hbA hw.2.2 (i := 2) (by unfold vp_in; decide) dL_law_1175 ?_
      refine z2_k1i hw hA (va_runV (As := [.int (xs (1 : Int32).toNatClampNeg), .int (xs (2 : Int32).toNatClampNeg)]) (rest := []) hcf (c_X11_four l cD cy _ r1 S1 hS1 hF1 ((xs (1 : Int32).toNatClampNeg)) ((xs (2 : Int32).toNatClampNeg))) (cwV 2 hts gL_law_X11_four rfl rfl rfl (by decide +kernel) ⟨Nat.le_of_ble_eq_true rfl, Nat.le_of_ble_eq_true rfl⟩) (z_preV (k := 11) hK hE hw.l (cL hS1 0) (cK hS1 0) (by decide) rfl) rfl rfl hl.1 rfl (lv_room (Nat.le_of_ble_eq_true rfl)) dL_law_1176 ⟨Nat.le_of_ble_eq_true rfl, Nat.le_of_ble_eq_true rfl⟩) (fun v1 S1 H locs hv1 hw => ?_)
      refine lv_aload_n hx hb dL_law_1179 rfl (lv_at hl 1 rfl) ?_
      refine lv_aload_n hx hb dL_law_1180 rfl (lv_at hl 3 rfl) ?_
      refine lv_iload_n hx hb dL_law_1181 rfl (lv_at hl 0 rfl) ?_
      refine lv_iconst (v := 1) hx hb dL_law_1182 (by decide) ?_
      refine lv_iadd hx hb dL_law_1183 ?_
      refine z_topi (y := 1) (by decide) ?_
      refine va_sld hx hb hX hbl hbA hw.2.2 (i := 1) (by unfold vp_in; decide) dL_law_1184 ?_
      refine lv_aload_n hx hb dL_law_1185 rfl (lv_at hl 3 rfl) ?_
      refine lv_iload_n hx hb dL_law_1186 rfl (lv_at hl 0 rfl) ?_
      refine lv_iconst (v := 2) hx hb dL_law_1187 (by decide) ?_
      refine lv_iadd hx hb dL_law_1188 ?_
      refine z_topi (y := 2) (by decide) ?_
      refine va_sld hx hb hX hbl hbA hw.2.2 (i := 2) (by unfold vp_in; decide) dL_law_1189 ?_
      refine z2_k2i hw hA (va_runV (As := [.int (xs (1 : Int32).toNatClampNeg), .int (xs (2 : Int32).toNatClampNeg)]) (rest := [.int v1]) hcf (c_X12_four l cD cy _ r2 S2 hS2 hF2 ((xs (1 : Int32).toNatClampNeg)) ((xs (2 : Int32).toNatClampNeg))) (cwV 2 hts gL_law_X12_four rfl rfl rfl (by decide +kernel) ⟨Nat.le_of_ble_eq_true rfl, Nat.le_of_ble_eq_true rfl⟩) (z_preV (k := 12) hK hE hw.r (mL hS2 0) (mK hS2 0) (by decide) rfl) rfl rfl hl.1 rfl (lv_room (Nat.le_of_ble_eq_true rfl)) dL_law_1190 ⟨Nat.le_of_ble_eq_true rfl, Nat.le_of_ble_eq_true rfl⟩) (fun v2 S2 H locs hv2 hw => ?_)
      refine lv_icmp_eq (tgt := 1716) hx hb dL_law_1193 (by decide) (fun _ => ?_) (fun q => absurd (hv1.trans hv2.symm) q)
      refine lv_iinc (v := 7) (lv' := [(3, .int 7), (2, .ref (r2 0)), (1, .ref (r1 0)), (0, .ref b)]) hx hb dL_law_1716 hl (k := 0) rfl (by decide) (by decide) rfl (fun ls hl => ?_)
      refine lv_goto (tgt := 18) hx hb dL_law_1719 (by decide) ?_
      refine lv_iload_n hx hb dL_law_18 rfl (lv_at hl 0 rfl) ?_
      refine lv_aload_n hx hb dL_law_19 rfl (lv_at hl 3 rfl) ?_
      refine va_slen hx hb hX hbl hbA hw.2.2 dL_law_20 ?_
      refine z_topi (y := 7) (by decide) ?_
      refine lv_bipush (v := 7) hx hb dL_law_21 (by decide) ?_
      refine lv_isub hx hb dL_law_23 ?_
      refine z_topi (y := 0) (by decide) ?_
      refine lv_icmp_gt (tgt := 1722) hx hb dL_law_24 (by decide) (fun _ => ?_) (fun c_24 => absurd c_24 (by decide))
      refine lv_iconst (v := 1) hx hb dL_law_1722 (by decide) ?_
      refine va_forget (fun q hq => hw.2.2.2.2 q hq) ?_
      refine W.widen (k := 600000) (n := 7302250) (Nat.le_of_ble_eq_true rfl) (Nat.le_of_ble_eq_true rfl) ?_
      exact lw_ret hx hb hr hlocks dL_law_1723
    by_cases k23 : k = 23
    · refine z_topi (y := 23) k23 ?_
      refine lv_tableIn (off := 1165) (tgt := 1198) hx hb dL_law_33 (by decide) (by decide) (by decide) (by decide) ?_
      refine lv_aload_n hx hb dL_law_1198 rfl (lv_at hl 2 rfl) ?_
      refine lv_aload_n hx hb dL_law_1199 rfl (lv_at hl 3 rfl) ?_
      refine lv_iload_n hx hb dL_law_1200 rfl (lv_at hl 0 rfl) ?_
      refine lv_iconst (v := 1) hx hb dL_law_1201 (by decide) ?_
      refine lv_iadd hx hb dL_law_1202 ?_
      refine z_topi (y := 1) (by decide) ?_
      refine va_sld hx hb hX hbl hbA hw.2.2 (i := 1) (by unfold vp_in; decide) dL_law_1203 ?_
      refine lv_aload_n hx hb dL_law_1204 rfl (lv_at hl 3 rfl) ?_
      refine lv_iload_n hx hb dL_law_1205 rfl (lv_at hl 0 rfl) ?_
      refine lv_iconst (v := 2) hx hb dL_law_1206 (by decide) ?_
      refine lv_iadd hx hb dL_law_1207 ?_
      refine z_topi (y := 2) (by decide) ?_
      refine va_sld hx hb hX hbl hbA hw.2.2 (i := 2) (by unfold vp_in; decide) dL_law_1208 ?_
      refine lv_aload_n hx hb dL_law_1209 rfl (lv_at hl 3 rfl) ?_
      refine lv_iload_n hx hb dL_law_1210 rfl (lv_at hl 0 rfl) ?_
      refine lv_iconst (v := 3) hx hb dL_law_1211 (by decide) ?_
      refine lv_iadd hx hb dL_law_1212 ?_
      refine z_topi (y := 3) (by decide) ?_
      refine va_sld hx hb hX hbl hbA hw.2.2 (i := 3) (by unfold vp_in; decide) dL_law_1213 ?_
      refine z2_k1i hw hA (va_runV (As := [.int (xs (1 : Int32).toNatClampNeg), .int (xs (2 : Int32).toNatClampNeg), .int (xs (3 : Int32).toNatClampNeg)]) (rest := []) hcf (c_X11_words l cD cy _ r1 S1 hS1 hF1 ((xs (1 : Int32).toNatClampNeg)) ((xs (2 : Int32).toNatClampNeg)) ((xs (3 : Int32).toNatClampNeg))) (cwV 3 hts gL_law_X11_words rfl rfl rfl (by decide +kernel) ⟨Nat.le_of_ble_eq_true rfl, Nat.le_of_ble_eq_true rfl⟩) (z_preV (k := 11) hK hE hw.l (cL hS1 0) (cK hS1 0) (by decide) rfl) rfl rfl hl.1 rfl (lv_room (Nat.le_of_ble_eq_true rfl)) dL_law_1214 ⟨Nat.le_of_ble_eq_true rfl, Nat.le_of_ble_eq_true rfl⟩) (fun v1 S1 H locs hv1 hw => ?_)
      refine lv_aload_n hx hb dL_law_1217 rfl (lv_at hl 1 rfl) ?_
      refine lv_aload_n hx hb dL_law_1218 rfl (lv_at hl 3 rfl) ?_
      refine lv_iload_n hx hb dL_law_1219 rfl (lv_at hl 0 rfl) ?_
      refine lv_iconst (v := 1) hx hb dL_law_1220 (by decide) ?_
      refine lv_iadd hx hb dL_law_1221 ?_
      refine z_topi (y := 1) (by decide) ?_
      refine va_sld hx hb hX hbl hbA hw.2.2 (i := 1) (by unfold vp_in; decide) dL_law_1222 ?_
      refine lv_aload_n hx hb dL_law_1223 rfl (lv_at hl 3 rfl) ?_
      refine lv_iload_n hx hb dL_law_1224 rfl (lv_at hl 0 rfl) ?_
      refine lv_iconst (v := 2) hx hb dL_law_1225 (by decide) ?_
      refine lv_iadd hx hb dL_law_1226 ?_
      refine z_topi (y := 2) (by decide) ?_
      refine va_sld hx hb hX hbl hbA hw.2.2 (i := 2) (by unfold vp_in; decide) dL_law_1227 ?_
      refine lv_aload_n hx hb dL_law_1228 rfl (lv_at hl 3 rfl) ?_
      refine lv_iload_n hx hb dL_law_1229 rfl (lv_at hl 0 rfl) ?_
      refine lv_iconst (v := 3) hx hb dL_law_1230 (by decide) ?_
      refine lv_iadd hx hb dL_law_1231 ?_
      refine z_topi (y := 3) (by decide) ?_
      refine va_sld hx hb hX hbl hbA hw.2.2 (i := 3) (by unfold vp_in; decide) dL_law_1232 ?_
      refine z2_k2i hw hA (va_runV (As := [.int (xs (1 : Int32).toNatClampNeg), .int (xs (2 : Int32).toNatClampNeg), .int (xs (3 : Int32).toNatClampNeg)]) (rest := [.int v1]) hcf (c_X12_words l cD cy _ r2 S2 hS2 hF2 ((xs (1 : Int32).toNatClampNeg)) ((xs (2 : Int32).toNatClampNeg)) ((xs (3 : Int32).toNatClampNeg))) (cwV 3 hts gL_law_X12_words rfl rfl rfl (by decide +kernel) ⟨Nat.le_of_ble_eq_true rfl, Nat.le_of_ble_eq_true rfl⟩) (z_preV (k := 12) hK hE hw.r (mL hS2 0) (mK hS2 0) (by decide) rfl) rfl rfl hl.1 rfl (lv_room (Nat.le_of_ble_eq_true rfl)) dL_law_1233 ⟨Nat.le_of_ble_eq_true rfl, Nat.le_of_ble_eq_true rfl⟩) (fun v2 S2 H locs hv2 hw => ?_)
      refine lv_icmp_eq (tgt := 1716) hx hb dL_law_1236 (by decide) (fun _ => ?_) (fun q => absurd (hv1.trans hv2.symm) q)
      refine lv_iinc (v := 7) (lv' := [(3, .int 7), (2, .ref (r2 0)), (1, .ref (r1 0)), (0, .ref b)]) hx hb dL_law_1716 hl (k := 0) rfl (by decide) (by decide) rfl (fun ls hl => ?_)
      refine lv_goto (tgt := 18) hx hb dL_law_1719 (by decide) ?_
      refine lv_iload_n hx hb dL_law_18 rfl (lv_at hl 0 rfl) ?_
      refine lv_aload_n hx hb dL_law_19 rfl (lv_at hl 3 rfl) ?_
      refine va_slen hx hb hX hbl hbA hw.2.2 dL_law_20 ?_
      refine z_topi (y := 7) (by decide) ?_
      refine lv_bipush (v := 7) hx hb dL_law_21 (by decide) ?_
      refine lv_isub hx hb dL_law_23 ?_
      refine z_topi (y := 0) (by decide) ?_
      refine lv_icmp_gt (tgt := 1722) hx hb dL_law_24 (by decide) (fun _ => ?_) (fun c_24 => absurd c_24 (by decide))
      refine lv_iconst (v := 1) hx hb dL_law_1722 (by decide) ?_
      refine va_forget (fun q hq => hw.2.2.2.2 q hq) ?_
      refine W.widen (k := 600000) (n := 7302250) (Nat.le_of_ble_eq_true rfl) (Nat.le_of_ble_eq_true rfl) ?_
      exact lw_ret hx hb hr hlocks dL_law_1723
    by_cases k24 : k = 24
    · refine z_topi (y := 24) k24 ?_
      refine lv_tableIn (off := 1208) (tgt := 1241) hx hb dL_law_33 (by decide) (by decide) (by decide) (by decide) ?_
      refine lv_aload_n hx hb dL_law_1241 rfl (lv_at hl 2 rfl) ?_
      refine lv_aload_n hx hb dL_law_1242 rfl (lv_at hl 3 rfl) ?_
      refine lv_iload_n hx hb dL_law_1243 rfl (lv_at hl 0 rfl) ?_
      refine lv_iconst (v := 1) hx hb dL_law_1244 (by decide) ?_
      refine lv_iadd hx hb dL_law_1245 ?_
      refine z_topi (y := 1) (by decide) ?_
      refine va_sld hx hb hX hbl hbA hw.2.2 (i := 1) (by unfold vp_in; decide) dL_law_1246 ?_
      refine lv_aload_n hx hb dL_law_1247 rfl (lv_at hl 3 rfl) ?_
      refine lv_iload_n hx hb dL_law_1248 rfl (lv_at hl 0 rfl) ?_
      refine lv_iconst (v := 2) hx hb dL_law_1249 (by decide) ?_
      refine lv_iadd hx hb dL_law_1250 ?_
      refine z_topi (y := 2) (by decide) ?_
      refine va_sld hx hb hX hbl hbA hw.2.2 (i := 2) (by unfold vp_in; decide) dL_law_1251 ?_
      refine z2_k1i hw hA (va_runV (As := [.int (xs (1 : Int32).toNatClampNeg), .int (xs (2 : Int32).toNatClampNeg)]) (rest := []) hcf (c_X11_wrong l cD cy _ r1 S1 hS1 hF1 ((xs (1 : Int32).toNatClampNeg)) ((xs (2 : Int32).toNatClampNeg))) (cwV 2 hts gL_law_X11_wrong rfl rfl rfl (by decide +kernel) ⟨Nat.le_of_ble_eq_true rfl, Nat.le_of_ble_eq_true rfl⟩) (z_preV (k := 11) hK hE hw.l (cL hS1 0) (cK hS1 0) (by decide) rfl) rfl rfl hl.1 rfl (lv_room (Nat.le_of_ble_eq_true rfl)) dL_law_1252 ⟨Nat.le_of_ble_eq_true rfl, Nat.le_of_ble_eq_true rfl⟩) (fun v1 S1 H locs hv1 hw => ?_)
      refine lv_aload_n hx hb dL_law_1255 rfl (lv_at hl 1 rfl) ?_
      refine lv_aload_n hx hb dL_law_1256 rfl (lv_at hl 3 rfl) ?_
      refine lv_iload_n hx hb dL_law_1257 rfl (lv_at hl 0 rfl) ?_
      refine lv_iconst (v := 1) hx hb dL_law_1258 (by decide) ?_
      refine lv_iadd hx hb dL_law_1259 ?_
      refine z_topi (y := 1) (by decide) ?_
      refine va_sld hx hb hX hbl hbA hw.2.2 (i := 1) (by unfold vp_in; decide) dL_law_1260 ?_
      refine lv_aload_n hx hb dL_law_1261 rfl (lv_at hl 3 rfl) ?_
      refine lv_iload_n hx hb dL_law_1262 rfl (lv_at hl 0 rfl) ?_
      refine lv_iconst (v := 2) hx hb dL_law_1263 (by decide) ?_
      refine lv_iadd hx hb dL_law_1264 ?_
      refine z_topi (y := 2) (by decide) ?_
      refine va_sld hx hb hX hbl hbA hw.2.2 (i := 2) (by unfold vp_in; decide) dL_law_1265 ?_
      refine z2_k2i hw hA (va_runV (As := [.int (xs (1 : Int32).toNatClampNeg), .int (xs (2 : Int32).toNatClampNeg)]) (rest := [.int v1]) hcf (c_X12_wrong l cD cy _ r2 S2 hS2 hF2 ((xs (1 : Int32).toNatClampNeg)) ((xs (2 : Int32).toNatClampNeg))) (cwV 2 hts gL_law_X12_wrong rfl rfl rfl (by decide +kernel) ⟨Nat.le_of_ble_eq_true rfl, Nat.le_of_ble_eq_true rfl⟩) (z_preV (k := 12) hK hE hw.r (mL hS2 0) (mK hS2 0) (by decide) rfl) rfl rfl hl.1 rfl (lv_room (Nat.le_of_ble_eq_true rfl)) dL_law_1266 ⟨Nat.le_of_ble_eq_true rfl, Nat.le_of_ble_eq_true rfl⟩) (fun v2 S2 H locs hv2 hw => ?_)
      refine lv_icmp_eq (tgt := 1716) hx hb dL_law_1269 (by decide) (fun _ => ?_) (fun q => absurd (hv1.trans hv2.symm) q)
      refine lv_iinc (v := 7) (lv' := [(3, .int 7), (2, .ref (r2 0)), (1, .ref (r1 0)), (0, .ref b)]) hx hb dL_law_1716 hl (k := 0) rfl (by decide) (by decide) rfl (fun ls hl => ?_)
      refine lv_goto (tgt := 18) hx hb dL_law_1719 (by decide) ?_
      refine lv_iload_n hx hb dL_law_18 rfl (lv_at hl 0 rfl) ?_
      refine lv_aload_n hx hb dL_law_19 rfl (lv_at hl 3 rfl) ?_
      refine va_slen hx hb hX hbl hbA hw.2.2 dL_law_20 ?_
      refine z_topi (y := 7) (by decide) ?_
      refine lv_bipush (v := 7) hx hb dL_law_21 (by decide) ?_
      refine lv_isub hx hb dL_law_23 ?_
      refine z_topi (y := 0) (by decide) ?_
      refine lv_icmp_gt (tgt := 1722) hx hb dL_law_24 (by decide) (fun _ => ?_) (fun c_24 => absurd c_24 (by decide))
      refine lv_iconst (v := 1) hx hb dL_law_1722 (by decide) ?_
      refine va_forget (fun q hq => hw.2.2.2.2 q hq) ?_
      refine W.widen (k := 600000) (n := 7302250) (Nat.le_of_ble_eq_true rfl) (Nat.le_of_ble_eq_true rfl) ?_
      exact lw_ret hx hb hr hlocks dL_law_1723
    by_cases k25 : k = 25
    · refine z_topi (y := 25) k25 ?_
      refine lv_tableIn (off := 1241) (tgt := 1274) hx hb dL_law_33 (by decide) (by decide) (by decide) (by decide) ?_
      refine lv_aload_n hx hb dL_law_1274 rfl (lv_at hl 2 rfl) ?_
      refine lv_aload_n hx hb dL_law_1275 rfl (lv_at hl 3 rfl) ?_
      refine lv_iload_n hx hb dL_law_1276 rfl (lv_at hl 0 rfl) ?_
      refine lv_iconst (v := 1) hx hb dL_law_1277 (by decide) ?_
      refine lv_iadd hx hb dL_law_1278 ?_
      refine z_topi (y := 1) (by decide) ?_
      refine va_sld hx hb hX hbl hbA hw.2.2 (i := 1) (by unfold vp_in; decide) dL_law_1279 ?_
      refine lv_aload_n hx hb dL_law_1280 rfl (lv_at hl 3 rfl) ?_
      refine lv_iload_n hx hb dL_law_1281 rfl (lv_at hl 0 rfl) ?_
      refine lv_iconst (v := 2) hx hb dL_law_1282 (by decide) ?_
      refine lv_iadd hx hb dL_law_1283 ?_
      refine z_topi (y := 2) (by decide) ?_
      refine va_sld hx hb hX hbl hbA hw.2.2 (i := 2) (by unfold vp_in; decide) dL_law_1284 ?_
      refine z2_k1i hw hA (va_runV (As := [.int (xs (1 : Int32).toNatClampNeg), .int (xs (2 : Int32).toNatClampNeg)]) (rest := []) hcf (c_X11_mend l cD cy _ r1 S1 hS1 hF1 ((xs (1 : Int32).toNatClampNeg)) ((xs (2 : Int32).toNatClampNeg))) (cwV 2 hts gL_law_X11_mend rfl rfl rfl (by decide +kernel) ⟨Nat.le_of_ble_eq_true rfl, Nat.le_of_ble_eq_true rfl⟩) (z_preV (k := 11) hK hE hw.l (cL hS1 0) (cK hS1 0) (by decide) rfl) rfl rfl hl.1 rfl (lv_room (Nat.le_of_ble_eq_true rfl)) dL_law_1285 ⟨Nat.le_of_ble_eq_true rfl, Nat.le_of_ble_eq_true rfl⟩) (fun v1 S1 H locs hv1 hw => ?_)
      refine lv_aload_n hx hb dL_law_1288 rfl (lv_at hl 1 rfl) ?_
      refine lv_aload_n hx hb dL_law_1289 rfl (lv_at hl 3 rfl) ?_
      refine lv_iload_n hx hb dL_law_1290 rfl (lv_at hl 0 rfl) ?_
      refine lv_iconst (v := 1) hx hb dL_law_1291 (by decide) ?_
      refine lv_iadd hx hb dL_law_1292 ?_
      refine z_topi (y := 1) (by decide) ?_
      refine va_sld hx hb hX hbl hbA hw.2.2 (i := 1) (by unfold vp_in; decide) dL_law_1293 ?_
      refine lv_aload_n hx hb dL_law_1294 rfl (lv_at hl 3 rfl) ?_
      refine lv_iload_n hx hb dL_law_1295 rfl (lv_at hl 0 rfl) ?_
      refine lv_iconst (v := 2) hx hb dL_law_1296 (by decide) ?_
      refine lv_iadd hx hb dL_law_1297 ?_
      refine z_topi (y := 2) (by decide) ?_
      refine va_sld hx hb hX hbl hbA hw.2.2 (i := 2) (by unfold vp_in; decide) dL_law_1298 ?_
      refine z2_k2i hw hA (va_runV (As := [.int (xs (1 : Int32).toNatClampNeg), .int (xs (2 : Int32).toNatClampNeg)]) (rest := [.int v1]) hcf (c_X12_mend l cD cy _ r2 S2 hS2 hF2 ((xs (1 : Int32).toNatClampNeg)) ((xs (2 : Int32).toNatClampNeg))) (cwV 2 hts gL_law_X12_mend rfl rfl rfl (by decide +kernel) ⟨Nat.le_of_ble_eq_true rfl, Nat.le_of_ble_eq_true rfl⟩) (z_preV (k := 12) hK hE hw.r (mL hS2 0) (mK hS2 0) (by decide) rfl) rfl rfl hl.1 rfl (lv_room (Nat.le_of_ble_eq_true rfl)) dL_law_1299 ⟨Nat.le_of_ble_eq_true rfl, Nat.le_of_ble_eq_true rfl⟩) (fun v2 S2 H locs hv2 hw => ?_)
      refine lv_icmp_eq (tgt := 1716) hx hb dL_law_1302 (by decide) (fun _ => ?_) (fun q => absurd (hv1.trans hv2.symm) q)
      refine lv_iinc (v := 7) (lv' := [(3, .int 7), (2, .ref (r2 0)), (1, .ref (r1 0)), (0, .ref b)]) hx hb dL_law_1716 hl (k := 0) rfl (by decide) (by decide) rfl (fun ls hl => ?_)
      refine lv_goto (tgt := 18) hx hb dL_law_1719 (by decide) ?_
      refine lv_iload_n hx hb dL_law_18 rfl (lv_at hl 0 rfl) ?_
      refine lv_aload_n hx hb dL_law_19 rfl (lv_at hl 3 rfl) ?_
      refine va_slen hx hb hX hbl hbA hw.2.2 dL_law_20 ?_
      refine z_topi (y := 7) (by decide) ?_
      refine lv_bipush (v := 7) hx hb dL_law_21 (by decide) ?_
      refine lv_isub hx hb dL_law_23 ?_
      refine z_topi (y := 0) (by decide) ?_
      refine lv_icmp_gt (tgt := 1722) hx hb dL_law_24 (by decide) (fun _ => ?_) (fun c_24 => absurd c_24 (by decide))
      refine lv_iconst (v := 1) hx hb dL_law_1722 (by decide) ?_
      refine va_forget (fun q hq => hw.2.2.2.2 q hq) ?_
      refine W.widen (k := 600000) (n := 7302250) (Nat.le_of_ble_eq_true rfl) (Nat.le_of_ble_eq_true rfl) ?_
      exact lw_ret hx hb hr hlocks dL_law_1723
    by_cases k26 : k = 26
    · refine z_topi (y := 26) k26 ?_
      refine lv_tableIn (off := 1274) (tgt := 1307) hx hb dL_law_33 (by decide) (by decide) (by decide) (by decide) ?_
      refine lv_aload_n hx hb dL_law_1307 rfl (lv_at hl 2 rfl) ?_
      refine lv_aload_n hx hb dL_law_1308 rfl (lv_at hl 3 rfl) ?_
      refine lv_iload_n hx hb dL_law_1309 rfl (lv_at hl 0 rfl) ?_
      refine lv_iconst (v := 1) hx hb dL_law_1310 (by decide) ?_
      refine lv_iadd hx hb dL_law_1311 ?_
      refine z_topi (y := 1) (by decide) ?_
      refine va_sld hx hb hX hbl hbA hw.2.2 (i := 1) (by unfold vp_in; decide) dL_law_1312 ?_
      refine lv_aload_n hx hb dL_law_1313 rfl (lv_at hl 3 rfl) ?_
      refine lv_iload_n hx hb dL_law_1314 rfl (lv_at hl 0 rfl) ?_
      refine lv_iconst (v := 2) hx hb dL_law_1315 (by decide) ?_
      refine lv_iadd hx hb dL_law_1316 ?_
      refine z_topi (y := 2) (by decide) ?_
      refine va_sld hx hb hX hbl hbA hw.2.2 (i := 2) (by unfold vp_in; decide) dL_law_1317 ?_
      refine lv_aload_n hx hb dL_law_1318 rfl (lv_at hl 3 rfl) ?_
      refine lv_iload_n hx hb dL_law_1319 rfl (lv_at hl 0 rfl) ?_
      refine lv_iconst (v := 3) hx hb dL_law_1320 (by decide) ?_
      refine lv_iadd hx hb dL_law_1321 ?_
      refine z_topi (y := 3) (by decide) ?_
      refine va_sld hx hb hX hbl hbA hw.2.2 (i := 3) (by unfold vp_in; decide) dL_law_1322 ?_
      refine z2_k1i hw hA (va_runV (As := [.int (xs (1 : Int32).toNatClampNeg), .int (xs (2 : Int32).toNatClampNeg), .int (xs (3 : Int32).toNatClampNeg)]) (rest := []) hcf (c_X11_judge l cD cy _ r1 S1 hS1 hF1 ((xs (1 : Int32).toNatClampNeg)) ((xs (2 : Int32).toNatClampNeg)) ((xs (3 : Int32).toNatClampNeg))) (cwV 3 hts gL_law_X11_judge rfl rfl rfl (by decide +kernel) ⟨Nat.le_of_ble_eq_true rfl, Nat.le_of_ble_eq_true rfl⟩) (z_preV (k := 11) hK hE hw.l (cL hS1 0) (cK hS1 0) (by decide) rfl) rfl rfl hl.1 rfl (lv_room (Nat.le_of_ble_eq_true rfl)) dL_law_1323 ⟨Nat.le_of_ble_eq_true rfl, Nat.le_of_ble_eq_true rfl⟩) (fun v1 S1 H locs hv1 hw => ?_)
      refine lv_aload_n hx hb dL_law_1326 rfl (lv_at hl 1 rfl) ?_
      refine lv_aload_n hx hb dL_law_1327 rfl (lv_at hl 3 rfl) ?_
      refine lv_iload_n hx hb dL_law_1328 rfl (lv_at hl 0 rfl) ?_
      refine lv_iconst (v := 1) hx hb dL_law_1329 (by decide) ?_
      refine lv_iadd hx hb dL_law_1330 ?_
      refine z_topi (y := 1) (by decide) ?_
      refine va_sld hx hb hX hbl hbA hw.2.2 (i := 1) (by unfold vp_in; decide) dL_law_1331 ?_
      refine lv_aload_n hx hb dL_law_1332 rfl (lv_at hl 3 rfl) ?_
      refine lv_iload_n hx hb dL_law_1333 rfl (lv_at hl 0 rfl) ?_
      refine lv_iconst (v := 2) hx hb dL_law_1334 (by decide) ?_
      refine lv_iadd hx hb dL_law_1335 ?_
      refine z_topi (y := 2) (by decide) ?_
      refine va_sld hx hb hX hbl hbA hw.2.2 (i := 2) (by unfold vp_in; decide) dL_law_1336 ?_
      refine lv_aload_n hx hb dL_law_1337 rfl (lv_at hl 3 rfl) ?_
      refine lv_iload_n hx hb dL_law_1338 rfl (lv_at hl 0 rfl) ?_
      refine lv_iconst (v := 3) hx hb dL_law_1339 (by decide) ?_
      refine lv_iadd hx hb dL_law_1340 ?_
      refine z_topi (y := 3) (by decide) ?_
      refine va_sld hx hb hX hbl hbA hw.2.2 (i := 3) (by unfold vp_in; decide) dL_law_1341 ?_
      refine z2_k2i hw hA (va_runV (As := [.int (xs (1 : Int32).toNatClampNeg), .int (xs (2 : Int32).toNatClampNeg), .int (xs (3 : Int32).toNatClampNeg)]) (rest := [.int v1]) hcf (c_X12_judge l cD cy _ r2 S2 hS2 hF2 ((xs (1 : Int32).toNatClampNeg)) ((xs (2 : Int32).toNatClampNeg)) ((xs (3 : Int32).toNatClampNeg))) (cwV 3 hts gL_law_X12_judge rfl rfl rfl (by decide +kernel) ⟨Nat.le_of_ble_eq_true rfl, Nat.le_of_ble_eq_true rfl⟩) (z_preV (k := 12) hK hE hw.r (mL hS2 0) (mK hS2 0) (by decide) rfl) rfl rfl hl.1 rfl (lv_room (Nat.le_of_ble_eq_true rfl)) dL_law_1342 ⟨Nat.le_of_ble_eq_true rfl, Nat.le_of_ble_eq_true rfl⟩) (fun v2 S2 H locs hv2 hw => ?_)
      refine lv_icmp_eq (tgt := 1716) hx hb dL_law_1345 (by decide) (fun _ => ?_) (fun q => absurd (hv1.trans hv2.symm) q)
      refine lv_iinc (v := 7) (lv' := [(3, .int 7), (2, .ref (r2 0)), (1, .ref (r1 0)), (0, .ref b)]) hx hb dL_law_1716 hl (k := 0) rfl (by decide) (by decide) rfl (fun ls hl => ?_)
      refine lv_goto (tgt := 18) hx hb dL_law_1719 (by decide) ?_
      refine lv_iload_n hx hb dL_law_18 rfl (lv_at hl 0 rfl) ?_
      refine lv_aload_n hx hb dL_law_19 rfl (lv_at hl 3 rfl) ?_
      refine va_slen hx hb hX hbl hbA hw.2.2 dL_law_20 ?_
      refine z_topi (y := 7) (by decide) ?_
      refine lv_bipush (v := 7) hx hb dL_law_21 (by decide) ?_
      refine lv_isub hx hb dL_law_23 ?_
      refine z_topi (y := 0) (by decide) ?_
      refine lv_icmp_gt (tgt := 1722) hx hb dL_law_24 (by decide) (fun _ => ?_) (fun c_24 => absurd c_24 (by decide))
      refine lv_iconst (v := 1) hx hb dL_law_1722 (by decide) ?_
      refine va_forget (fun q hq => hw.2.2.2.2 q hq) ?_
      refine W.widen (k := 600000) (n := 7302250) (Nat.le_of_ble_eq_true rfl) (Nat.le_of_ble_eq_true rfl) ?_
      exact lw_ret hx hb hr hlocks dL_law_1723
    by_cases k27 : k = 27
    · refine z_topi (y := 27) k27 ?_
      refine lv_tableIn (off := 1317) (tgt := 1350) hx hb dL_law_33 (by decide) (by decide) (by decide) (by decide) ?_
      refine lv_aload_n hx hb dL_law_1350 rfl (lv_at hl 2 rfl) ?_
      refine lv_aload_n hx hb dL_law_1351 rfl (lv_at hl 3 rfl) ?_
      refine lv_iload_n hx hb dL_law_1352 rfl (lv_at hl 0 rfl) ?_
      refine lv_iconst (v := 1) hx hb dL_law_1353 (by decide) ?_
      refine lv_iadd hx hb dL_law_1354 ?_
      refine z_topi (y := 1) (by decide) ?_
      refine va_sld hx hb hX hbl hbA hw.2.2 (i := 1) (by unfold vp_in; decide) dL_law_1355 ?_
      refine lv_aload_n hx hb dL_law_1356 rfl (lv_at hl 3 rfl) ?_
      refine lv_iload_n hx hb dL_law_1357 rfl (lv_at hl 0 rfl) ?_
      refine lv_iconst (v := 2) hx hb dL_law_1358 (by decide) ?_
      refine lv_iadd hx hb dL_law_1359 ?_
      refine z_topi (y := 2) (by decide) ?_
      refine va_sld hx hb hX hbl hbA hw.2.2 (i := 2) (by unfold vp_in; decide) dL_law_1360 ?_
      refine lv_aload_n hx hb dL_law_1361 rfl (lv_at hl 3 rfl) ?_
      refine lv_iload_n hx hb dL_law_1362 rfl (lv_at hl 0 rfl) ?_
      refine lv_iconst (v := 3) hx hb dL_law_1363 (by decide) ?_
      refine lv_iadd hx hb dL_law_1364 ?_
      refine z_topi (y := 3) (by decide) ?_
      refine va_sld hx hb hX hbl hbA hw.2.2 (i := 3) (by unfold vp_in; decide) dL_law_1365 ?_
      refine lv_aload_n hx hb dL_law_1366 rfl (lv_at hl 3 rfl) ?_
      refine lv_iload_n hx hb dL_law_1367 rfl (lv_at hl 0 rfl) ?_
      refine lv_iconst (v := 4) hx hb dL_law_1368 (by decide) ?_
      refine lv_iadd hx hb dL_law_1369 ?_
      refine z_topi (y := 4) (by decide) ?_
      refine va_sld hx hb hX hbl hbA hw.2.2 (i := 4) (by unfold vp_in; decide) dL_law_1370 ?_
      refine z2_k1i hw hA (va_runV (As := [.int (xs (1 : Int32).toNatClampNeg), .int (xs (2 : Int32).toNatClampNeg), .int (xs (3 : Int32).toNatClampNeg), .int (xs (4 : Int32).toNatClampNeg)]) (rest := []) hcf (c_X11_ends l cD cy _ r1 S1 hS1 hF1 ((xs (1 : Int32).toNatClampNeg)) ((xs (2 : Int32).toNatClampNeg)) ((xs (3 : Int32).toNatClampNeg)) ((xs (4 : Int32).toNatClampNeg))) (cwV 4 hts gL_law_X11_ends rfl rfl rfl (by decide +kernel) ⟨Nat.le_of_ble_eq_true rfl, Nat.le_of_ble_eq_true rfl⟩) (z_preV (k := 11) hK hE hw.l (cL hS1 0) (cK hS1 0) (by decide) rfl) rfl rfl hl.1 rfl (lv_room (Nat.le_of_ble_eq_true rfl)) dL_law_1371 ⟨Nat.le_of_ble_eq_true rfl, Nat.le_of_ble_eq_true rfl⟩) (fun v1 S1 H locs hv1 hw => ?_)
      refine lv_aload_n hx hb dL_law_1374 rfl (lv_at hl 1 rfl) ?_
      refine lv_aload_n hx hb dL_law_1375 rfl (lv_at hl 3 rfl) ?_
      refine lv_iload_n hx hb dL_law_1376 rfl (lv_at hl 0 rfl) ?_
      refine lv_iconst (v := 1) hx hb dL_law_1377 (by decide) ?_
      refine lv_iadd hx hb dL_law_1378 ?_
      refine z_topi (y := 1) (by decide) ?_
      refine va_sld hx hb hX hbl hbA hw.2.2 (i := 1) (by unfold vp_in; decide) dL_law_1379 ?_
      refine lv_aload_n hx hb dL_law_1380 rfl (lv_at hl 3 rfl) ?_
      refine lv_iload_n hx hb dL_law_1381 rfl (lv_at hl 0 rfl) ?_
      refine lv_iconst (v := 2) hx hb dL_law_1382 (by decide) ?_
      refine lv_iadd hx hb dL_law_1383 ?_
      refine z_topi (y := 2) (by decide) ?_
      refine va_sld hx hb hX hbl hbA hw.2.2 (i := 2) (by unfold vp_in; decide) dL_law_1384 ?_
      refine lv_aload_n hx hb dL_law_1385 rfl (lv_at hl 3 rfl) ?_
      refine lv_iload_n hx hb dL_law_1386 rfl (lv_at hl 0 rfl) ?_
      refine lv_iconst (v := 3) hx hb dL_law_1387 (by decide) ?_
      refine lv_iadd hx hb dL_law_1388 ?_
      refine z_topi (y := 3) (by decide) ?_
      refine va_sld hx hb hX hbl hbA hw.2.2 (i := 3) (by unfold vp_in; decide) dL_law_1389 ?_
      refine lv_aload_n hx hb dL_law_1390 rfl (lv_at hl 3 rfl) ?_
      refine lv_iload_n hx hb dL_law_1391 rfl (lv_at hl 0 rfl) ?_
      refine lv_iconst (v := 4) hx hb dL_law_1392 (by decide) ?_
      refine lv_iadd hx hb dL_law_1393 ?_
      refine z_topi (y := 4) (by decide) ?_
      refine va_sld hx hb hX hbl hbA hw.2.2 (i := 4) (by unfold vp_in; decide) dL_law_1394 ?_
      refine z2_k2i hw hA (va_runV (As := [.int (xs (1 : Int32).toNatClampNeg), .int (xs (2 : Int32).toNatClampNeg), .int (xs (3 : Int32).toNatClampNeg), .int (xs (4 : Int32).toNatClampNeg)]) (rest := [.int v1]) hcf (c_X12_ends l cD cy _ r2 S2 hS2 hF2 ((xs (1 : Int32).toNatClampNeg)) ((xs (2 : Int32).toNatClampNeg)) ((xs (3 : Int32).toNatClampNeg)) ((xs (4 : Int32).toNatClampNeg))) (cwV 4 hts gL_law_X12_ends rfl rfl rfl (by decide +kernel) ⟨Nat.le_of_ble_eq_true rfl, Nat.le_of_ble_eq_true rfl⟩) (z_preV (k := 12) hK hE hw.r (mL hS2 0) (mK hS2 0) (by decide) rfl) rfl rfl hl.1 rfl (lv_room (Nat.le_of_ble_eq_true rfl)) dL_law_1395 ⟨Nat.le_of_ble_eq_true rfl, Nat.le_of_ble_eq_true rfl⟩) (fun v2 S2 H locs hv2 hw => ?_)
      refine lv_icmp_eq (tgt := 1716) hx hb dL_law_1398 (by decide) (fun _ => ?_) (fun q => absurd (hv1.trans hv2.symm) q)
      refine lv_iinc (v := 7) (lv' := [(3, .int 7), (2, .ref (r2 0)), (1, .ref (r1 0)), (0, .ref b)]) hx hb dL_law_1716 hl (k := 0) rfl (by decide) (by decide) rfl (fun ls hl => ?_)
      refine lv_goto (tgt := 18) hx hb dL_law_1719 (by decide) ?_
      refine lv_iload_n hx hb dL_law_18 rfl (lv_at hl 0 rfl) ?_
      refine lv_aload_n hx hb dL_law_19 rfl (lv_at hl 3 rfl) ?_
      refine va_slen hx hb hX hbl hbA hw.2.2 dL_law_20 ?_
      refine z_topi (y := 7) (by decide) ?_
      refine lv_bipush (v := 7) hx hb dL_law_21 (by decide) ?_
      refine lv_isub hx hb dL_law_23 ?_
      refine z_topi (y := 0) (by decide) ?_
      refine lv_icmp_gt (tgt := 1722) hx hb dL_law_24 (by decide) (fun _ => ?_) (fun c_24 => absurd c_24 (by decide))
      refine lv_iconst (v := 1) hx hb dL_law_1722 (by decide) ?_
      refine va_forget (fun q hq => hw.2.2.2.2 q hq) ?_
      refine W.widen (k := 600000) (n := 7302250) (Nat.le_of_ble_eq_true rfl) (Nat.le_of_ble_eq_true rfl) ?_
      exact lw_ret hx hb hr hlocks dL_law_1723
    by_cases k28 : k = 28
    · refine z_topi (y := 28) k28 ?_
      refine lv_tableIn (off := 1370) (tgt := 1403) hx hb dL_law_33 (by decide) (by decide) (by decide) (by decide) ?_
      refine lv_aload_n hx hb dL_law_1403 rfl (lv_at hl 2 rfl) ?_
      refine lv_aload_n hx hb dL_law_1404 rfl (lv_at hl 3 rfl) ?_
      refine lv_iload_n hx hb dL_law_1405 rfl (lv_at hl 0 rfl) ?_
      refine lv_iconst (v := 1) hx hb dL_law_1406 (by decide) ?_
      refine lv_iadd hx hb dL_law_1407 ?_
      refine z_topi (y := 1) (by decide) ?_
      refine va_sld hx hb hX hbl hbA hw.2.2 (i := 1) (by unfold vp_in; decide) dL_law_1408 ?_
      refine lv_aload_n hx hb dL_law_1409 rfl (lv_at hl 3 rfl) ?_
      refine lv_iload_n hx hb dL_law_1410 rfl (lv_at hl 0 rfl) ?_
      refine lv_iconst (v := 2) hx hb dL_law_1411 (by decide) ?_
      refine lv_iadd hx hb dL_law_1412 ?_
      refine z_topi (y := 2) (by decide) ?_
      refine va_sld hx hb hX hbl hbA hw.2.2 (i := 2) (by unfold vp_in; decide) dL_law_1413 ?_
      refine lv_aload_n hx hb dL_law_1414 rfl (lv_at hl 3 rfl) ?_
      refine lv_iload_n hx hb dL_law_1415 rfl (lv_at hl 0 rfl) ?_
      refine lv_iconst (v := 3) hx hb dL_law_1416 (by decide) ?_
      refine lv_iadd hx hb dL_law_1417 ?_
      refine z_topi (y := 3) (by decide) ?_
      refine va_sld hx hb hX hbl hbA hw.2.2 (i := 3) (by unfold vp_in; decide) dL_law_1418 ?_
      refine lv_aload_n hx hb dL_law_1419 rfl (lv_at hl 3 rfl) ?_
      refine lv_iload_n hx hb dL_law_1420 rfl (lv_at hl 0 rfl) ?_
      refine lv_iconst (v := 4) hx hb dL_law_1421 (by decide) ?_
      refine lv_iadd hx hb dL_law_1422 ?_
      refine z_topi (y := 4) (by decide) ?_
      refine va_sld hx hb hX hbl hbA hw.2.2 (i := 4) (by unfold vp_in; decide) dL_law_1423 ?_
      refine z2_k1i hw hA (va_runV (As := [.int (xs (1 : Int32).toNatClampNeg), .int (xs (2 : Int32).toNatClampNeg), .int (xs (3 : Int32).toNatClampNeg), .int (xs (4 : Int32).toNatClampNeg)]) (rest := []) hcf (c_X11_piece l cD cy _ r1 S1 hS1 hF1 ((xs (1 : Int32).toNatClampNeg)) ((xs (2 : Int32).toNatClampNeg)) ((xs (3 : Int32).toNatClampNeg)) ((xs (4 : Int32).toNatClampNeg))) (cwV 4 hts gL_law_X11_piece rfl rfl rfl (by decide +kernel) ⟨Nat.le_of_ble_eq_true rfl, Nat.le_of_ble_eq_true rfl⟩) (z_preV (k := 11) hK hE hw.l (cL hS1 0) (cK hS1 0) (by decide) rfl) rfl rfl hl.1 rfl (lv_room (Nat.le_of_ble_eq_true rfl)) dL_law_1424 ⟨Nat.le_of_ble_eq_true rfl, Nat.le_of_ble_eq_true rfl⟩) (fun v1 S1 H locs hv1 hw => ?_)
      refine lv_aload_n hx hb dL_law_1427 rfl (lv_at hl 1 rfl) ?_
      refine lv_aload_n hx hb dL_law_1428 rfl (lv_at hl 3 rfl) ?_
      refine lv_iload_n hx hb dL_law_1429 rfl (lv_at hl 0 rfl) ?_
      refine lv_iconst (v := 1) hx hb dL_law_1430 (by decide) ?_
      refine lv_iadd hx hb dL_law_1431 ?_
      refine z_topi (y := 1) (by decide) ?_
      refine va_sld hx hb hX hbl hbA hw.2.2 (i := 1) (by unfold vp_in; decide) dL_law_1432 ?_
      refine lv_aload_n hx hb dL_law_1433 rfl (lv_at hl 3 rfl) ?_
      refine lv_iload_n hx hb dL_law_1434 rfl (lv_at hl 0 rfl) ?_
      refine lv_iconst (v := 2) hx hb dL_law_1435 (by decide) ?_
      refine lv_iadd hx hb dL_law_1436 ?_
      refine z_topi (y := 2) (by decide) ?_
      refine va_sld hx hb hX hbl hbA hw.2.2 (i := 2) (by unfold vp_in; decide) dL_law_1437 ?_
      refine lv_aload_n hx hb dL_law_1438 rfl (lv_at hl 3 rfl) ?_
      refine lv_iload_n hx hb dL_law_1439 rfl (lv_at hl 0 rfl) ?_
      refine lv_iconst (v := 3) hx hb dL_law_1440 (by decide) ?_
      refine lv_iadd hx hb dL_law_1441 ?_
      refine z_topi (y := 3) (by decide) ?_
      refine va_sld hx hb hX hbl hbA hw.2.2 (i := 3) (by unfold vp_in; decide) dL_law_1442 ?_
      refine lv_aload_n hx hb dL_law_1443 rfl (lv_at hl 3 rfl) ?_
      refine lv_iload_n hx hb dL_law_1444 rfl (lv_at hl 0 rfl) ?_
      refine lv_iconst (v := 4) hx hb dL_law_1445 (by decide) ?_
      refine lv_iadd hx hb dL_law_1446 ?_
      refine z_topi (y := 4) (by decide) ?_
      refine va_sld hx hb hX hbl hbA hw.2.2 (i := 4) (by unfold vp_in; decide) dL_law_1447 ?_
      refine z2_k2i hw hA (va_runV (As := [.int (xs (1 : Int32).toNatClampNeg), .int (xs (2 : Int32).toNatClampNeg), .int (xs (3 : Int32).toNatClampNeg), .int (xs (4 : Int32).toNatClampNeg)]) (rest := [.int v1]) hcf (c_X12_piece l cD cy _ r2 S2 hS2 hF2 ((xs (1 : Int32).toNatClampNeg)) ((xs (2 : Int32).toNatClampNeg)) ((xs (3 : Int32).toNatClampNeg)) ((xs (4 : Int32).toNatClampNeg))) (cwV 4 hts gL_law_X12_piece rfl rfl rfl (by decide +kernel) ⟨Nat.le_of_ble_eq_true rfl, Nat.le_of_ble_eq_true rfl⟩) (z_preV (k := 12) hK hE hw.r (mL hS2 0) (mK hS2 0) (by decide) rfl) rfl rfl hl.1 rfl (lv_room (Nat.le_of_ble_eq_true rfl)) dL_law_1448 ⟨Nat.le_of_ble_eq_true rfl, Nat.le_of_ble_eq_true rfl⟩) (fun v2 S2 H locs hv2 hw => ?_)
      refine lv_icmp_eq (tgt := 1716) hx hb dL_law_1451 (by decide) (fun _ => ?_) (fun q => absurd (hv1.trans hv2.symm) q)
      refine lv_iinc (v := 7) (lv' := [(3, .int 7), (2, .ref (r2 0)), (1, .ref (r1 0)), (0, .ref b)]) hx hb dL_law_1716 hl (k := 0) rfl (by decide) (by decide) rfl (fun ls hl => ?_)
      refine lv_goto (tgt := 18) hx hb dL_law_1719 (by decide) ?_
      refine lv_iload_n hx hb dL_law_18 rfl (lv_at hl 0 rfl) ?_
      refine lv_aload_n hx hb dL_law_19 rfl (lv_at hl 3 rfl) ?_
      refine va_slen hx hb hX hbl hbA hw.2.2 dL_law_20 ?_
      refine z_topi (y := 7) (by decide) ?_
      refine lv_bipush (v := 7) hx hb dL_law_21 (by decide) ?_
      refine lv_isub hx hb dL_law_23 ?_
      refine z_topi (y := 0) (by decide) ?_
      refine lv_icmp_gt (tgt := 1722) hx hb dL_law_24 (by decide) (fun _ => ?_) (fun c_24 => absurd c_24 (by decide))
      refine lv_iconst (v := 1) hx hb dL_law_1722 (by decide) ?_
      refine va_forget (fun q hq => hw.2.2.2.2 q hq) ?_
      refine W.widen (k := 600000) (n := 7302250) (Nat.le_of_ble_eq_true rfl) (Nat.le_of_ble_eq_true rfl) ?_
      exact lw_ret hx hb hr hlocks dL_law_1723
    by_cases k29 : k = 29
    · refine z_topi (y := 29) k29 ?_
      refine lv_tableIn (off := 1423) (tgt := 1456) hx hb dL_law_33 (by decide) (by decide) (by decide) (by decide) ?_
      refine lv_aload_n hx hb dL_law_1456 rfl (lv_at hl 2 rfl) ?_
      refine lv_aload_n hx hb dL_law_1457 rfl (lv_at hl 3 rfl) ?_
      refine lv_iload_n hx hb dL_law_1458 rfl (lv_at hl 0 rfl) ?_
      refine lv_iconst (v := 1) hx hb dL_law_1459 (by decide) ?_
      refine lv_iadd hx hb dL_law_1460 ?_
      refine z_topi (y := 1) (by decide) ?_
      refine va_sld hx hb hX hbl hbA hw.2.2 (i := 1) (by unfold vp_in; decide) dL_law_1461 ?_
      refine lv_aload_n hx hb dL_law_1462 rfl (lv_at hl 3 rfl) ?_
      refine lv_iload_n hx hb dL_law_1463 rfl (lv_at hl 0 rfl) ?_
      refine lv_iconst (v := 2) hx hb dL_law_1464 (by decide) ?_
      refine lv_iadd hx hb dL_law_1465 ?_
      refine z_topi (y := 2) (by decide) ?_
      refine va_sld hx hb hX hbl hbA hw.2.2 (i := 2) (by unfold vp_in; decide) dL_law_1466 ?_
      refine z2_k1i hw hA (va_runV (As := [.int (xs (1 : Int32).toNatClampNeg), .int (xs (2 : Int32).toNatClampNeg)]) (rest := []) hcf (c_X11_can l cD cy _ r1 S1 hS1 hF1 ((xs (1 : Int32).toNatClampNeg)) ((xs (2 : Int32).toNatClampNeg))) (cwV 2 hts gL_law_X11_can rfl rfl rfl (by decide +kernel) ⟨Nat.le_of_ble_eq_true rfl, Nat.le_of_ble_eq_true rfl⟩) (z_preV (k := 11) hK hE hw.l (cL hS1 0) (cK hS1 0) (by decide) rfl) rfl rfl hl.1 rfl (lv_room (Nat.le_of_ble_eq_true rfl)) dL_law_1467 ⟨Nat.le_of_ble_eq_true rfl, Nat.le_of_ble_eq_true rfl⟩) (fun v1 S1 H locs hv1 hw => ?_)
      refine lv_aload_n hx hb dL_law_1470 rfl (lv_at hl 1 rfl) ?_
      refine lv_aload_n hx hb dL_law_1471 rfl (lv_at hl 3 rfl) ?_
      refine lv_iload_n hx hb dL_law_1472 rfl (lv_at hl 0 rfl) ?_
      refine lv_iconst (v := 1) hx hb dL_law_1473 (by decide) ?_
      refine lv_iadd hx hb dL_law_1474 ?_
      refine z_topi (y := 1) (by decide) ?_
      refine va_sld hx hb hX hbl hbA hw.2.2 (i := 1) (by unfold vp_in; decide) dL_law_1475 ?_
      refine lv_aload_n hx hb dL_law_1476 rfl (lv_at hl 3 rfl) ?_
      refine lv_iload_n hx hb dL_law_1477 rfl (lv_at hl 0 rfl) ?_
      refine lv_iconst (v := 2) hx hb dL_law_1478 (by decide) ?_
      refine lv_iadd hx hb dL_law_1479 ?_
      refine z_topi (y := 2) (by decide) ?_
      refine va_sld hx hb hX hbl hbA hw.2.2 (i := 2) (by unfold vp_in; decide) dL_law_1480 ?_
      refine z2_k2i hw hA (va_runV (As := [.int (xs (1 : Int32).toNatClampNeg), .int (xs (2 : Int32).toNatClampNeg)]) (rest := [.int v1]) hcf (c_X12_can l cD cy _ r2 S2 hS2 hF2 ((xs (1 : Int32).toNatClampNeg)) ((xs (2 : Int32).toNatClampNeg))) (cwV 2 hts gL_law_X12_can rfl rfl rfl (by decide +kernel) ⟨Nat.le_of_ble_eq_true rfl, Nat.le_of_ble_eq_true rfl⟩) (z_preV (k := 12) hK hE hw.r (mL hS2 0) (mK hS2 0) (by decide) rfl) rfl rfl hl.1 rfl (lv_room (Nat.le_of_ble_eq_true rfl)) dL_law_1481 ⟨Nat.le_of_ble_eq_true rfl, Nat.le_of_ble_eq_true rfl⟩) (fun v2 S2 H locs hv2 hw => ?_)
      refine lv_icmp_eq (tgt := 1716) hx hb dL_law_1484 (by decide) (fun _ => ?_) (fun q => absurd (hv1.trans hv2.symm) q)
      refine lv_iinc (v := 7) (lv' := [(3, .int 7), (2, .ref (r2 0)), (1, .ref (r1 0)), (0, .ref b)]) hx hb dL_law_1716 hl (k := 0) rfl (by decide) (by decide) rfl (fun ls hl => ?_)
      refine lv_goto (tgt := 18) hx hb dL_law_1719 (by decide) ?_
      refine lv_iload_n hx hb dL_law_18 rfl (lv_at hl 0 rfl) ?_
      refine lv_aload_n hx hb dL_law_19 rfl (lv_at hl 3 rfl) ?_
      refine va_slen hx hb hX hbl hbA hw.2.2 dL_law_20 ?_
      refine z_topi (y := 7) (by decide) ?_
      refine lv_bipush (v := 7) hx hb dL_law_21 (by decide) ?_
      refine lv_isub hx hb dL_law_23 ?_
      refine z_topi (y := 0) (by decide) ?_
      refine lv_icmp_gt (tgt := 1722) hx hb dL_law_24 (by decide) (fun _ => ?_) (fun c_24 => absurd c_24 (by decide))
      refine lv_iconst (v := 1) hx hb dL_law_1722 (by decide) ?_
      refine va_forget (fun q hq => hw.2.2.2.2 q hq) ?_
      refine W.widen (k := 600000) (n := 7302250) (Nat.le_of_ble_eq_true rfl) (Nat.le_of_ble_eq_true rfl) ?_
      exact lw_ret hx hb hr hlocks dL_law_1723
    by_cases k30 : k = 30
    · refine z_topi (y := 30) k30 ?_
      refine lv_tableIn (off := 1456) (tgt := 1489) hx hb dL_law_33 (by decide) (by decide) (by decide) (by decide) ?_
      refine lv_aload_n hx hb dL_law_1489 rfl (lv_at hl 2 rfl) ?_
      refine lv_aload_n hx hb dL_law_1490 rfl (lv_at hl 3 rfl) ?_
      refine lv_iload_n hx hb dL_law_1491 rfl (lv_at hl 0 rfl) ?_
      refine lv_iconst (v := 1) hx hb dL_law_1492 (by decide) ?_
      refine lv_iadd hx hb dL_law_1493 ?_
      refine z_topi (y := 1) (by decide) ?_
      refine va_sld hx hb hX hbl hbA hw.2.2 (i := 1) (by unfold vp_in; decide) dL_law_1494 ?_
      refine z2_k1i hw hA (va_runV (As := [.int (xs (1 : Int32).toNatClampNeg)]) (rest := []) hcf (c_X11_orders l cD cy _ r1 S1 hS1 hF1 ((xs (1 : Int32).toNatClampNeg))) (cwV 1 hts gL_law_X11_orders rfl rfl rfl (by decide +kernel) ⟨Nat.le_of_ble_eq_true rfl, Nat.le_of_ble_eq_true rfl⟩) (z_preV (k := 11) hK hE hw.l (cL hS1 0) (cK hS1 0) (by decide) rfl) rfl rfl hl.1 rfl (lv_room (Nat.le_of_ble_eq_true rfl)) dL_law_1495 ⟨Nat.le_of_ble_eq_true rfl, Nat.le_of_ble_eq_true rfl⟩) (fun v1 S1 H locs hv1 hw => ?_)
      refine lv_aload_n hx hb dL_law_1498 rfl (lv_at hl 1 rfl) ?_
      refine lv_aload_n hx hb dL_law_1499 rfl (lv_at hl 3 rfl) ?_
      refine lv_iload_n hx hb dL_law_1500 rfl (lv_at hl 0 rfl) ?_
      refine lv_iconst (v := 1) hx hb dL_law_1501 (by decide) ?_
      refine lv_iadd hx hb dL_law_1502 ?_
      refine z_topi (y := 1) (by decide) ?_
      refine va_sld hx hb hX hbl hbA hw.2.2 (i := 1) (by unfold vp_in; decide) dL_law_1503 ?_
      refine z2_k2i hw hA (va_runV (As := [.int (xs (1 : Int32).toNatClampNeg)]) (rest := [.int v1]) hcf (c_X12_orders l cD cy _ r2 S2 hS2 hF2 ((xs (1 : Int32).toNatClampNeg))) (cwV 1 hts gL_law_X12_orders rfl rfl rfl (by decide +kernel) ⟨Nat.le_of_ble_eq_true rfl, Nat.le_of_ble_eq_true rfl⟩) (z_preV (k := 12) hK hE hw.r (mL hS2 0) (mK hS2 0) (by decide) rfl) rfl rfl hl.1 rfl (lv_room (Nat.le_of_ble_eq_true rfl)) dL_law_1504 ⟨Nat.le_of_ble_eq_true rfl, Nat.le_of_ble_eq_true rfl⟩) (fun v2 S2 H locs hv2 hw => ?_)
      refine lv_icmp_eq (tgt := 1716) hx hb dL_law_1507 (by decide) (fun _ => ?_) (fun q => absurd (hv1.trans hv2.symm) q)
      refine lv_iinc (v := 7) (lv' := [(3, .int 7), (2, .ref (r2 0)), (1, .ref (r1 0)), (0, .ref b)]) hx hb dL_law_1716 hl (k := 0) rfl (by decide) (by decide) rfl (fun ls hl => ?_)
      refine lv_goto (tgt := 18) hx hb dL_law_1719 (by decide) ?_
      refine lv_iload_n hx hb dL_law_18 rfl (lv_at hl 0 rfl) ?_
      refine lv_aload_n hx hb dL_law_19 rfl (lv_at hl 3 rfl) ?_
      refine va_slen hx hb hX hbl hbA hw.2.2 dL_law_20 ?_
      refine z_topi (y := 7) (by decide) ?_
      refine lv_bipush (v := 7) hx hb dL_law_21 (by decide) ?_
      refine lv_isub hx hb dL_law_23 ?_
      refine z_topi (y := 0) (by decide) ?_
      refine lv_icmp_gt (tgt := 1722) hx hb dL_law_24 (by decide) (fun _ => ?_) (fun c_24 => absurd c_24 (by decide))
      refine lv_iconst (v := 1) hx hb dL_law_1722 (by decide) ?_
      refine va_forget (fun q hq => hw.2.2.2.2 q hq) ?_
      refine W.widen (k := 600000) (n := 7302250) (Nat.le_of_ble_eq_true rfl) (Nat.le_of_ble_eq_true rfl) ?_
      exact lw_ret hx hb hr hlocks dL_law_1723
    by_cases k31 : k = 31
    · refine z_topi (y := 31) k31 ?_
      refine lv_tableIn (off := 1479) (tgt := 1512) hx hb dL_law_33 (by decide) (by decide) (by decide) (by decide) ?_
      refine lv_aload_n hx hb dL_law_1512 rfl (lv_at hl 2 rfl) ?_
      refine lv_aload_n hx hb dL_law_1513 rfl (lv_at hl 3 rfl) ?_
      refine lv_iload_n hx hb dL_law_1514 rfl (lv_at hl 0 rfl) ?_
      refine lv_iconst (v := 1) hx hb dL_law_1515 (by decide) ?_
      refine lv_iadd hx hb dL_law_1516 ?_
      refine z_topi (y := 1) (by decide) ?_
      refine va_sld hx hb hX hbl hbA hw.2.2 (i := 1) (by unfold vp_in; decide) dL_law_1517 ?_
      refine lv_aload_n hx hb dL_law_1518 rfl (lv_at hl 3 rfl) ?_
      refine lv_iload_n hx hb dL_law_1519 rfl (lv_at hl 0 rfl) ?_
      refine lv_iconst (v := 2) hx hb dL_law_1520 (by decide) ?_
      refine lv_iadd hx hb dL_law_1521 ?_
      refine z_topi (y := 2) (by decide) ?_
      refine va_sld hx hb hX hbl hbA hw.2.2 (i := 2) (by unfold vp_in; decide) dL_law_1522 ?_
      refine lv_aload_n hx hb dL_law_1523 rfl (lv_at hl 3 rfl) ?_
      refine lv_iload_n hx hb dL_law_1524 rfl (lv_at hl 0 rfl) ?_
      refine lv_iconst (v := 3) hx hb dL_law_1525 (by decide) ?_
      refine lv_iadd hx hb dL_law_1526 ?_
      refine z_topi (y := 3) (by decide) ?_
      refine va_sld hx hb hX hbl hbA hw.2.2 (i := 3) (by unfold vp_in; decide) dL_law_1527 ?_
      refine z2_k1i hw hA (va_runV (As := [.int (xs (1 : Int32).toNatClampNeg), .int (xs (2 : Int32).toNatClampNeg), .int (xs (3 : Int32).toNatClampNeg)]) (rest := []) hcf (c_X11_order l cD cy _ r1 S1 hS1 hF1 ((xs (1 : Int32).toNatClampNeg)) ((xs (2 : Int32).toNatClampNeg)) ((xs (3 : Int32).toNatClampNeg))) (cwV 3 hts gL_law_X11_order rfl rfl rfl (by decide +kernel) ⟨Nat.le_of_ble_eq_true rfl, Nat.le_of_ble_eq_true rfl⟩) (z_preV (k := 11) hK hE hw.l (cL hS1 0) (cK hS1 0) (by decide) rfl) rfl rfl hl.1 rfl (lv_room (Nat.le_of_ble_eq_true rfl)) dL_law_1528 ⟨Nat.le_of_ble_eq_true rfl, Nat.le_of_ble_eq_true rfl⟩) (fun v1 S1 H locs hv1 hw => ?_)
      refine lv_aload_n hx hb dL_law_1531 rfl (lv_at hl 1 rfl) ?_
      refine lv_aload_n hx hb dL_law_1532 rfl (lv_at hl 3 rfl) ?_
      refine lv_iload_n hx hb dL_law_1533 rfl (lv_at hl 0 rfl) ?_
      refine lv_iconst (v := 1) hx hb dL_law_1534 (by decide) ?_
      refine lv_iadd hx hb dL_law_1535 ?_
      refine z_topi (y := 1) (by decide) ?_
      refine va_sld hx hb hX hbl hbA hw.2.2 (i := 1) (by unfold vp_in; decide) dL_law_1536 ?_
      refine lv_aload_n hx hb dL_law_1537 rfl (lv_at hl 3 rfl) ?_
      refine lv_iload_n hx hb dL_law_1538 rfl (lv_at hl 0 rfl) ?_
      refine lv_iconst (v := 2) hx hb dL_law_1539 (by decide) ?_
      refine lv_iadd hx hb dL_law_1540 ?_
      refine z_topi (y := 2) (by decide) ?_
      refine va_sld hx hb hX hbl hbA hw.2.2 (i := 2) (by unfold vp_in; decide) dL_law_1541 ?_
      refine lv_aload_n hx hb dL_law_1542 rfl (lv_at hl 3 rfl) ?_
      refine lv_iload_n hx hb dL_law_1543 rfl (lv_at hl 0 rfl) ?_
      refine lv_iconst (v := 3) hx hb dL_law_1544 (by decide) ?_
      refine lv_iadd hx hb dL_law_1545 ?_
      refine z_topi (y := 3) (by decide) ?_
      refine va_sld hx hb hX hbl hbA hw.2.2 (i := 3) (by unfold vp_in; decide) dL_law_1546 ?_
      refine z2_k2i hw hA (va_runV (As := [.int (xs (1 : Int32).toNatClampNeg), .int (xs (2 : Int32).toNatClampNeg), .int (xs (3 : Int32).toNatClampNeg)]) (rest := [.int v1]) hcf (c_X12_order l cD cy _ r2 S2 hS2 hF2 ((xs (1 : Int32).toNatClampNeg)) ((xs (2 : Int32).toNatClampNeg)) ((xs (3 : Int32).toNatClampNeg))) (cwV 3 hts gL_law_X12_order rfl rfl rfl (by decide +kernel) ⟨Nat.le_of_ble_eq_true rfl, Nat.le_of_ble_eq_true rfl⟩) (z_preV (k := 12) hK hE hw.r (mL hS2 0) (mK hS2 0) (by decide) rfl) rfl rfl hl.1 rfl (lv_room (Nat.le_of_ble_eq_true rfl)) dL_law_1547 ⟨Nat.le_of_ble_eq_true rfl, Nat.le_of_ble_eq_true rfl⟩) (fun v2 S2 H locs hv2 hw => ?_)
      refine lv_icmp_eq (tgt := 1716) hx hb dL_law_1550 (by decide) (fun _ => ?_) (fun q => absurd (hv1.trans hv2.symm) q)
      refine lv_iinc (v := 7) (lv' := [(3, .int 7), (2, .ref (r2 0)), (1, .ref (r1 0)), (0, .ref b)]) hx hb dL_law_1716 hl (k := 0) rfl (by decide) (by decide) rfl (fun ls hl => ?_)
      refine lv_goto (tgt := 18) hx hb dL_law_1719 (by decide) ?_
      refine lv_iload_n hx hb dL_law_18 rfl (lv_at hl 0 rfl) ?_
      refine lv_aload_n hx hb dL_law_19 rfl (lv_at hl 3 rfl) ?_
      refine va_slen hx hb hX hbl hbA hw.2.2 dL_law_20 ?_
      refine z_topi (y := 7) (by decide) ?_
      refine lv_bipush (v := 7) hx hb dL_law_21 (by decide) ?_
      refine lv_isub hx hb dL_law_23 ?_
      refine z_topi (y := 0) (by decide) ?_
      refine lv_icmp_gt (tgt := 1722) hx hb dL_law_24 (by decide) (fun _ => ?_) (fun c_24 => absurd c_24 (by decide))
      refine lv_iconst (v := 1) hx hb dL_law_1722 (by decide) ?_
      refine va_forget (fun q hq => hw.2.2.2.2 q hq) ?_
      refine W.widen (k := 600000) (n := 7302250) (Nat.le_of_ble_eq_true rfl) (Nat.le_of_ble_eq_true rfl) ?_
      exact lw_ret hx hb hr hlocks dL_law_1723
    by_cases k32 : k = 32
    · refine z_topi (y := 32) k32 ?_
      refine lv_tableIn (off := 1522) (tgt := 1555) hx hb dL_law_33 (by decide) (by decide) (by decide) (by decide) ?_
      refine lv_aload_n hx hb dL_law_1555 rfl (lv_at hl 2 rfl) ?_
      refine lv_aload_n hx hb dL_law_1556 rfl (lv_at hl 3 rfl) ?_
      refine lv_iload_n hx hb dL_law_1557 rfl (lv_at hl 0 rfl) ?_
      refine lv_iconst (v := 1) hx hb dL_law_1558 (by decide) ?_
      refine lv_iadd hx hb dL_law_1559 ?_
      refine z_topi (y := 1) (by decide) ?_
      refine va_sld hx hb hX hbl hbA hw.2.2 (i := 1) (by unfold vp_in; decide) dL_law_1560 ?_
      refine lv_aload_n hx hb dL_law_1561 rfl (lv_at hl 3 rfl) ?_
      refine lv_iload_n hx hb dL_law_1562 rfl (lv_at hl 0 rfl) ?_
      refine lv_iconst (v := 2) hx hb dL_law_1563 (by decide) ?_
      refine lv_iadd hx hb dL_law_1564 ?_
      refine z_topi (y := 2) (by decide) ?_
      refine va_sld hx hb hX hbl hbA hw.2.2 (i := 2) (by unfold vp_in; decide) dL_law_1565 ?_
      refine z2_k1i hw hA (va_runV (As := [.int (xs (1 : Int32).toNatClampNeg), .int (xs (2 : Int32).toNatClampNeg)]) (rest := []) hcf (c_X11_page l cD cy _ r1 S1 hS1 hF1 ((xs (1 : Int32).toNatClampNeg)) ((xs (2 : Int32).toNatClampNeg))) (cwV 2 hts gL_law_X11_page rfl rfl rfl (by decide +kernel) ⟨Nat.le_of_ble_eq_true rfl, Nat.le_of_ble_eq_true rfl⟩) (z_preV (k := 11) hK hE hw.l (cL hS1 0) (cK hS1 0) (by decide) rfl) rfl rfl hl.1 rfl (lv_room (Nat.le_of_ble_eq_true rfl)) dL_law_1566 ⟨Nat.le_of_ble_eq_true rfl, Nat.le_of_ble_eq_true rfl⟩) (fun v1 S1 H locs hv1 hw => ?_)
      refine lv_aload_n hx hb dL_law_1569 rfl (lv_at hl 1 rfl) ?_
      refine lv_aload_n hx hb dL_law_1570 rfl (lv_at hl 3 rfl) ?_
      refine lv_iload_n hx hb dL_law_1571 rfl (lv_at hl 0 rfl) ?_
      refine lv_iconst (v := 1) hx hb dL_law_1572 (by decide) ?_
      refine lv_iadd hx hb dL_law_1573 ?_
      refine z_topi (y := 1) (by decide) ?_
      refine va_sld hx hb hX hbl hbA hw.2.2 (i := 1) (by unfold vp_in; decide) dL_law_1574 ?_
      refine lv_aload_n hx hb dL_law_1575 rfl (lv_at hl 3 rfl) ?_
      refine lv_iload_n hx hb dL_law_1576 rfl (lv_at hl 0 rfl) ?_
      refine lv_iconst (v := 2) hx hb dL_law_1577 (by decide) ?_
      refine lv_iadd hx hb dL_law_1578 ?_
      refine z_topi (y := 2) (by decide) ?_
      refine va_sld hx hb hX hbl hbA hw.2.2 (i := 2) (by unfold vp_in; decide) dL_law_1579 ?_
      refine z2_k2i hw hA (va_runV (As := [.int (xs (1 : Int32).toNatClampNeg), .int (xs (2 : Int32).toNatClampNeg)]) (rest := [.int v1]) hcf (c_X12_page l cD cy _ r2 S2 hS2 hF2 ((xs (1 : Int32).toNatClampNeg)) ((xs (2 : Int32).toNatClampNeg))) (cwV 2 hts gL_law_X12_page rfl rfl rfl (by decide +kernel) ⟨Nat.le_of_ble_eq_true rfl, Nat.le_of_ble_eq_true rfl⟩) (z_preV (k := 12) hK hE hw.r (mL hS2 0) (mK hS2 0) (by decide) rfl) rfl rfl hl.1 rfl (lv_room (Nat.le_of_ble_eq_true rfl)) dL_law_1580 ⟨Nat.le_of_ble_eq_true rfl, Nat.le_of_ble_eq_true rfl⟩) (fun v2 S2 H locs hv2 hw => ?_)
      refine lv_icmp_eq (tgt := 1716) hx hb dL_law_1583 (by decide) (fun _ => ?_) (fun q => absurd (hv1.trans hv2.symm) q)
      refine lv_iinc (v := 7) (lv' := [(3, .int 7), (2, .ref (r2 0)), (1, .ref (r1 0)), (0, .ref b)]) hx hb dL_law_1716 hl (k := 0) rfl (by decide) (by decide) rfl (fun ls hl => ?_)
      refine lv_goto (tgt := 18) hx hb dL_law_1719 (by decide) ?_
      refine lv_iload_n hx hb dL_law_18 rfl (lv_at hl 0 rfl) ?_
      refine lv_aload_n hx hb dL_law_19 rfl (lv_at hl 3 rfl) ?_
      refine va_slen hx hb hX hbl hbA hw.2.2 dL_law_20 ?_
      refine z_topi (y := 7) (by decide) ?_
      refine lv_bipush (v := 7) hx hb dL_law_21 (by decide) ?_
      refine lv_isub hx hb dL_law_23 ?_
      refine z_topi (y := 0) (by decide) ?_
      refine lv_icmp_gt (tgt := 1722) hx hb dL_law_24 (by decide) (fun _ => ?_) (fun c_24 => absurd c_24 (by decide))
      refine lv_iconst (v := 1) hx hb dL_law_1722 (by decide) ?_
      refine va_forget (fun q hq => hw.2.2.2.2 q hq) ?_
      refine W.widen (k := 600000) (n := 7302250) (Nat.le_of_ble_eq_true rfl) (Nat.le_of_ble_eq_true rfl) ?_
      exact lw_ret hx hb hr hlocks dL_law_1723
    by_cases k33 : k = 33
    · refine z_topi (y := 33) k33 ?_
      refine lv_tableIn (off := 1555) (tgt := 1588) hx hb dL_law_33 (by decide) (by decide) (by decide) (by decide) ?_
      refine lv_aload_n hx hb dL_law_1588 rfl (lv_at hl 2 rfl) ?_
      refine z2_k1i hw hA (va_runV (As := []) (rest := []) hcf (c_X11_drop l cD cy _ r1 S1 hS1 hF1 ) (cwV 0 hts gL_law_X11_drop rfl rfl rfl (by decide +kernel) ⟨Nat.le_of_ble_eq_true rfl, Nat.le_of_ble_eq_true rfl⟩) (z_preV (k := 11) hK hE hw.l (cL hS1 0) (cK hS1 0) (by decide) rfl) rfl rfl hl.1 rfl (lv_room (Nat.le_of_ble_eq_true rfl)) dL_law_1589 ⟨Nat.le_of_ble_eq_true rfl, Nat.le_of_ble_eq_true rfl⟩) (fun v1 S1 H locs hv1 hw => ?_)
      refine lv_aload_n hx hb dL_law_1592 rfl (lv_at hl 1 rfl) ?_
      refine z2_k2i hw hA (va_runV (As := []) (rest := [.int v1]) hcf (c_X12_drop l cD cy _ r2 S2 hS2 hF2 ) (cwV 0 hts gL_law_X12_drop rfl rfl rfl (by decide +kernel) ⟨Nat.le_of_ble_eq_true rfl, Nat.le_of_ble_eq_true rfl⟩) (z_preV (k := 12) hK hE hw.r (mL hS2 0) (mK hS2 0) (by decide) rfl) rfl rfl hl.1 rfl (lv_room (Nat.le_of_ble_eq_true rfl)) dL_law_1593 ⟨Nat.le_of_ble_eq_true rfl, Nat.le_of_ble_eq_true rfl⟩) (fun v2 S2 H locs hv2 hw => ?_)
      refine lv_icmp_eq (tgt := 1716) hx hb dL_law_1596 (by decide) (fun _ => ?_) (fun q => absurd (hv1.trans hv2.symm) q)
      refine lv_iinc (v := 7) (lv' := [(3, .int 7), (2, .ref (r2 0)), (1, .ref (r1 0)), (0, .ref b)]) hx hb dL_law_1716 hl (k := 0) rfl (by decide) (by decide) rfl (fun ls hl => ?_)
      refine lv_goto (tgt := 18) hx hb dL_law_1719 (by decide) ?_
      refine lv_iload_n hx hb dL_law_18 rfl (lv_at hl 0 rfl) ?_
      refine lv_aload_n hx hb dL_law_19 rfl (lv_at hl 3 rfl) ?_
      refine va_slen hx hb hX hbl hbA hw.2.2 dL_law_20 ?_
      refine z_topi (y := 7) (by decide) ?_
      refine lv_bipush (v := 7) hx hb dL_law_21 (by decide) ?_
      refine lv_isub hx hb dL_law_23 ?_
      refine z_topi (y := 0) (by decide) ?_
      refine lv_icmp_gt (tgt := 1722) hx hb dL_law_24 (by decide) (fun _ => ?_) (fun c_24 => absurd c_24 (by decide))
      refine lv_iconst (v := 1) hx hb dL_law_1722 (by decide) ?_
      refine va_forget (fun q hq => hw.2.2.2.2 q hq) ?_
      refine W.widen (k := 600000) (n := 7302250) (Nat.le_of_ble_eq_true rfl) (Nat.le_of_ble_eq_true rfl) ?_
      exact lw_ret hx hb hr hlocks dL_law_1723
    by_cases k34 : k = 34
    · refine z_topi (y := 34) k34 ?_
      refine lv_tableIn (off := 1568) (tgt := 1601) hx hb dL_law_33 (by decide) (by decide) (by decide) (by decide) ?_
      refine lv_aload_n hx hb dL_law_1601 rfl (lv_at hl 2 rfl) ?_
      refine lv_aload_n hx hb dL_law_1602 rfl (lv_at hl 3 rfl) ?_
      refine lv_iload_n hx hb dL_law_1603 rfl (lv_at hl 0 rfl) ?_
      refine lv_iconst (v := 1) hx hb dL_law_1604 (by decide) ?_
      refine lv_iadd hx hb dL_law_1605 ?_
      refine z_topi (y := 1) (by decide) ?_
      refine va_sld hx hb hX hbl hbA hw.2.2 (i := 1) (by unfold vp_in; decide) dL_law_1606 ?_
      refine lv_aload_n hx hb dL_law_1607 rfl (lv_at hl 3 rfl) ?_
      refine lv_iload_n hx hb dL_law_1608 rfl (lv_at hl 0 rfl) ?_
      refine lv_iconst (v := 2) hx hb dL_law_1609 (by decide) ?_
      refine lv_iadd hx hb dL_law_1610 ?_
      refine z_topi (y := 2) (by decide) ?_
      refine va_sld hx hb hX hbl hbA hw.2.2 (i := 2) (by unfold vp_in; decide) dL_law_1611 ?_
      refine lv_aload_n hx hb dL_law_1612 rfl (lv_at hl 3 rfl) ?_
      refine lv_iload_n hx hb dL_law_1613 rfl (lv_at hl 0 rfl) ?_
      refine lv_iconst (v := 3) hx hb dL_law_1614 (by decide) ?_
      refine lv_iadd hx hb dL_law_1615 ?_
      refine z_topi (y := 3) (by decide) ?_
      refine va_sld hx hb hX hbl hbA hw.2.2 (i := 3) (by unfold vp_in; decide) dL_law_1616 ?_
      refine z2_k1i hw hA (va_runV (As := [.int (xs (1 : Int32).toNatClampNeg), .int (xs (2 : Int32).toNatClampNeg), .int (xs (3 : Int32).toNatClampNeg)]) (rest := []) hcf (c_X11_act l cD cy _ r1 S1 hS1 hF1 ((xs (1 : Int32).toNatClampNeg)) ((xs (2 : Int32).toNatClampNeg)) ((xs (3 : Int32).toNatClampNeg))) (cwV 3 hts gL_law_X11_act rfl rfl rfl (by decide +kernel) ⟨Nat.le_of_ble_eq_true rfl, Nat.le_of_ble_eq_true rfl⟩) (z_preV (k := 11) hK hE hw.l (cL hS1 0) (cK hS1 0) (by decide) rfl) rfl rfl hl.1 rfl (lv_room (Nat.le_of_ble_eq_true rfl)) dL_law_1617 ⟨Nat.le_of_ble_eq_true rfl, Nat.le_of_ble_eq_true rfl⟩) (fun v1 S1 H locs hv1 hw => ?_)
      refine lv_aload_n hx hb dL_law_1620 rfl (lv_at hl 1 rfl) ?_
      refine lv_aload_n hx hb dL_law_1621 rfl (lv_at hl 3 rfl) ?_
      refine lv_iload_n hx hb dL_law_1622 rfl (lv_at hl 0 rfl) ?_
      refine lv_iconst (v := 1) hx hb dL_law_1623 (by decide) ?_
      refine lv_iadd hx hb dL_law_1624 ?_
      refine z_topi (y := 1) (by decide) ?_
      refine va_sld hx hb hX hbl hbA hw.2.2 (i := 1) (by unfold vp_in; decide) dL_law_1625 ?_
      refine lv_aload_n hx hb dL_law_1626 rfl (lv_at hl 3 rfl) ?_
      refine lv_iload_n hx hb dL_law_1627 rfl (lv_at hl 0 rfl) ?_
      refine lv_iconst (v := 2) hx hb dL_law_1628 (by decide) ?_
      refine lv_iadd hx hb dL_law_1629 ?_
      refine z_topi (y := 2) (by decide) ?_
      refine va_sld hx hb hX hbl hbA hw.2.2 (i := 2) (by unfold vp_in; decide) dL_law_1630 ?_
      refine lv_aload_n hx hb dL_law_1631 rfl (lv_at hl 3 rfl) ?_
      refine lv_iload_n hx hb dL_law_1632 rfl (lv_at hl 0 rfl) ?_
      refine lv_iconst (v := 3) hx hb dL_law_1633 (by decide) ?_
      refine lv_iadd hx hb dL_law_1634 ?_
      refine z_topi (y := 3) (by decide) ?_
      refine va_sld hx hb hX hbl hbA hw.2.2 (i := 3) (by unfold vp_in; decide) dL_law_1635 ?_
      refine z2_k2i hw hA (va_runV (As := [.int (xs (1 : Int32).toNatClampNeg), .int (xs (2 : Int32).toNatClampNeg), .int (xs (3 : Int32).toNatClampNeg)]) (rest := [.int v1]) hcf (c_X12_act l cD cy _ r2 S2 hS2 hF2 ((xs (1 : Int32).toNatClampNeg)) ((xs (2 : Int32).toNatClampNeg)) ((xs (3 : Int32).toNatClampNeg))) (cwV 3 hts gL_law_X12_act rfl rfl rfl (by decide +kernel) ⟨Nat.le_of_ble_eq_true rfl, Nat.le_of_ble_eq_true rfl⟩) (z_preV (k := 12) hK hE hw.r (mL hS2 0) (mK hS2 0) (by decide) rfl) rfl rfl hl.1 rfl (lv_room (Nat.le_of_ble_eq_true rfl)) dL_law_1636 ⟨Nat.le_of_ble_eq_true rfl, Nat.le_of_ble_eq_true rfl⟩) (fun v2 S2 H locs hv2 hw => ?_)
      refine lv_icmp_eq (tgt := 1716) hx hb dL_law_1639 (by decide) (fun _ => ?_) (fun q => absurd (hv1.trans hv2.symm) q)
      refine lv_iinc (v := 7) (lv' := [(3, .int 7), (2, .ref (r2 0)), (1, .ref (r1 0)), (0, .ref b)]) hx hb dL_law_1716 hl (k := 0) rfl (by decide) (by decide) rfl (fun ls hl => ?_)
      refine lv_goto (tgt := 18) hx hb dL_law_1719 (by decide) ?_
      refine lv_iload_n hx hb dL_law_18 rfl (lv_at hl 0 rfl) ?_
      refine lv_aload_n hx hb dL_law_19 rfl (lv_at hl 3 rfl) ?_
      refine va_slen hx hb hX hbl hbA hw.2.2 dL_law_20 ?_
      refine z_topi (y := 7) (by decide) ?_
      refine lv_bipush (v := 7) hx hb dL_law_21 (by decide) ?_
      refine lv_isub hx hb dL_law_23 ?_
      refine z_topi (y := 0) (by decide) ?_
      refine lv_icmp_gt (tgt := 1722) hx hb dL_law_24 (by decide) (fun _ => ?_) (fun c_24 => absurd c_24 (by decide))
      refine lv_iconst (v := 1) hx hb dL_law_1722 (by decide) ?_
      refine va_forget (fun q hq => hw.2.2.2.2 q hq) ?_
      refine W.widen (k := 600000) (n := 7302250) (Nat.le_of_ble_eq_true rfl) (Nat.le_of_ble_eq_true rfl) ?_
      exact lw_ret hx hb hr hlocks dL_law_1723
    by_cases k35 : k = 35
    · refine z_topi (y := 35) k35 ?_
      refine lv_tableIn (off := 1611) (tgt := 1644) hx hb dL_law_33 (by decide) (by decide) (by decide) (by decide) ?_
      refine lv_aload_n hx hb dL_law_1644 rfl (lv_at hl 2 rfl) ?_
      refine lv_aload_n hx hb dL_law_1645 rfl (lv_at hl 3 rfl) ?_
      refine lv_iload_n hx hb dL_law_1646 rfl (lv_at hl 0 rfl) ?_
      refine lv_iconst (v := 1) hx hb dL_law_1647 (by decide) ?_
      refine lv_iadd hx hb dL_law_1648 ?_
      refine z_topi (y := 1) (by decide) ?_
      refine va_sld hx hb hX hbl hbA hw.2.2 (i := 1) (by unfold vp_in; decide) dL_law_1649 ?_
      refine z2_k1i hw hA (va_runV (As := [.int (xs (1 : Int32).toNatClampNeg)]) (rest := []) hcf (c_X11_trace l cD cy _ r1 S1 hS1 hF1 ((xs (1 : Int32).toNatClampNeg))) (cwV 1 hts gL_law_X11_trace rfl rfl rfl (by decide +kernel) ⟨Nat.le_of_ble_eq_true rfl, Nat.le_of_ble_eq_true rfl⟩) (z_preV (k := 11) hK hE hw.l (cL hS1 0) (cK hS1 0) (by decide) rfl) rfl rfl hl.1 rfl (lv_room (Nat.le_of_ble_eq_true rfl)) dL_law_1650 ⟨Nat.le_of_ble_eq_true rfl, Nat.le_of_ble_eq_true rfl⟩) (fun v1 S1 H locs hv1 hw => ?_)
      refine lv_aload_n hx hb dL_law_1653 rfl (lv_at hl 1 rfl) ?_
      refine lv_aload_n hx hb dL_law_1654 rfl (lv_at hl 3 rfl) ?_
      refine lv_iload_n hx hb dL_law_1655 rfl (lv_at hl 0 rfl) ?_
      refine lv_iconst (v := 1) hx hb dL_law_1656 (by decide) ?_
      refine lv_iadd hx hb dL_law_1657 ?_
      refine z_topi (y := 1) (by decide) ?_
      refine va_sld hx hb hX hbl hbA hw.2.2 (i := 1) (by unfold vp_in; decide) dL_law_1658 ?_
      refine z2_k2i hw hA (va_runV (As := [.int (xs (1 : Int32).toNatClampNeg)]) (rest := [.int v1]) hcf (c_X12_trace l cD cy _ r2 S2 hS2 hF2 ((xs (1 : Int32).toNatClampNeg))) (cwV 1 hts gL_law_X12_trace rfl rfl rfl (by decide +kernel) ⟨Nat.le_of_ble_eq_true rfl, Nat.le_of_ble_eq_true rfl⟩) (z_preV (k := 12) hK hE hw.r (mL hS2 0) (mK hS2 0) (by decide) rfl) rfl rfl hl.1 rfl (lv_room (Nat.le_of_ble_eq_true rfl)) dL_law_1659 ⟨Nat.le_of_ble_eq_true rfl, Nat.le_of_ble_eq_true rfl⟩) (fun v2 S2 H locs hv2 hw => ?_)
      refine lv_icmp_eq (tgt := 1716) hx hb dL_law_1662 (by decide) (fun _ => ?_) (fun q => absurd (hv1.trans hv2.symm) q)
      refine lv_iinc (v := 7) (lv' := [(3, .int 7), (2, .ref (r2 0)), (1, .ref (r1 0)), (0, .ref b)]) hx hb dL_law_1716 hl (k := 0) rfl (by decide) (by decide) rfl (fun ls hl => ?_)
      refine lv_goto (tgt := 18) hx hb dL_law_1719 (by decide) ?_
      refine lv_iload_n hx hb dL_law_18 rfl (lv_at hl 0 rfl) ?_
      refine lv_aload_n hx hb dL_law_19 rfl (lv_at hl 3 rfl) ?_
      refine va_slen hx hb hX hbl hbA hw.2.2 dL_law_20 ?_
      refine z_topi (y := 7) (by decide) ?_
      refine lv_bipush (v := 7) hx hb dL_law_21 (by decide) ?_
      refine lv_isub hx hb dL_law_23 ?_
      refine z_topi (y := 0) (by decide) ?_
      refine lv_icmp_gt (tgt := 1722) hx hb dL_law_24 (by decide) (fun _ => ?_) (fun c_24 => absurd c_24 (by decide))
      refine lv_iconst (v := 1) hx hb dL_law_1722 (by decide) ?_
      refine va_forget (fun q hq => hw.2.2.2.2 q hq) ?_
      refine W.widen (k := 600000) (n := 7302250) (Nat.le_of_ble_eq_true rfl) (Nat.le_of_ble_eq_true rfl) ?_
      exact lw_ret hx hb hr hlocks dL_law_1723
    by_cases k36 : k = 36
    · refine z_topi (y := 36) k36 ?_
      refine lv_tableIn (off := 1634) (tgt := 1667) hx hb dL_law_33 (by decide) (by decide) (by decide) (by decide) ?_
      refine lv_aload_n hx hb dL_law_1667 rfl (lv_at hl 2 rfl) ?_
      refine z2_k1i hw hA (va_runV (As := []) (rest := []) hcf (c_X11_image l cD cy _ r1 S1 hS1 hF1 ) (cwV 0 hts gL_law_X11_image rfl rfl rfl (by decide +kernel) ⟨Nat.le_of_ble_eq_true rfl, Nat.le_of_ble_eq_true rfl⟩) (z_preV (k := 11) hK hE hw.l (cL hS1 0) (cK hS1 0) (by decide) rfl) rfl rfl hl.1 rfl (lv_room (Nat.le_of_ble_eq_true rfl)) dL_law_1668 ⟨Nat.le_of_ble_eq_true rfl, Nat.le_of_ble_eq_true rfl⟩) (fun v1 S1 H locs hv1 hw => ?_)
      refine lv_aload_n hx hb dL_law_1671 rfl (lv_at hl 1 rfl) ?_
      refine z2_k2i hw hA (va_runV (As := []) (rest := [.int v1]) hcf (c_X12_image l cD cy _ r2 S2 hS2 hF2 ) (cwV 0 hts gL_law_X12_image rfl rfl rfl (by decide +kernel) ⟨Nat.le_of_ble_eq_true rfl, Nat.le_of_ble_eq_true rfl⟩) (z_preV (k := 12) hK hE hw.r (mL hS2 0) (mK hS2 0) (by decide) rfl) rfl rfl hl.1 rfl (lv_room (Nat.le_of_ble_eq_true rfl)) dL_law_1672 ⟨Nat.le_of_ble_eq_true rfl, Nat.le_of_ble_eq_true rfl⟩) (fun v2 S2 H locs hv2 hw => ?_)
      refine lv_icmp_eq (tgt := 1716) hx hb dL_law_1675 (by decide) (fun _ => ?_) (fun q => absurd (hv1.trans hv2.symm) q)
      refine lv_iinc (v := 7) (lv' := [(3, .int 7), (2, .ref (r2 0)), (1, .ref (r1 0)), (0, .ref b)]) hx hb dL_law_1716 hl (k := 0) rfl (by decide) (by decide) rfl (fun ls hl => ?_)
      refine lv_goto (tgt := 18) hx hb dL_law_1719 (by decide) ?_
      refine lv_iload_n hx hb dL_law_18 rfl (lv_at hl 0 rfl) ?_
      refine lv_aload_n hx hb dL_law_19 rfl (lv_at hl 3 rfl) ?_
      refine va_slen hx hb hX hbl hbA hw.2.2 dL_law_20 ?_
      refine z_topi (y := 7) (by decide) ?_
      refine lv_bipush (v := 7) hx hb dL_law_21 (by decide) ?_
      refine lv_isub hx hb dL_law_23 ?_
      refine z_topi (y := 0) (by decide) ?_
      refine lv_icmp_gt (tgt := 1722) hx hb dL_law_24 (by decide) (fun _ => ?_) (fun c_24 => absurd c_24 (by decide))
      refine lv_iconst (v := 1) hx hb dL_law_1722 (by decide) ?_
      refine va_forget (fun q hq => hw.2.2.2.2 q hq) ?_
      refine W.widen (k := 600000) (n := 7302250) (Nat.le_of_ble_eq_true rfl) (Nat.le_of_ble_eq_true rfl) ?_
      exact lw_ret hx hb hr hlocks dL_law_1723
    by_cases k37 : k = 37
    · refine z_topi (y := 37) k37 ?_
      refine lv_tableIn (off := 1647) (tgt := 1680) hx hb dL_law_33 (by decide) (by decide) (by decide) (by decide) ?_
      refine lv_aload_n hx hb dL_law_1680 rfl (lv_at hl 2 rfl) ?_
      refine z2_k1i hw hA (va_runV (As := []) (rest := []) hcf (c_X11_restore l cD cy _ r1 S1 hS1 hF1 ) (cwV 0 hts gL_law_X11_restore rfl rfl rfl (by decide +kernel) ⟨Nat.le_of_ble_eq_true rfl, Nat.le_of_ble_eq_true rfl⟩) (z_preV (k := 11) hK hE hw.l (cL hS1 0) (cK hS1 0) (by decide) rfl) rfl rfl hl.1 rfl (lv_room (Nat.le_of_ble_eq_true rfl)) dL_law_1681 ⟨Nat.le_of_ble_eq_true rfl, Nat.le_of_ble_eq_true rfl⟩) (fun v1 S1 H locs hv1 hw => ?_)
      refine lv_aload_n hx hb dL_law_1684 rfl (lv_at hl 1 rfl) ?_
      refine z2_k2i hw hA (va_runV (As := []) (rest := [.int v1]) hcf (c_X12_restore l cD cy _ r2 S2 hS2 hF2 ) (cwV 0 hts gL_law_X12_restore rfl rfl rfl (by decide +kernel) ⟨Nat.le_of_ble_eq_true rfl, Nat.le_of_ble_eq_true rfl⟩) (z_preV (k := 12) hK hE hw.r (mL hS2 0) (mK hS2 0) (by decide) rfl) rfl rfl hl.1 rfl (lv_room (Nat.le_of_ble_eq_true rfl)) dL_law_1685 ⟨Nat.le_of_ble_eq_true rfl, Nat.le_of_ble_eq_true rfl⟩) (fun v2 S2 H locs hv2 hw => ?_)
      refine lv_icmp_eq (tgt := 1716) hx hb dL_law_1688 (by decide) (fun _ => ?_) (fun q => absurd (hv1.trans hv2.symm) q)
      refine lv_iinc (v := 7) (lv' := [(3, .int 7), (2, .ref (r2 0)), (1, .ref (r1 0)), (0, .ref b)]) hx hb dL_law_1716 hl (k := 0) rfl (by decide) (by decide) rfl (fun ls hl => ?_)
      refine lv_goto (tgt := 18) hx hb dL_law_1719 (by decide) ?_
      refine lv_iload_n hx hb dL_law_18 rfl (lv_at hl 0 rfl) ?_
      refine lv_aload_n hx hb dL_law_19 rfl (lv_at hl 3 rfl) ?_
      refine va_slen hx hb hX hbl hbA hw.2.2 dL_law_20 ?_
      refine z_topi (y := 7) (by decide) ?_
      refine lv_bipush (v := 7) hx hb dL_law_21 (by decide) ?_
      refine lv_isub hx hb dL_law_23 ?_
      refine z_topi (y := 0) (by decide) ?_
      refine lv_icmp_gt (tgt := 1722) hx hb dL_law_24 (by decide) (fun _ => ?_) (fun c_24 => absurd c_24 (by decide))
      refine lv_iconst (v := 1) hx hb dL_law_1722 (by decide) ?_
      refine va_forget (fun q hq => hw.2.2.2.2 q hq) ?_
      refine W.widen (k := 600000) (n := 7302250) (Nat.le_of_ble_eq_true rfl) (Nat.le_of_ble_eq_true rfl) ?_
      exact lw_ret hx hb hr hlocks dL_law_1723
    by_cases k38 : k = 38
    · refine z_topi (y := 38) k38 ?_
      refine lv_tableIn (off := 1660) (tgt := 1693) hx hb dL_law_33 (by decide) (by decide) (by decide) (by decide) ?_
      refine lv_aload_n hx hb dL_law_1693 rfl (lv_at hl 2 rfl) ?_
      refine lv_aload_n hx hb dL_law_1694 rfl (lv_at hl 3 rfl) ?_
      refine lv_iload_n hx hb dL_law_1695 rfl (lv_at hl 0 rfl) ?_
      refine lv_iconst (v := 1) hx hb dL_law_1696 (by decide) ?_
      refine lv_iadd hx hb dL_law_1697 ?_
      refine z_topi (y := 1) (by decide) ?_
      refine va_sld hx hb hX hbl hbA hw.2.2 (i := 1) (by unfold vp_in; decide) dL_law_1698 ?_
      refine z2_k1i hw hA (va_runV (As := [.int (xs (1 : Int32).toNatClampNeg)]) (rest := []) hcf (c_X11_status l cD cy _ r1 S1 hS1 hF1 ((xs (1 : Int32).toNatClampNeg))) (cwV 1 hts gL_law_X11_status rfl rfl rfl (by decide +kernel) ⟨Nat.le_of_ble_eq_true rfl, Nat.le_of_ble_eq_true rfl⟩) (z_preV (k := 11) hK hE hw.l (cL hS1 0) (cK hS1 0) (by decide) rfl) rfl rfl hl.1 rfl (lv_room (Nat.le_of_ble_eq_true rfl)) dL_law_1699 ⟨Nat.le_of_ble_eq_true rfl, Nat.le_of_ble_eq_true rfl⟩) (fun v1 S1 H locs hv1 hw => ?_)
      refine lv_aload_n hx hb dL_law_1702 rfl (lv_at hl 1 rfl) ?_
      refine lv_aload_n hx hb dL_law_1703 rfl (lv_at hl 3 rfl) ?_
      refine lv_iload_n hx hb dL_law_1704 rfl (lv_at hl 0 rfl) ?_
      refine lv_iconst (v := 1) hx hb dL_law_1705 (by decide) ?_
      refine lv_iadd hx hb dL_law_1706 ?_
      refine z_topi (y := 1) (by decide) ?_
      refine va_sld hx hb hX hbl hbA hw.2.2 (i := 1) (by unfold vp_in; decide) dL_law_1707 ?_
      refine z2_k2i hw hA (va_runV (As := [.int (xs (1 : Int32).toNatClampNeg)]) (rest := [.int v1]) hcf (c_X12_status l cD cy _ r2 S2 hS2 hF2 ((xs (1 : Int32).toNatClampNeg))) (cwV 1 hts gL_law_X12_status rfl rfl rfl (by decide +kernel) ⟨Nat.le_of_ble_eq_true rfl, Nat.le_of_ble_eq_true rfl⟩) (z_preV (k := 12) hK hE hw.r (mL hS2 0) (mK hS2 0) (by decide) rfl) rfl rfl hl.1 rfl (lv_room (Nat.le_of_ble_eq_true rfl)) dL_law_1708 ⟨Nat.le_of_ble_eq_true rfl, Nat.le_of_ble_eq_true rfl⟩) (fun v2 S2 H locs hv2 hw => ?_)
      refine lv_icmp_eq (tgt := 1716) hx hb dL_law_1711 (by decide) (fun _ => ?_) (fun q => absurd (hv1.trans hv2.symm) q)
      refine lv_iinc (v := 7) (lv' := [(3, .int 7), (2, .ref (r2 0)), (1, .ref (r1 0)), (0, .ref b)]) hx hb dL_law_1716 hl (k := 0) rfl (by decide) (by decide) rfl (fun ls hl => ?_)
      refine lv_goto (tgt := 18) hx hb dL_law_1719 (by decide) ?_
      refine lv_iload_n hx hb dL_law_18 rfl (lv_at hl 0 rfl) ?_
      refine lv_aload_n hx hb dL_law_19 rfl (lv_at hl 3 rfl) ?_
      refine va_slen hx hb hX hbl hbA hw.2.2 dL_law_20 ?_
      refine z_topi (y := 7) (by decide) ?_
      refine lv_bipush (v := 7) hx hb dL_law_21 (by decide) ?_
      refine lv_isub hx hb dL_law_23 ?_
      refine z_topi (y := 0) (by decide) ?_
      refine lv_icmp_gt (tgt := 1722) hx hb dL_law_24 (by decide) (fun _ => ?_) (fun c_24 => absurd c_24 (by decide))
      refine lv_iconst (v := 1) hx hb dL_law_1722 (by decide) ?_
      refine va_forget (fun q hq => hw.2.2.2.2 q hq) ?_
      refine W.widen (k := 600000) (n := 7302250) (Nat.le_of_ble_eq_true rfl) (Nat.le_of_ble_eq_true rfl) ?_
      exact lw_ret hx hb hr hlocks dL_law_1723
    have hout : k.toInt < 0 ∨ 38 < k.toInt := by
      have q0 := lv_neT k0 (a := 0) (by decide)
      have q1 := lv_neT k1 (a := 1) (by decide)
      have q2 := lv_neT k2 (a := 2) (by decide)
      have q3 := lv_neT k3 (a := 3) (by decide)
      have q4 := lv_neT k4 (a := 4) (by decide)
      have q5 := lv_neT k5 (a := 5) (by decide)
      have q6 := lv_neT k6 (a := 6) (by decide)
      have q7 := lv_neT k7 (a := 7) (by decide)
      have q8 := lv_neT k8 (a := 8) (by decide)
      have q9 := lv_neT k9 (a := 9) (by decide)
      have q10 := lv_neT k10 (a := 10) (by decide)
      have q11 := lv_neT k11 (a := 11) (by decide)
      have q12 := lv_neT k12 (a := 12) (by decide)
      have q13 := lv_neT k13 (a := 13) (by decide)
      have q14 := lv_neT k14 (a := 14) (by decide)
      have q15 := lv_neT k15 (a := 15) (by decide)
      have q16 := lv_neT k16 (a := 16) (by decide)
      have q17 := lv_neT k17 (a := 17) (by decide)
      have q18 := lv_neT k18 (a := 18) (by decide)
      have q19 := lv_neT k19 (a := 19) (by decide)
      have q20 := lv_neT k20 (a := 20) (by decide)
      have q21 := lv_neT k21 (a := 21) (by decide)
      have q22 := lv_neT k22 (a := 22) (by decide)
      have q23 := lv_neT k23 (a := 23) (by decide)
      have q24 := lv_neT k24 (a := 24) (by decide)
      have q25 := lv_neT k25 (a := 25) (by decide)
      have q26 := lv_neT k26 (a := 26) (by decide)
      have q27 := lv_neT k27 (a := 27) (by decide)
      have q28 := lv_neT k28 (a := 28) (by decide)
      have q29 := lv_neT k29 (a := 29) (by decide)
      have q30 := lv_neT k30 (a := 30) (by decide)
      have q31 := lv_neT k31 (a := 31) (by decide)
      have q32 := lv_neT k32 (a := 32) (by decide)
      have q33 := lv_neT k33 (a := 33) (by decide)
      have q34 := lv_neT k34 (a := 34) (by decide)
      have q35 := lv_neT k35 (a := 35) (by decide)
      have q36 := lv_neT k36 (a := 36) (by decide)
      have q37 := lv_neT k37 (a := 37) (by decide)
      have q38 := lv_neT k38 (a := 38) (by decide)
      omega
    refine lv_tableOut (tgt := 1716) hx hb dL_law_33 hout (by decide) ?_
    refine lv_iinc (v := 7) (lv' := [(3, .int 7), (2, .ref (r2 0)), (1, .ref (r1 0)), (0, .ref b)]) hx hb dL_law_1716 hl (k := 0) rfl (by decide) (by decide) rfl (fun ls hl => ?_)
    refine lv_goto (tgt := 18) hx hb dL_law_1719 (by decide) ?_
    refine lv_iload_n hx hb dL_law_18 rfl (lv_at hl 0 rfl) ?_
    refine lv_aload_n hx hb dL_law_19 rfl (lv_at hl 3 rfl) ?_
    refine va_slen hx hb hX hbl hbA hw.2.2 dL_law_20 ?_
    refine z_topi (y := 7) (by decide) ?_
    refine lv_bipush (v := 7) hx hb dL_law_21 (by decide) ?_
    refine lv_isub hx hb dL_law_23 ?_
    refine z_topi (y := 0) (by decide) ?_
    refine lv_icmp_gt (tgt := 1722) hx hb dL_law_24 (by decide) (fun _ => ?_) (fun c_24 => absurd c_24 (by decide))
    refine lv_iconst (v := 1) hx hb dL_law_1722 (by decide) ?_
    refine va_forget (fun q hq => hw.2.2.2.2 q hq) ?_
    refine W.widen (k := 600000) (n := 7302250) (Nat.le_of_ble_eq_true rfl) (Nat.le_of_ble_eq_true rfl) ?_
    exact lw_ret hx hb hr hlocks dL_law_1723
set_option maxHeartbeats 4000000 in
theorem lw_walk (l : Launch) (hflags : l.flags = flags0) (b : Addr) (xs : List Int32) : MetFree l x (headSpec (Jvm.Cond.code x code maxLocals ret :: tables_1) room_1) (lw_P b xs) (fun _ _ _ _ _ => True) lw_Q := by
  refine MetFree.of_bodyS (code := code) (maxLocals := maxLocals) (ret := ret) (by decide) ?_ ?_
  · intro args s m h hn
    obtain ⟨meth, c, h1, h2, h3, h4, h5, h6, -, -⟩ := Cond.code_spec hn (atoms_spec (ws := Jvm.Cond.code x code maxLocals ret :: tables_1) h _ List.mem_cons_self)
    exact ⟨meth, c, h1, h2, h3, h4, h5, h6⟩
  · intro p e s m args below meth c s₁ B hml0 hP _
    obtain ⟨rfl, hx, hbd, hgv⟩ := hP
    obtain ⟨scr, harrAt, hlist, hof, hsmall⟩ := hx
    obtain ⟨hcb, hkn, -, -⟩ := State.arrayAt?_spec harrAt
    have hown : s.vm.findClass R_law = some m.cls := findClass_of_methodNamed B.named
    have hts0 : ∀ c ∈ (Jvm.Cond.code x code maxLocals ret :: tables_1), c.before #[Value.ref b] s = true := atoms_spec (ws := Jvm.Cond.code x code maxLocals ret :: tables_1) B.pre
    have hts : ∀ w ∈ lw_tbl, w.before #[Value.ref b] s = true := k2_hts_sels lw_privs (fun w hw => hts0 w (List.mem_cons_of_mem _ hw)) lw_privs_ok
    have hml : c.maxLocals = 4 := B.maxLocals_eq (hts0 _ List.mem_cons_self)
    have X₀ : Stand p l e room_1 s m #[Value.ref b] below meth c s₁ [] 0 0 := Stand.of_body B
    have hh0 : s₁.heap = s.heap := by rw [B.state]; rfl
    have hsz : scr.slots.size = xs.length := by rw [← Array.length_toList, hlist, List.length_map]
    have hval : ∀ j : Nat, j < xs.length → scr.slots[j]? = some (.int (xs.getD j 0)) := fun j hj => by
      rw [← Array.getElem?_toList, hlist]
      simp [hj]
    have hbl : b < s.heap.size := (Array.getElem?_eq_some_iff.mp hcb).1
    have hX : va_X b xs.length (fun j => xs.getD j 0) s s.heap := ⟨scr, hcb, hof, hkn, hsz, hval⟩
    have K : W p l e room_1 s m #[Value.ref b] below meth c s₁.heap [] 0 0 (lw_Z below #[Value.ref b] s) (entryFrame m ([Value.ref b] : List Value).toArray 4) := by
      rw [hh0]
      exact whole_start l hflags hbd ⟨B.exec, B.bytes, B.returns, hml, hown, hts, hX, hbl, B.notSynchronized, hgv⟩
    obtain ⟨t, a1, o, b1, b2, b3⟩ := K s₁ rfl X₀
    exact ⟨t, o, a1, b1, b2, b3⟩
theorem lw_pre_spec {args : Array Value} {s : State} (h : (Jvm.Cond.and given_1 narrow_1).before args s = true) (hr : rest_1_c.before args s = true) : ∃ (b : Addr) (xs : List Int32), lw_P b xs args s := by
  have hs := flat_of_before _ h
  have hq := flat_of_before _ hr
  have hc : (Cond.count 1).before args s = true := hs _ (by decide +kernel)
  have harr : (Cond.arrayOf (.arg 0) .int).before args s = true := hs _ (by decide +kernel)
  have hle : (Cond.le (.length (.arg 0)) (.int 7)).before args s = true := hs _ (by decide +kernel)
  have hlen : (Cond.isInt (.length (.arg 0))).before args s = true := hq _ (by decide +kernel)
  have hall : (Cond.all (.arg 0) (.isInt (.elem (.arg 0) (.index 0)))).before args s = true := hq _ (by decide +kernel)
  obtain ⟨b, xs, hb, hx⟩ := State.ints_of_pre rfl harr hlen hall
  have hsm : xs.length < 2 ^ 31 := hx.choose_spec.2.2.2
  have hev : (Term.length (.arg 0)).eval args s none [] s = some (.int xs.length.toInt32) := hx.length_eval hb
  have hv := Cond.le_ints hev (show (Term.int 7).eval args s none [] s = some (.int 7) from rfl)
  have hd : xs.length.toInt32 ≤ 7 := by
    simpa [Cond.before, Cond.holds, hv] using hle
  have hN : xs.length ≤ 7 := (Int32.ofNat_le_ofNat hsm (by decide)).mp (show Int32.ofNat xs.length ≤ Int32.ofNat 7 from hd)
  exact ⟨b, xs, Cond.one_arg hc (show args[0]? = some (.ref b) from hb), hx, hN, h⟩
theorem lw_comes (l : Launch) (hflags : l.flags = flags0) : Comes l x (Jvm.Cond.code x code maxLocals ret :: tables_1) room_1 (fun tb e args s => Calls_1 tb e args s ∧ rest_1 tb e args s ∧ Pre_1 tb e args s)
    (fun _ _ args s o t => lw_Q args s o t) := by
  intro p e ha hc hk s m args below hf hfit hheap happ hpre
  obtain ⟨b, xs, hP⟩ := lw_pre_spec hpre.2.2 hpre.2.1
  obtain ⟨k, o, h1, h2, h3, hQ⟩ := lw_walk l hflags b xs p e ha hc hk s m args below hf ((Spec.applies_iff_loose hf).mp happ).1 hP trivial
  exact ⟨k, o, h1, h2, h3, hQ⟩
theorem lw_frame {s t : State} {o : Outcome} {args : Array Value} (h : Framed s o t [] 600000 7302250) :
    Framed s o t (fieldLocs frame_1_writes args s ++ arrayLocs frame_1_arrays args s ++ staticLocs frame_1_statics s) 600000 7302250 := h
theorem lw_limb (L : Cond) (hL : ∀ (args : Array Value) (s t : State), L.after args s (.returned (some (.int 1))) t = true) :
    ArmFor flags0 classFile x code maxLocals ret World_1 tables_1 room_1 Calls_1 rest_1 Pre_1
      (fun tb e a s o t => postC L tb e a s o t ∧ Framed s o t (fieldLocs frame_1_writes a s ++ arrayLocs frame_1_arrays a s ++ staticLocs frame_1_statics s) 600000 7302250) := by
  intro l hflags _ _ p e ha hc hk s m args below hf hfit hheap happ hpre
  obtain ⟨k, o, h1, h2, h3, rfl, hF⟩ := lw_comes l hflags p e ha hc hk s m args below hf hfit hheap happ hpre
  exact ⟨k, _, h1, h2, h3, hL args s _, lw_frame hF⟩
theorem i_vc : Claimed_1_1 ∧ Claimed_1_2 := ⟨lw_limb limb_1_1 (fun args s t => by simp [limb_1_1, Cond.after, Cond.holds, Cond.value]), lw_limb limb_1_2 (fun args s t => Cond.after_iff.mpr (by
  first | (rw [show limb_1_2 = Cond.eq .result (.int 1) from rfl, Cond.eq_ints (x := 1) (y := 1) rfl rfl]; simp; done) | (simp [limb_1_2, Cond.value, Term.eval]; done)))⟩

