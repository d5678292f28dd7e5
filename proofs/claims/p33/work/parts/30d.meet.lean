/-! by hand: a mark met -/
theorem zcm_up {f f' : Nat → Int} {i : Nat} (h : ∀ j, j ≠ i → f' j = f j) : ∀ n, zcm f' n ≤ zcm f n + (if i < n ∧ f i = 0 then 1 else 0)
  | 0 => Nat.zero_le _
  | n + 1 => by
    have ih := zcm_up h n
    show zcm f' n + (if f' n = 0 then 0 else 1) ≤ zcm f n + (if f n = 0 then 0 else 1) + _
    by_cases q : n = i
    · subst q
      rw [if_neg (by omega)] at ih
      by_cases k : f n = 0
      · rw [if_pos k, if_pos (⟨by omega, k⟩ : n < n + 1 ∧ f n = 0)]
        split <;> omega
      · rw [if_neg k]
        split <;> omega
    · rw [h n q]
      by_cases k : i < n ∧ f i = 0
      · rw [if_pos k] at ih
        rw [if_pos (⟨by omega, k.2⟩ : i < n + 1 ∧ f i = 0)]
        omega
      · rw [if_neg k] at ih
        omega
theorem zcm_ex {f : Nat → Int} : ∀ n, zcm f n < n → ∃ i, i < n ∧ f i = 0
  | 0, h => absurd h (Nat.not_lt_zero _)
  | n + 1, h => by
    by_cases k : f n = 0
    · exact ⟨n, by omega, k⟩
    · have h : zcm f n + (if f n = 0 then 0 else 1) < n + 1 := h
      rw [if_neg k] at h
      obtain ⟨i, h1, h2⟩ := zcm_ex (f := f) n (by omega)
      exact ⟨i, by omega, h2⟩
theorem and_m {i : Nat} (h : i < 2147483648) : Int32.ofInt (i : Int) &&& 16383 = Int32.ofInt ((i % 16384 : Nat) : Int) := by
  have e : ∀ j : Nat, j < 2147483648 → (Int32.ofInt (j : Int)).toBitVec.toNat = j := fun j hj => by
    show (BitVec.ofInt 32 (j : Int)).toNat = j
    rw [BitVec.toNat_ofInt]
    omega
  apply Int32.toBitVec_inj.mp
  apply BitVec.eq_of_toNat_eq
  rw [Int32.toBitVec_and, BitVec.toNat_and, e i h, e _ (by omega)]
  exact Nat.and_two_pow_sub_one_eq_mod i 14
section MEET
variable {ad xs : Nat → Nat} {cD : va_G} {cy : Nat → ClassId} {A : Nat → Prop} {gh : zS → Int → Int} {XI : zS → Prop} {S : zS} {ρ : Nat → Nat}
variable {p : Program} {l : Launch} {e : Env} {R : Room} {s : State} {m : MethodId} {args : Array Value} {below : List Frame} {meth : Method} {c : Code} {Q : State → Prop} {Ts : List Cond} {cells slots : Nat} {H : Heap} {locs : List Loc} {K : Int32}
theorem fld_mark (h : Typed zT ad S ρ) : z_v S (ad 17) 2 (z_bs 12 + 37) = .ref (ad 44) := by
  show va_rf (zQ S (z_bs 12 + 37) (ad 17)) = _
  rw [ty_fld h (r := 17) (f := 37) (r2 := 44) (by decide +kernel) rfl (by decide) rfl (by decide +kernel)]; rfl
theorem fld_often (h : Typed zT ad S ρ) : z_v S (ad 17) 2 (z_bs 12 + 38) = .ref (ad 45) := by
  show va_rf (zQ S (z_bs 12 + 38) (ad 17)) = _
  rw [ty_fld h (r := 17) (f := 38) (r2 := 45) (by decide +kernel) rfl (by decide) rfl (by decide +kernel)]; rfl
theorem vin_m {i : Nat} (h : i < 16384) : vp_in (Int32.ofInt (i : Int)) 16384 ∧ (Int32.ofInt (i : Int)).toNatClampNeg = i := by
  have vi : (Int32.ofInt (i : Int)).toInt = (i : Int) := i32_of (by rw [k32l_eq, k32h_eq]; omega)
  exact ⟨vp_in_iff.mpr ⟨by omega, by omega⟩, by show (Int32.ofInt (i : Int)).toInt.toNat = i; rw [vi]; omega⟩
theorem meet_loop (hM : MX xs cD cy A p s m args c cX12_meets 6 Ts RX12) (hTy : Typed zT ad S ρ) (hw : zPw cD cy A s.heap S H locs) {z : Nat} (hzz : zA S (ad 44) z = 0)
    (fin : ∀ (i : Nat) (ls : Array Slot), i < 16384 → lv_has ls 6 [(5, .int (Int32.ofInt i)), (4, .int K), (0, .ref (ad 17))] → W p l e R s m args below meth c H locs cells slots Q (F0 m 73 ls [])) :
    ∀ (n i : Nat), i < 16384 → (i + n) % 16384 = z → ∀ (ls : Array Slot), lv_has ls 6 [(5, .int (Int32.ofInt i)), (4, .int K), (0, .ref (ad 17))] → W p l e R s m args below meth c H locs cells slots Q (F0 m 38 ls []) := by
  have hx := hM.1.1
  have hb := hM.1.2.1
  have c17 := ty_cel hTy (r := 17) (by decide +kernel) rfl
  have cm := ty_cel hTy (r := 44) (by decide +kernel) rfl
  intro n
  induction n with
  | zero => ?_
  | succ n ih => ?_
  all_goals
    intro i hi hn ls hl
    have vin := vin_m hi
    refine lv_aload_n (k := 0) (i := 0) hx hb (by decide +kernel) rfl (lv_at hl 2 rfl) ?_
    refine gf_RX12_93_12 p l e R s m args below meth c H locs cells slots Q xs cD cy A cX12_meets 6 Ts S (ad 17) 39 ls [] 2 hM hw c17.1 c17.2.2.1 (by decide +kernel) rfl ?_
    rw [fld_mark hTy]
    refine lv_iload (i := 5) hx hb (by decide +kernel) (lv_at hl 0 rfl) ?_
    refine z_iald hM.1 hM.2.2.1 hw cm.1 cm.2.2.1 (cm.2.2.2.1 (by decide)) vin.1 (by decide +kernel) ?_
    rw [vin.2]
    refine lv_if_eq (off := 28) (tgt := 73) hx hb (by decide +kernel) (by decide) (fun _ => fin i ls hi hl) (fun q0 => ?_)
  · exfalso
    have : i = z := by omega
    subst this
    exact q0 hzz
  · refine lv_aload_n (k := 0) (i := 0) hx hb (by decide +kernel) rfl (lv_at hl 2 rfl) ?_
    refine gf_RX12_93_12 p l e R s m args below meth c H locs cells slots Q xs cD cy A cX12_meets 6 Ts S (ad 17) 49 ls [] 2 hM hw c17.1 c17.2.2.1 (by decide +kernel) rfl ?_
    rw [fld_mark hTy]
    refine lv_iload (i := 5) hx hb (by decide +kernel) (lv_at hl 0 rfl) ?_
    refine z_iald hM.1 hM.2.2.1 hw cm.1 cm.2.2.1 (cm.2.2.2.1 (by decide)) vin.1 (by decide +kernel) ?_
    refine lv_iload (i := 4) hx hb (by decide +kernel) (lv_at hl 1 rfl) ?_
    refine lv_icmp_eq (off := 16) (tgt := 73) hx hb (by decide +kernel) (by decide) (fun _ => fin i ls hi hl) (fun _ => ?_)
    refine lv_iload (i := 5) hx hb (by decide +kernel) (lv_at hl 0 rfl) ?_
    refine lv_iconst (n := 1) (v := 1) hx hb (by decide +kernel) (by decide) ?_
    refine lv_iadd hx hb (by decide +kernel) ?_
    refine lv_sipush (n := 16383) (v := 16383) hx hb (by decide +kernel) (by decide) ?_
    refine lv_iand hx hb (by decide +kernel) ?_
    have e1 : (Int32.ofInt (i : Int) + 1) &&& 16383 = Int32.ofInt (((i + 1) % 16384 : Nat) : Int) := by
      rw [← and_m (by omega)]
      have := Int32.ofInt_add (i : Int) 1
      exact congrArg (· &&& (16383 : Int32)) this.symm
    rw [e1]
    refine lv_istore (i := 5) (lv' := [(5, .int (Int32.ofInt (((i + 1) % 16384 : Nat) : Int))), (4, .int K), (0, .ref (ad 17))]) hx hb (by decide +kernel) hl (by decide) rfl (fun ls hl => ?_)
    refine lv_goto (off := -32) (tgt := 38) hx hb (by decide +kernel) (by decide) ?_
    exact ih ((i + 1) % 16384) (by omega) (by omega) ls hl
end MEET
theorem cn_X12_meets_0 {ad xs : Nat → Nat} {cD : va_G} {cy : Nat → ClassId} {l : Launch} {neg0 : Int → Int} (hb0 : bndN neg0) : Con zT ad (ghN (zC ad) neg0) (zXI ad) xs cD cy l yX12_meets cX12_meets 6 ((some .int)) 0 0 sg_X12_meets_0 [] := by
  intro g τ S ρ sz hpre
  obtain ⟨p1, p2, p3, p4, p5, p6, p7⟩ := hpre
  have hT := zT_ok (ad := ad) hb0
  have q0 := p2 0 _ rfl
  cases ht0 : τ 0 with
  | none => rw [ht0] at q0; cases q0
  | some a =>
  rw [ht0] at q0
  obtain ⟨ha, hra⟩ := q0
  have hra : ρ a = 17 := List.mem_singleton.mp hra
  have haa : a = ad 17 := by
    have := p6.1.2.2 a ha (by rw [hra]; decide +kernel)
    rw [hra] at this; exact this
  have gm : RGv zT ad S 11 0 = g 3 := (p5 0 _ rfl).1
  have gi : (0 : Int) ≤ g 3 ∧ g 3 ≤ 4000 := p1 3 (by decide)
  have hTy := p6.1
  have hXI : (zcm (fun i => RGv zT ad S 21 i) 16384 : Int) ≤ RGv zT ad S 11 0 := p6.2.1
  have e21 : ∀ j : Nat, RGv zT ad S 21 j = (zA S (ad 44) j).toInt := fun j => by
    show (zA S (ad 44) (Int.toNat (j : Int))).toInt = _
    rw [Int.toNat_natCast]
  obtain ⟨z, hz, hzz⟩ := zcm_ex (f := fun i : Nat => RGv zT ad S 21 i) 16384 (by omega)
  have hzz : zA S (ad 44) z = 0 := by
    have h2 : RGv zT ad S 21 z = 0 := hzz
    rw [e21 z] at h2
    exact Int32.toInt_inj.mp h2
  have eav : γK g τ xs (sA sg_X12_meets_0) = [.ref (ad 17), .int (Int32.ofInt (g 0)), .int (Int32.ofInt (g 1)), .int (Int32.ofInt (g 2))] := by
    show [va_rf (τ 0), .int (Int32.ofInt (ev g (lsy 0))), .int (Int32.ofInt (ev g (lsy 1))), .int (Int32.ofInt (ev g (lsy 2)))] = _
    rw [ht0, haa, ev_lsy, ev_lsy, ev_lsy]; rfl
  rw [eav]
  refine z_ofW (QQ := QX cD cy (PostOK zT ad (ghN (zC ad) neg0) (zXI ad) xs sg_X12_meets_0 g τ S ρ)) (own := RX12) (by decide +kernel) rfl rfl (Nat.le_of_ble_eq_true rfl) ?_
  intro p e s m args below meth c A ls hcf hr hlk hnm hK hE hZ hw hA hl
  have hM : MX xs cD cy A p s m args c cX12_meets 6 (Cond.code yX12_meets cX12_meets 6 (some .int) :: TB) RX12 := ⟨hcf, fun w hw => List.mem_cons_of_mem _ hw, hK, hE, hZ, hA⟩
  have hx := hcf.1
  have hb := hcf.2.1
  have hl : lv_has ls 6 [(0, .ref (ad 17)), (1, .int (Int32.ofInt (g 0))), (2, .int (Int32.ofInt (g 1))), (3, .int (Int32.ofInt (g 2)))] := hl
  generalize Int32.ofInt (g 0) = x1 at hl
  generalize Int32.ofInt (g 1) = x2 at hl
  generalize Int32.ofInt (g 2) = x3 at hl
  refine lv_iload_n (k := 1) (i := 1) hx hb (by decide +kernel) rfl (lv_at hl 1 rfl) ?_
  refine lv_sipush (n := 4001) (v := 4001) hx hb (by decide +kernel) (by decide) ?_
  refine lv_iadd hx hb (by decide +kernel) ?_
  refine lv_sipush (n := 8192) (v := 8192) hx hb (by decide +kernel) (by decide) ?_
  refine lv_imul hx hb (by decide +kernel) ?_
  refine lv_iload_n (k := 2) (i := 2) hx hb (by decide +kernel) rfl (lv_at hl 2 rfl) ?_
  refine lv_iadd hx hb (by decide +kernel) ?_
  refine lv_sipush (n := 4001) (v := 4001) hx hb (by decide +kernel) (by decide) ?_
  refine lv_iadd hx hb (by decide +kernel) ?_
  refine lv_iconst (n := 2) (v := 2) hx hb (by decide +kernel) (by decide) ?_
  refine lv_imul hx hb (by decide +kernel) ?_
  refine lv_iload_n (k := 3) (i := 3) hx hb (by decide +kernel) rfl (lv_at hl 3 rfl) ?_
  refine lv_iadd hx hb (by decide +kernel) ?_
  refine lv_iconst (n := 1) (v := 1) hx hb (by decide +kernel) (by decide) ?_
  refine lv_iadd hx hb (by decide +kernel) ?_
  generalize (((((x1 + 4001) * 8192 + x2) + 4001) * 2 + x3) + 1 : Int32) = K
  refine lv_istore (i := 4) (lv' := [(4, .int K), (0, .ref (ad 17)), (1, .int x1), (2, .int x2), (3, .int x3)]) hx hb (by decide +kernel) hl (by decide) rfl (fun ls hl => ?_)
  refine lv_iload (i := 4) hx hb (by decide +kernel) (lv_at hl 0 rfl) ?_
  refine ki_RX12_279.2 p l e _ s m args below meth c s.heap [] _ _ _ xs cD cy A cX12_meets 6 _ S 25 ls [.int K] hM hw (by decide +kernel) ?_
  refine lv_imul hx hb (by decide +kernel) ?_
  obtain ⟨w, hwv⟩ : ∃ w : Int32, ((K * Int32.ofInt (.ofNat 40503)).toUInt32 >>> ((7 : Int32).toUInt32 &&& Int32.toUInt32 31)).toInt32 = w := ⟨_, rfl⟩
  refine lv_bipush (n := 7) (v := 7) hx hb (by decide +kernel) (by decide) ?_
  refine lv_iushr (v := w) hx hb (by decide +kernel) hwv ?_
  refine lv_sipush (n := 16383) (v := 16383) hx hb (by decide +kernel) (by decide) ?_
  refine lv_iand hx hb (by decide +kernel) ?_
  have hb16 := and32b (a := w) (b := 16383) (by decide)
  have e16 : (16383 : Int32).toInt = 16383 := by decide
  rw [e16] at hb16
  obtain ⟨i0, hi0⟩ : ∃ i0 : Nat, (i0 : Int) = (w &&& 16383).toInt := ⟨(w &&& 16383).toInt.toNat, by omega⟩
  have ei0 : w &&& 16383 = Int32.ofInt (i0 : Int) := by rw [hi0]; exact (Int32.ofInt_toInt _).symm
  rw [ei0]
  refine lv_istore (i := 5) (lv' := [(5, .int (Int32.ofInt (i0 : Int))), (4, .int K), (0, .ref (ad 17)), (1, .int x1), (2, .int x2), (3, .int x3)]) hx hb (by decide +kernel) hl (by decide) rfl (fun ls hl => ?_)
  refine meet_loop (S := S) (ρ := ρ) (K := K) hM hTy hw hzz ?_ ((z + 16384 - i0) % 16384) i0 (by omega) (by omega) ls ⟨hl.1, hl.2.1, fun q hq => hl.2.2 q (List.mem_append_left ([(1, Value.int x1), (2, Value.int x2), (3, Value.int x3)] : List (Nat × Value)) hq)⟩
  intro i ls hi hl
  have vin := vin_m hi
  have tail : ∀ (S1 : zS) (H1 : Heap) (locs1 : List Loc) (h : Int), Typed zT ad S1 ρ → zL S1 = zL S → (∀ reg, reg < (tRG zT).length → reg ≠ 11 → ∀ i, RGv zT ad S1 reg i = RGv zT ad S reg i) → RGv zT ad S1 11 0 = h → g 3 ≤ h → h ≤ g 3 + 1 → (zA S (ad 44) i = 0 → h = g 3 + 1) → zPw cD cy A s.heap S1 H1 locs1 → W p l e { frames := 0, cells := (sC sg_X12_meets_0).1, slots := (sC sg_X12_meets_0).2, locals := 0 } s m args below meth c H1 locs1 0 0 (MQ below (QX cD cy (PostOK zT ad (ghN (zC ad) neg0) (zXI ad) xs sg_X12_meets_0 g τ S ρ) A) args s 0 0 A) (F0 m 93 ls []) := by
    intro S1 H1 locs1 h t1 hL1 hF1 e11 hg1 hg2 hg3 hw1
    have c17 := ty_cel t1 (r := 17) (by decide +kernel) rfl
    have cm := ty_cel t1 (r := 44) (by decide +kernel) rfl
    have hne : ad 45 ≠ ad 44 := ad_inj t1 (by decide +kernel) (by decide +kernel) (by decide)
    refine lv_aload_n (k := 0) (i := 0) hx hb (by decide +kernel) rfl (lv_at hl 2 rfl) ?_
    refine gf_RX12_93_12 p l e _ s m args below meth c H1 locs1 _ _ _ xs cD cy A cX12_meets 6 _ S1 (ad 17) 94 ls [] 2 hM hw1 c17.1 c17.2.2.1 (by decide +kernel) rfl ?_
    rw [fld_mark t1]
    refine lv_iload (i := 5) hx hb (by decide +kernel) (lv_at hl 0 rfl) ?_
    refine lv_iload (i := 4) hx hb (by decide +kernel) (lv_at hl 1 rfl) ?_
    refine z_iast hM.1 hM.2.2.1 hw1 cm.1 cm.2.2.1 (cm.2.2.2.1 (by decide)) vin.1 (by decide +kernel) (fun H2 locs2 hw2 => ?_)
    rw [vin.2] at hw2
    have t2 : Typed zT ad (zsA S1 (ad 44) (upd (zA S1 (ad 44)) i K)) ρ := t1.putA (n := i) (x := K) (fun j hj => by simp [upd, hj]) (by simp [upd]) (fun ri hri hk q hq => by
      rw [cm.2.1] at hri
      have hri : some ((13, 16384, [], [], (false, [])) : RI) = some ri := hri
      cases hri; cases hq)
    have f2 := fr_A (ad := ad) (gh := ghN (zC ad) neg0) (XI := zXI ad) (rs := [44]) (f := upd (zA S1 (ad 44)) i K) hT t1 (a := ad 44) (by rw [cm.2.1]; exact List.mem_cons_self)
    rw [show tch zT [44] true 0 = [21] by decide +kernel] at f2
    have c172 := ty_cel t2 (r := 17) (by decide +kernel) rfl
    have co := ty_cel t2 (r := 45) (by decide +kernel) rfl
    refine lv_aload_n (k := 0) (i := 0) hx hb (by decide +kernel) rfl (lv_at hl 2 rfl) ?_
    refine gf_RX12_96_12 p l e _ s m args below meth c H2 locs2 _ _ _ xs cD cy A cX12_meets 6 _ _ (ad 17) 103 ls [] 2 hM hw2 c172.1 c172.2.2.1 (by decide +kernel) rfl ?_
    rw [fld_often t2]
    refine lv_iload (i := 5) hx hb (by decide +kernel) (lv_at hl 0 rfl) ?_
    refine lv_dup2_11 hx hb (by decide +kernel) rfl rfl ?_
    refine z_iald hM.1 hM.2.2.1 hw2 co.1 co.2.2.1 (co.2.2.2.1 (by decide)) vin.1 (by decide +kernel) ?_
    rw [vin.2]
    refine lv_iconst (n := 1) (v := 1) hx hb (by decide +kernel) (by decide) ?_
    refine lv_iadd hx hb (by decide +kernel) ?_
    refine z_iast hM.1 hM.2.2.1 hw2 co.1 co.2.2.1 (co.2.2.2.1 (by decide)) vin.1 (by decide +kernel) (fun H3 locs3 hw3 => ?_)
    rw [vin.2] at hw3
    generalize hS2 : zsA S1 (ad 44) (upd (zA S1 (ad 44)) i K) = S2 at *
    generalize zA S2 (ad 45) i + 1 = y at *
    have t3 : Typed zT ad (zsA S2 (ad 45) (upd (zA S2 (ad 45)) i y)) ρ := t2.putA (n := i) (x := y) (fun j hj => by simp [upd, hj]) (by simp [upd]) (fun ri hri hk q hq => by
      rw [co.2.1] at hri
      have hri : some ((13, 16384, [], [], (false, [])) : RI) = some ri := hri
      cases hri; cases hq)
    have f3 := fr_A (ad := ad) (gh := ghN (zC ad) neg0) (XI := zXI ad) (rs := [45]) (f := upd (zA S2 (ad 45)) i y) hT t2 (a := ad 45) (by rw [co.2.1]; exact List.mem_cons_self)
    rw [show tch zT [45] true 0 = [] by decide +kernel] at f3
    have c173 := ty_cel t3 (r := 17) (by decide +kernel) rfl
    have co3 := ty_cel t3 (r := 45) (by decide +kernel) rfl
    refine lv_aload_n (k := 0) (i := 0) hx hb (by decide +kernel) rfl (lv_at hl 2 rfl) ?_
    refine gf_RX12_96_12 p l e _ s m args below meth c H3 locs3 _ _ _ xs cD cy A cX12_meets 6 _ _ (ad 17) 114 ls [] 2 hM hw3 c173.1 c173.2.2.1 (by decide +kernel) rfl ?_
    rw [fld_often t3]
    refine lv_iload (i := 5) hx hb (by decide +kernel) (lv_at hl 0 rfl) ?_
    refine z_iald hM.1 hM.2.2.1 hw3 co3.1 co3.2.2.1 (co3.2.2.2.1 (by decide)) vin.1 (by decide +kernel) ?_
    generalize hS3 : zsA S2 (ad 45) (upd (zA S2 (ad 45)) i y) = S3 at *
    generalize zA S3 (ad 45) (Int32.ofInt (i : Int)).toNatClampNeg = v
    have r3 : ∀ reg, reg < (tRG zT).length → reg ≠ 11 → reg ≠ 21 → ∀ j, RGv zT ad S3 reg j = RGv zT ad S reg j := fun reg hr h1 h2 j => by
      rw [f3.2 reg hr List.not_mem_nil j, f2.2 reg hr (by simpa using h2) j]
      exact hF1 reg hr h1 j
    have r11 : RGv zT ad S3 11 0 = h := by
      rw [f3.2 11 (by decide +kernel) List.not_mem_nil 0, f2.2 11 (by decide +kernel) (by decide) 0]
      exact e11
    have r21 : ∀ j : Nat, j ≠ i → RGv zT ad S3 21 j = RGv zT ad S 21 j := fun j hj => by
      rw [f3.2 21 (by decide +kernel) List.not_mem_nil j, ← hF1 21 (by decide +kernel) (by decide) j, ← hS2]
      show (va_up (zA S1) (ad 44) (upd (zA S1 (ad 44)) i K) (ad 44) (Int.toNat (j : Int))).toInt = (zA S1 (ad 44) (Int.toNat (j : Int))).toInt
      have e3 : va_up (zA S1) (ad 44) (upd (zA S1 (ad 44)) i K) (ad 44) = upd (zA S1 (ad 44)) i K := by simp [va_up]
      rw [e3, Int.toNat_natCast]
      simp [upd, hj]
    have fF : Fr zT ad [11, 21] S ρ S3 ρ := by
      refine ⟨fun b hb => ⟨?_, rfl⟩, fun reg hrg hn j => r3 reg hrg (fun q => hn (by rw [q]; simp)) (fun q => hn (by rw [q]; simp)) j⟩
      rw [← hS3, ← hS2]
      show b ∈ zL S1
      rw [hL1]; exact hb
    have x3 : zXI ad S3 := by
      refine ⟨?_, XI2_fr fF (by decide) p6.2.2⟩
      unfold XI1
      rw [r11]
      have := zcm_up (f := fun j : Nat => RGv zT ad S 21 j) (f' := fun j : Nat => RGv zT ad S3 21 j) (i := i) r21 16384
      by_cases k : RGv zT ad S 21 i = 0
      · rw [if_pos ⟨hi, k⟩] at this
        rw [e21 i] at k
        have := hg3 (Int32.toInt_inj.mp k)
        omega
      · rw [if_neg (fun q => k q.2)] at this
        omega
    refine W.zret hx hb hr rfl (fun t ht hW => ⟨⟨some (.int v), S3, ρ, rfl, ⟨⟨t3, x3⟩, ?_, fF, _, List.mem_cons_self, fun j => if j = 4 then v.toInt else if j = 5 then h else g j, τ, fun j hj => ?_, fun _ _ => rfl, fun j hj => ?_, fun j q hq => by simp at hq, ?_, fun f hf => ?_, fun mm hm => ?_⟩, by rw [ht]; exact hw3.1, hw3.2.1⟩, hw3.2.2.F ht⟩) hw3.2.2.2.2 (by decide +kernel) hlk
    · exact p7.fr hT fF (fun gi G hG c hc => by
        have : zCG.all (fun G => G.1.all (fun c => !(nin c.1 [11, 21]))) = true := by decide +kernel
        have h2 := List.all_eq_true.mp (List.all_eq_true.mp this G (List.mem_of_getElem? hG)) c hc
        intro q
        rw [nin_iff.mpr q] at h2
        exact absurd h2 (by decide))
    · have hj : j < 4 := hj
      show (if j = 4 then v.toInt else if j = 5 then h else g j) = g j
      rw [if_neg (by omega), if_neg (by omega)]
    · have hj : j < 2 := hj
      match j, hj with
      | 0, _ =>
        show (-2147483648 : Int) ≤ v.toInt ∧ v.toInt ≤ 2147483647
        exact ⟨Int32.le_toInt v, by have := Int32.toInt_lt v; omega⟩
      | 1, _ =>
        show (0 : Int) ≤ h ∧ h ≤ 4001
        omega
    · show [Value.int v] = [Value.int (Int32.ofInt (ev _ (lsy 4)))]
      rw [ev_lsy]
      show [Value.int v] = [Value.int (Int32.ofInt v.toInt)]
      rw [Int32.ofInt_toInt]
    · have n1 : Int.negSucc 0 = (-1 : Int) := rfl
      have hf : f = ((.ofNat 1, [(3, .ofNat 1), (5, .negSucc 0)]) : Lin) ∨ f = ((.ofNat 0, [(3, .negSucc 0), (5, .ofNat 1)]) : Lin) := by
        rcases List.mem_cons.mp hf with q | q
        · exact .inl q
        · exact .inr (List.mem_singleton.mp q)
      rcases hf with q | q
      · subst q
        show (0 : Int) ≤ 1 + (1 * g 3 + (Int.negSucc 0 * h + 0))
        omega
      · subst q
        show (0 : Int) ≤ 0 + (Int.negSucc 0 * g 3 + (1 * h + 0))
        omega
    · cases List.mem_singleton.mp hm
      refine ⟨?_, fun reg hrg => by cases List.mem_singleton.mp hrg; decide +kernel⟩
      show RGv zT ad S3 11 0 = ev _ (lsy 5)
      rw [ev_lsy, r11]; rfl
  have c17 := ty_cel hTy (r := 17) (by decide +kernel) rfl
  have cm := ty_cel hTy (r := 44) (by decide +kernel) rfl
  refine lv_aload_n (k := 0) (i := 0) hx hb (by decide +kernel) rfl (lv_at hl 2 rfl) ?_
  refine gf_RX12_93_12 p l e _ s m args below meth c s.heap [] _ _ _ xs cD cy A cX12_meets 6 _ S (ad 17) 74 ls [] 2 hM hw c17.1 c17.2.2.1 (by decide +kernel) rfl ?_
  rw [fld_mark hTy]
  refine lv_iload (i := 5) hx hb (by decide +kernel) (lv_at hl 0 rfl) ?_
  refine z_iald hM.1 hM.2.2.1 hw cm.1 cm.2.2.1 (cm.2.2.2.1 (by decide)) vin.1 (by decide +kernel) ?_
  rw [vin.2]
  refine lv_if_ne (off := 13) (tgt := 93) hx hb (by decide +kernel) (by decide) (fun q0 => ?_) (fun q0 => ?_)
  · exact tail S s.heap [] (g 3) hTy rfl (fun _ _ _ _ => rfl) gm (Int.le_refl _) (by omega) (fun k => absurd k q0) hw
  refine lv_aload_n (k := 0) (i := 0) hx hb (by decide +kernel) rfl (lv_at hl 2 rfl) ?_
  refine lv_dup hx hb (by decide +kernel) rfl ?_
  refine gf_RX12_276_12 p l e _ s m args below meth c s.heap [] _ _ _ xs cD cy A cX12_meets 6 _ S (ad 17) 85 ls [.ref (ad 17)] 0 hM hw c17.1 c17.2.2.1 (by decide +kernel) rfl ?_
  have gm2 : (zI S (z_bs 12 + 39) (ad 17)).toInt = g 3 := gm
  show W p l e _ s m args below meth c s.heap [] _ _ _ (F0 m 88 ls [.int (zI S (z_bs 12 + 39) (ad 17)), .ref (ad 17)])
  generalize zI S (z_bs 12 + 39) (ad 17) = x at gm2 ⊢
  refine lv_iconst (n := 1) (v := 1) hx hb (by decide +kernel) (by decide) ?_
  refine lv_iadd hx hb (by decide +kernel) ?_
  have ex : (x + 1).toInt = g 3 + 1 := by
    have e1 : x + 1 = Int32.ofInt (g 3 + 1) := by
      rw [Int32.ofInt_add, ← gm2, Int32.ofInt_toInt]; rfl
    rw [e1]
    exact i32_of (by rw [k32l_eq, k32h_eq]; omega)
  have P1 : RPutI RX12 276 12 39 false false := pf_RX12_276_12
  refine P1 p l e _ s m args below meth c s.heap [] _ _ _ xs cD cy A cX12_meets 6 _ S (ad 17) 90 ls [] (x + 1) hM (fun q => absurd q (by decide)) (fun q => absurd q (by decide)) hw c17.1 c17.2.2.1 (by decide +kernel) (fun H1 locs1 hw1 => ?_)
  have t1 : Typed zT ad (zsI S (z_bs 12 + 39) (ad 17) (x + 1)) ρ := ty_pI (r := 17) (f := 39) (k := 12) hTy c17.2.1 rfl rfl rfl (by
    show (0 : Int) ≤ (x + 1).toInt ∧ (x + 1).toInt ≤ 16383
    omega)
  have f1 := fr_I (ad := ad) (gh := ghN (zC ad) neg0) (XI := zXI ad) (x := x + 1) (j := z_bs 12 + 39) (a := ad 17) (rs := [17]) hT hTy (by rw [c17.2.1]; exact List.mem_cons_self)
  rw [show tch zT [17] false (z_bs 12 + 39) = [11] by decide +kernel] at f1
  refine tail _ H1 locs1 (g 3 + 1) t1 rfl (fun reg hrg hn j => f1.2 reg hrg (by simpa using hn) j) ?_ (by omega) (Int.le_refl _) (fun _ => rfl) hw1
  show ((zu2 (zI S) (z_bs 12 + 39) (ad 17) (x + 1)) (z_bs 12 + 39) (ad 17)).toInt = g 3 + 1
  rw [zu2_self]
  exact ex
