/-! by hand: how many orders, which leaf where -/
def cdN (P : List Nat) : Nat → Nat
  | 0 => 0
  | k + 1 => cdN P k + 8 ^ k * P.getD k 0
theorem sh3 : ∀ l, l < 8 → ∀ k, k < 8 → nI l <<< ((3 * nI k) &&& 31) = nI (8 ^ k * l) := by decide +kernel
theorem nI_tn {a : Nat} (h : a < 2 ^ 31) : (nI a).toBitVec.toNat = a := by
  show (BitVec.ofNat 32 a).toNat = a
  rw [BitVec.toNat_ofNat, Nat.mod_eq_of_lt (by omega)]
theorem nI_or {a b : Nat} (ha : a < 2 ^ 31) (hb : b < 2 ^ 31) : nI a ||| nI b = nI (a ||| b) := by
  apply Int32.toBitVec_inj.mp
  apply BitVec.eq_of_toNat_eq
  rw [Int32.toBitVec_or, BitVec.toNat_or, nI_tn ha, nI_tn hb, nI_tn (Nat.or_lt_two_pow ha hb)]
theorem cdN_lt {P : List Nat} (h : ∀ k, P.getD k 0 < 8) : ∀ k, cdN P k < 8 ^ k
  | 0 => by simp [cdN]
  | k + 1 => by
    have h1 := cdN_lt h k
    have h2 := h k
    simp only [cdN, Nat.pow_succ]
    have : 8 ^ k * P.getD k 0 ≤ 8 ^ k * 7 := Nat.mul_le_mul_left _ (by omega)
    omega
theorem cdk_N {P : List Nat} (h : ∀ k, P.getD k 0 < 8) : ∀ {k : Nat}, k ≤ 8 → cdk P k = nI (cdN P k)
  | 0, _ => rfl
  | k + 1, hk => by
    have h1 := cdN_lt h k
    have h2 := cdN_lt h (k + 1)
    have h3 : 8 ^ (k + 1) ≤ 8 ^ 8 := Nat.pow_le_pow_right (n := 8) (by decide) hk
    have h4 : (8 : Nat) ^ k ≤ 8 ^ 8 := Nat.pow_le_pow_right (n := 8) (by decide) (by omega)
    have h5 : (8 : Nat) ^ 8 = 16777216 := by decide
    simp only [cdN] at h2
    simp only [cdk, cdN]
    rw [cdk_N h (by omega), sh3 _ (h k) _ (by omega), nI_or (by omega) (by omega)]
    congr 1
    have e : (8 : Nat) ^ k = 2 ^ (3 * k) := by rw [Nat.pow_mul]
    rw [e] at h1 ⊢
    rw [Nat.or_comm, ← Nat.two_pow_add_eq_or_of_lt h1, Nat.add_comm]
theorem sm_t2 : ∀ s, s < 32 → (((nI s &&& 31) : Int32).toBitVec.smod 32).toNat = s := by decide +kernel
theorem nI_div {m s : Nat} (hm : m < 2 ^ 31) (hs : s < 32) : nI m >>> (nI s &&& 31) = nI (m / 2 ^ s) := pk_shrN hm _ s (sm_t2 s hs)
theorem nI_and7 {m : Nat} (hm : m < 2 ^ 31) : nI m &&& 7 = nI (m % 8) := by
  apply Int32.toBitVec_inj.mp
  apply BitVec.eq_of_toNat_eq
  show ((nI m).toBitVec &&& (nI 7).toBitVec).toNat = _
  rw [BitVec.toNat_and, nI_tn hm, nI_tn (by omega), nI_tn (by omega)]
  exact Nat.and_two_pow_sub_one_eq_mod m 3
theorem cdN_get {P : List Nat} (h : ∀ k, P.getD k 0 < 8) : ∀ {n k : Nat}, k < n → cdN P n / 8 ^ k % 8 = P.getD k 0
  | 0, k, hk => absurd hk (Nat.not_lt_zero k)
  | n + 1, k, hk => by
    have h1 := cdN_lt h n
    have h2 := h n
    simp only [cdN]
    rcases Nat.lt_or_ge k n with q | q
    · obtain ⟨d, rfl⟩ : ∃ d, n = k + (d + 1) := ⟨n - k - 1, by omega⟩
      rw [Nat.pow_add, Nat.mul_assoc, Nat.add_mul_div_left _ _ (Nat.pow_pos (by decide)), Nat.pow_succ, Nat.mul_comm (8 ^ d) 8, Nat.mul_assoc, Nat.add_mul_mod_self_left]
      exact cdN_get h q
    · obtain rfl : k = n := by omega
      rw [Nat.add_mul_div_left _ _ (Nat.pow_pos (by decide)), Nat.div_eq_of_lt h1, Nat.zero_add, Nat.mod_eq_of_lt h2]
theorem cd_get {P : List Nat} (h : ∀ k, P.getD k 0 < 8) (hl : P.length ≤ 8) {k : Nat} (hk : k < P.length) : (cdI P >>> ((3 * nI k) &&& 31)) &&& 7 = nI (P.getD k 0) := by
  have h1 := cdN_lt h P.length
  have h3 : (8 : Nat) ^ P.length ≤ 8 ^ 8 := Nat.pow_le_pow_right (n := 8) (by decide) hl
  have h5 : (8 : Nat) ^ 8 = 16777216 := by decide
  have e3 : ∀ k, k < 8 → (3 : Int32) * nI k = nI (3 * k) := by decide +kernel
  have hm : cdN P P.length < 2 ^ 31 := by omega
  rw [cdI, cdk_N h hl, e3 k (by omega), nI_div hm (by omega), nI_and7 (Nat.lt_of_le_of_lt (Nat.div_le_self _ _) hm), Nat.pow_mul]
  exact congrArg nI (cdN_get h hk)
/-- the members of a list of orders -/
theorem cG_mem {n : Nat} {P : List Nat} (h : P ∈ cG n n []) : P.length = n ∧ ∀ x, x ∈ P → x < n := by
  rw [cG_flt] at h
  obtain ⟨s, h1, h2, h3, -⟩ := aG_mem (List.mem_filter.mp h).1
  rw [List.nil_append] at h1
  subst h1
  exact ⟨h2, h3⟩
theorem cG_at {n i : Nat} (hi : i < (cG n n []).length) : ((cG n n []).getD i []).length = n ∧ ∀ x, x ∈ (cG n n []).getD i [] → x < n := by
  apply cG_mem
  rw [List.getD_eq_getElem?_getD, List.getElem?_eq_getElem hi]; exact List.getElem_mem hi
theorem getD_lt {P : List Nat} {b : Nat} (hb : 0 < b) (h : ∀ x, x ∈ P → x < b) (k : Nat) : P.getD k 0 < b := by
  rw [List.getD_eq_getElem?_getD]
  by_cases q : k < P.length
  · rw [List.getElem?_eq_getElem q]; exact h _ (List.getElem_mem q)
  · rw [List.getElem?_eq_none (by omega)]; exact hb
theorem nI_subL (a b : Nat) : nI (a + b) - nI a = nI b := by
  rw [← nI_add, Int32.add_comm, Int32.add_sub_cancel]
theorem dX3_countOf_0 : decode cX3_countOf 0 = .ok (.iload_n 1, 1) := by decide +kernel
theorem dX3_countOf_1 : decode cX3_countOf 1 = .ok (.iconst 1, 1) := by decide +kernel
theorem dX3_countOf_2 : decode cX3_countOf 2 = .ok (.if_icmp .lt 9, 3) := by decide +kernel
theorem dX3_countOf_5 : decode cX3_countOf 5 = .ok (.iload_n 1, 1) := by decide +kernel
theorem dX3_countOf_6 : decode cX3_countOf 6 = .ok (.bipush 8, 2) := by decide +kernel
theorem dX3_countOf_8 : decode cX3_countOf 8 = .ok (.if_icmp .le 5, 3) := by decide +kernel
theorem dX3_countOf_11 : decode cX3_countOf 11 = .ok (.iconst 0, 1) := by decide +kernel
theorem dX3_countOf_12 : decode cX3_countOf 12 = .ok (.ireturn, 1) := by decide +kernel
theorem dX3_countOf_13 : decode cX3_countOf 13 = .ok (.aload_n 0, 1) := by decide +kernel
theorem dX3_countOf_14 : decode cX3_countOf 14 = .ok (.getfield 18, 3) := by decide +kernel
theorem dX3_countOf_17 : decode cX3_countOf 17 = .ok (.iload_n 1, 1) := by decide +kernel
theorem dX3_countOf_18 : decode cX3_countOf 18 = .ok (.iaload, 1) := by decide +kernel
theorem dX3_countOf_19 : decode cX3_countOf 19 = .ok (.ifCond .ne 41, 3) := by decide +kernel
theorem dX3_countOf_22 : decode cX3_countOf 22 = .ok (.aload_n 0, 1) := by decide +kernel
theorem dX3_countOf_23 : decode cX3_countOf 23 = .ok (.iload_n 1, 1) := by decide +kernel
theorem dX3_countOf_24 : decode cX3_countOf 24 = .ok (.invokevirtual 55, 3) := by decide +kernel
theorem dX3_countOf_27 : decode cX3_countOf 27 = .ok (.aload_n 0, 1) := by decide +kernel
theorem dX3_countOf_28 : decode cX3_countOf 28 = .ok (.getfield 15, 3) := by decide +kernel
theorem dX3_countOf_31 : decode cX3_countOf 31 = .ok (.iload_n 1, 1) := by decide +kernel
theorem dX3_countOf_32 : decode cX3_countOf 32 = .ok (.aload_n 0, 1) := by decide +kernel
theorem dX3_countOf_33 : decode cX3_countOf 33 = .ok (.getfield 27, 3) := by decide +kernel
theorem dX3_countOf_36 : decode cX3_countOf 36 = .ok (.iastore, 1) := by decide +kernel
theorem dX3_countOf_37 : decode cX3_countOf 37 = .ok (.aload_n 0, 1) := by decide +kernel
theorem dX3_countOf_38 : decode cX3_countOf 38 = .ok (.iconst 0, 1) := by decide +kernel
theorem dX3_countOf_39 : decode cX3_countOf 39 = .ok (.iconst 0, 1) := by decide +kernel
theorem dX3_countOf_40 : decode cX3_countOf 40 = .ok (.invokestatic 59, 3) := by decide +kernel
theorem dX3_countOf_43 : decode cX3_countOf 43 = .ok (.aload_n 0, 1) := by decide +kernel
theorem dX3_countOf_44 : decode cX3_countOf 44 = .ok (.getfield 18, 3) := by decide +kernel
theorem dX3_countOf_47 : decode cX3_countOf 47 = .ok (.iload_n 1, 1) := by decide +kernel
theorem dX3_countOf_48 : decode cX3_countOf 48 = .ok (.aload_n 0, 1) := by decide +kernel
theorem dX3_countOf_49 : decode cX3_countOf 49 = .ok (.getfield 27, 3) := by decide +kernel
theorem dX3_countOf_52 : decode cX3_countOf 52 = .ok (.aload_n 0, 1) := by decide +kernel
theorem dX3_countOf_53 : decode cX3_countOf 53 = .ok (.getfield 15, 3) := by decide +kernel
theorem dX3_countOf_56 : decode cX3_countOf 56 = .ok (.iload_n 1, 1) := by decide +kernel
theorem dX3_countOf_57 : decode cX3_countOf 57 = .ok (.iaload, 1) := by decide +kernel
theorem dX3_countOf_58 : decode cX3_countOf 58 = .ok (.isub, 1) := by decide +kernel
theorem dX3_countOf_59 : decode cX3_countOf 59 = .ok (.iastore, 1) := by decide +kernel
theorem dX3_countOf_60 : decode cX3_countOf 60 = .ok (.aload_n 0, 1) := by decide +kernel
theorem dX3_countOf_61 : decode cX3_countOf 61 = .ok (.getfield 18, 3) := by decide +kernel
theorem dX3_countOf_64 : decode cX3_countOf 64 = .ok (.iload_n 1, 1) := by decide +kernel
theorem dX3_countOf_65 : decode cX3_countOf 65 = .ok (.iaload, 1) := by decide +kernel
theorem dX3_countOf_66 : decode cX3_countOf 66 = .ok (.ireturn, 1) := by decide +kernel
theorem dX3_leafOf_0 : decode cX3_leafOf 0 = .ok (.iload_n 1, 1) := by decide +kernel
theorem dX3_leafOf_1 : decode cX3_leafOf 1 = .ok (.iconst 1, 1) := by decide +kernel
theorem dX3_leafOf_2 : decode cX3_leafOf 2 = .ok (.if_icmp .lt 31, 3) := by decide +kernel
theorem dX3_leafOf_5 : decode cX3_leafOf 5 = .ok (.iload_n 1, 1) := by decide +kernel
theorem dX3_leafOf_6 : decode cX3_leafOf 6 = .ok (.bipush 8, 2) := by decide +kernel
theorem dX3_leafOf_8 : decode cX3_leafOf 8 = .ok (.if_icmp .gt 25, 3) := by decide +kernel
theorem dX3_leafOf_11 : decode cX3_leafOf 11 = .ok (.iload_n 3, 1) := by decide +kernel
theorem dX3_leafOf_12 : decode cX3_leafOf 12 = .ok (.ifCond .lt 21, 3) := by decide +kernel
theorem dX3_leafOf_15 : decode cX3_leafOf 15 = .ok (.iload_n 3, 1) := by decide +kernel
theorem dX3_leafOf_16 : decode cX3_leafOf 16 = .ok (.iload_n 1, 1) := by decide +kernel
theorem dX3_leafOf_17 : decode cX3_leafOf 17 = .ok (.if_icmp .ge 16, 3) := by decide +kernel
theorem dX3_leafOf_20 : decode cX3_leafOf 20 = .ok (.iload_n 2, 1) := by decide +kernel
theorem dX3_leafOf_21 : decode cX3_leafOf 21 = .ok (.ifCond .lt 12, 3) := by decide +kernel
theorem dX3_leafOf_24 : decode cX3_leafOf 24 = .ok (.iload_n 2, 1) := by decide +kernel
theorem dX3_leafOf_25 : decode cX3_leafOf 25 = .ok (.aload_n 0, 1) := by decide +kernel
theorem dX3_leafOf_26 : decode cX3_leafOf 26 = .ok (.iload_n 1, 1) := by decide +kernel
theorem dX3_leafOf_27 : decode cX3_leafOf 27 = .ok (.invokevirtual 77, 3) := by decide +kernel
theorem dX3_leafOf_30 : decode cX3_leafOf 30 = .ok (.if_icmp .lt 5, 3) := by decide +kernel
theorem dX3_leafOf_33 : decode cX3_leafOf 33 = .ok (.iconst (-1), 1) := by decide +kernel
theorem dX3_leafOf_34 : decode cX3_leafOf 34 = .ok (.ireturn, 1) := by decide +kernel
theorem dX3_leafOf_35 : decode cX3_leafOf 35 = .ok (.aload_n 0, 1) := by decide +kernel
theorem dX3_leafOf_36 : decode cX3_leafOf 36 = .ok (.getfield 15, 3) := by decide +kernel
theorem dX3_leafOf_39 : decode cX3_leafOf 39 = .ok (.iload_n 1, 1) := by decide +kernel
theorem dX3_leafOf_40 : decode cX3_leafOf 40 = .ok (.iaload, 1) := by decide +kernel
theorem dX3_leafOf_41 : decode cX3_leafOf 41 = .ok (.iload_n 2, 1) := by decide +kernel
theorem dX3_leafOf_42 : decode cX3_leafOf 42 = .ok (.iadd, 1) := by decide +kernel
theorem dX3_leafOf_43 : decode cX3_leafOf 43 = .ok (.istore 4, 2) := by decide +kernel
theorem dX3_leafOf_45 : decode cX3_leafOf 45 = .ok (.iload 4, 2) := by decide +kernel
theorem dX3_leafOf_47 : decode cX3_leafOf 47 = .ok (.ifCond .lt 28, 3) := by decide +kernel
theorem dX3_leafOf_50 : decode cX3_leafOf 50 = .ok (.iload 4, 2) := by decide +kernel
theorem dX3_leafOf_52 : decode cX3_leafOf 52 = .ok (.sipush 2100, 3) := by decide +kernel
theorem dX3_leafOf_55 : decode cX3_leafOf 55 = .ok (.if_icmp .ge 20, 3) := by decide +kernel
theorem dX3_leafOf_58 : decode cX3_leafOf 58 = .ok (.aload_n 0, 1) := by decide +kernel
theorem dX3_leafOf_59 : decode cX3_leafOf 59 = .ok (.getfield 11, 3) := by decide +kernel
theorem dX3_leafOf_62 : decode cX3_leafOf 62 = .ok (.iload 4, 2) := by decide +kernel
theorem dX3_leafOf_64 : decode cX3_leafOf 64 = .ok (.iaload, 1) := by decide +kernel
theorem dX3_leafOf_65 : decode cX3_leafOf 65 = .ok (.iconst 3, 1) := by decide +kernel
theorem dX3_leafOf_66 : decode cX3_leafOf 66 = .ok (.iload_n 3, 1) := by decide +kernel
theorem dX3_leafOf_67 : decode cX3_leafOf 67 = .ok (.imul, 1) := by decide +kernel
theorem dX3_leafOf_68 : decode cX3_leafOf 68 = .ok (.ishr, 1) := by decide +kernel
theorem dX3_leafOf_69 : decode cX3_leafOf 69 = .ok (.bipush 7, 2) := by decide +kernel
theorem dX3_leafOf_71 : decode cX3_leafOf 71 = .ok (.iand, 1) := by decide +kernel
theorem dX3_leafOf_72 : decode cX3_leafOf 72 = .ok (.goto 4, 3) := by decide +kernel
theorem dX3_leafOf_75 : decode cX3_leafOf 75 = .ok (.iconst (-1), 1) := by decide +kernel
theorem dX3_leafOf_76 : decode cX3_leafOf 76 = .ok (.ireturn, 1) := by decide +kernel
theorem gf_RX3_18_3 : RGet RX3 18 3 2 := rg_F (ref := "FoldedInHalf$Leaves") uX3 rfl (by decide) (by decide) (tb_1 77 rfl rfl) (.inl rfl)
theorem rl_RX3_2_55_3 : RCall RX3 2 55 2 3 yX3_clear cX3_clear 2 (none) := rc_V (n := 1) (tb_5 48 rfl rfl) (tb_5 13 rfl rfl) (TB_s 38 rfl rfl) (tb_1 3 rfl rfl) (tb_5 14 rfl rfl) (by decide +kernel) (by decide) rfl
theorem gf_RX3_15_3 : RGet RX3 15 3 1 := rg_F (ref := "FoldedInHalf$Leaves") uX3 rfl (by decide) (by decide) (tb_1 76 rfl rfl) (.inl rfl)
theorem rl_RX3_2_77_3 : RCall RX3 2 77 2 3 yX3_countOf cX3_countOf 2 ((some .int)) := rc_V (n := 1) (tb_5 70 rfl rfl) (tb_5 46 rfl rfl) (TB_s 45 rfl rfl) (tb_1 3 rfl rfl) (tb_5 47 rfl rfl) (by decide +kernel) (by decide) rfl
theorem gs_RX3_18_2 {ad xs : Nat → Nat} {cD : va_G} {cy : Nat → ClassId} {A : Nat → Prop} {S : zS} {cc : ByteArray} {nL : Nat} {p : Program} {l : Launch} {e : Env} {R : Room} {s : State} {m : MethodId} {args : Array Value} {below : List Frame} {meth : Method} {c : Code} {Q : State → Prop} {Ts : List Cond} {cells slots pc : Nat} {H : Heap} {locs : List Loc} {ls : Array Slot} {rest : List Value} (hM : MX xs cD cy A p s m args c cc nL Ts RX3) (hT : ShT ad S) (hw : zPw cD cy A s.heap S H locs) (hd : decode cc pc = .ok (.getfield 18, 3)) (k : W p l e R s m args below meth c H locs cells slots Q (F0 m (pc + 3) ls (.ref (ad 14) :: rest))) : W p l e R s m args below meth c H locs cells slots Q (F0 m pc ls (.ref (ad 10) :: rest)) := by
  refine gf_RX3_18_3 p l e _ s m args below meth c H locs _ _ _ xs cD cy A cc nL _ S (ad 10) pc ls rest 2 hM hw (sh_L hT (r := 10) (by decide +kernel)) (sh_K hT (r := 10) (by decide +kernel) rfl) hd rfl ?_
  have e1 : z_v S (ad 10) 2 (z_bs 3 + 2) = .ref (ad 14) := by
    show va_rf (zQ S (z_bs 3 + 2) (ad 10)) = _
    rw [sh_P hT (r := 10) (f := 2) (r2 := 14) (by decide +kernel) rfl (by decide) rfl (by decide +kernel)]; rfl
  rw [e1]
  exact k
theorem gs_RX3_15_1 {ad xs : Nat → Nat} {cD : va_G} {cy : Nat → ClassId} {A : Nat → Prop} {S : zS} {cc : ByteArray} {nL : Nat} {p : Program} {l : Launch} {e : Env} {R : Room} {s : State} {m : MethodId} {args : Array Value} {below : List Frame} {meth : Method} {c : Code} {Q : State → Prop} {Ts : List Cond} {cells slots pc : Nat} {H : Heap} {locs : List Loc} {ls : Array Slot} {rest : List Value} (hM : MX xs cD cy A p s m args c cc nL Ts RX3) (hT : ShT ad S) (hw : zPw cD cy A s.heap S H locs) (hd : decode cc pc = .ok (.getfield 15, 3)) (k : W p l e R s m args below meth c H locs cells slots Q (F0 m (pc + 3) ls (.ref (ad 13) :: rest))) : W p l e R s m args below meth c H locs cells slots Q (F0 m pc ls (.ref (ad 10) :: rest)) := by
  refine gf_RX3_15_3 p l e _ s m args below meth c H locs _ _ _ xs cD cy A cc nL _ S (ad 10) pc ls rest 2 hM hw (sh_L hT (r := 10) (by decide +kernel)) (sh_K hT (r := 10) (by decide +kernel) rfl) hd rfl ?_
  have e1 : z_v S (ad 10) 2 (z_bs 3 + 1) = .ref (ad 13) := by
    show va_rf (zQ S (z_bs 3 + 1) (ad 10)) = _
    rw [sh_P hT (r := 10) (f := 1) (r2 := 13) (by decide +kernel) rfl (by decide) rfl (by decide +kernel)]; rfl
  rw [e1]
  exact k
set_option maxHeartbeats 1000000 in
set_option maxRecDepth 100000 in
theorem c_X3_countOf_1 {xs ad : Nat → Nat} (lau : Launch) (cD : va_G) (cy : Nat → ClassId) (sz_ : Nat) (S_ : zS) (hSh : ShT ad S_) (n0_ : Nat) (hn1 : 1 ≤ n0_) (hn8 : n0_ ≤ 8) (cn : Nat) (hc0 : zA S_ (ad 14) n0_ = 0) (hcn : zI S_ 305 (ad 10) = nI cn) (hct0 : cn + (cG n0_ n0_ []).length ≤ 2100) : Met lau yX3_countOf (Cond.code yX3_countOf cX3_countOf 2 (some .int) :: TB) ({ frames := 11, cells := 0, slots := 0, locals := 255 } : Room) (va_Pc [.ref (ad 10), .int (nI n0_)] (zPre xs cD cy S_ sz_)) (QX cD cy (PI (fun (v_ : Int32) (S1 : zS) => ∃ cod po la : Nat → Int32, S1 = zsA (zsI (zsA (zsA (zsA (zsA (zsI S_ 306 (ad 10) (nI n0_)) (ad 15) po) (ad 13) (upd (zA S_ (ad 13)) n0_ (nI cn))) (ad 12) cod) (ad 16) la) 305 (ad 10) (nI (cn + (cG n0_ n0_ []).length))) (ad 14) (upd (zA S_ (ad 14)) n0_ (nI (cG n0_ n0_ []).length)) ∧ (∀ k_, k_ < cn → cod k_ = zA S_ (ad 12) k_) ∧ (∀ i_, i_ < (cG n0_ n0_ []).length → cod (cn + i_) = cdI ((cG n0_ n0_ []).getD i_ [])) ∧ v_ = nI (cG n0_ n0_ []).length)) (zAd cy S_ sz_)) 0 0 (zAd cy S_ sz_) := by
  refine z_ofW (QQ := QX cD cy (PI (fun (v_ : Int32) (S1 : zS) => ∃ cod po la : Nat → Int32, S1 = zsA (zsI (zsA (zsA (zsA (zsA (zsI S_ 306 (ad 10) (nI n0_)) (ad 15) po) (ad 13) (upd (zA S_ (ad 13)) n0_ (nI cn))) (ad 12) cod) (ad 16) la) 305 (ad 10) (nI (cn + (cG n0_ n0_ []).length))) (ad 14) (upd (zA S_ (ad 14)) n0_ (nI (cG n0_ n0_ []).length)) ∧ (∀ k_, k_ < cn → cod k_ = zA S_ (ad 12) k_) ∧ (∀ i_, i_ < (cG n0_ n0_ []).length → cod (cn + i_) = cdI ((cG n0_ n0_ []).getD i_ [])) ∧ v_ = nI (cG n0_ n0_ []).length))) (own := RX3) (by decide +kernel) rfl rfl (Nat.le_of_ble_eq_true rfl) ?_
  intro p_ e_ s_ m_ args_ below_ meth_ c_ A_ ls hcf hr hlk hnm hK_ hE hZ hw hA hl
  have hM : MX xs cD cy A_ p_ s_ m_ args_ c_ cX3_countOf 2 (Cond.code yX3_countOf cX3_countOf 2 (some .int) :: TB) RX3 := ⟨hcf, fun w hw => List.mem_cons_of_mem _ hw, hK_, hE, hZ, hA⟩
  obtain ⟨hx, hb_, hml, hown, hts⟩ := id hcf
  have hl : lv_has ls 2 [(0, .ref (ad 10)), (1, .int (nI n0_))] := hl
  have hSh0 := hSh
  refine lv_iload_n hx hb_ dX3_countOf_0 rfl (lv_at hl 1 rfl) ?_
  refine lv_iconst (v := 1) hx hb_ dX3_countOf_1 (by decide) ?_
  refine lv_icmp_lt (tgt := 11) hx hb_ dX3_countOf_2 (by decide) (fun c_2 => absurd c_2 (nI_nlt (a := n0_) (b := 1) hn1 (by omega))) (fun c_2 => ?_)
  refine lv_iload_n hx hb_ dX3_countOf_5 rfl (lv_at hl 1 rfl) ?_
  refine lv_bipush (v := 8) hx hb_ dX3_countOf_6 (by decide) ?_
  refine lv_icmp_le (tgt := 13) hx hb_ dX3_countOf_8 (by decide) (fun c_8 => ?_) (fun c_8 => absurd (nI_le (b := 8) hn8 (by decide)) c_8)
  refine lv_aload_n hx hb_ dX3_countOf_13 rfl (lv_at hl 0 rfl) ?_
  refine gs_RX3_18_2 hM hSh hw dX3_countOf_14 ?_
  refine lv_iload_n hx hb_ dX3_countOf_17 rfl (lv_at hl 1 rfl) ?_
  refine z_iald (n := 9) hcf hK_ hw (sh_L hSh (r := 14) (by decide +kernel)) (sh_K hSh (r := 14) (by decide +kernel) rfl) (sh_N hSh (r := 14) (by decide +kernel) rfl (by decide)) (vp_in_nI (show n0_ < 9 by omega) (by decide)) dX3_countOf_18 ?_
  refine z_topi (y := 0) (by rw [nI_clamp (show n0_ < 2 ^ 31 by omega)]; exact hc0) ?_
  refine lv_if_ne (tgt := 60) hx hb_ dX3_countOf_19 (by decide) (fun c_19 => absurd c_19 (by decide)) (fun _ => ?_)
  refine lv_aload_n hx hb_ dX3_countOf_22 rfl (lv_at hl 0 rfl) ?_
  refine lv_iload_n hx hb_ dX3_countOf_23 rfl (lv_at hl 1 rfl) ?_
  refine z_call hw hA (rl_RX3_2_55_3 p_ lau e_ _ s_ m_ args_ below_ meth_ c_ _ _ _ _ xs cD cy A_ _ _ _ _ 24 ls [] [.ref (ad 10), .int (nI n0_)] _ _ 0 0 _ hM hw rfl (Or.inr (Or.inl ⟨by decide, _, _, rfl, sh_L hSh (r := 10) (by decide +kernel), sh_K hSh (r := 10) (by decide +kernel) rfl⟩)) (c_X3_clear lau cD cy _ S_ hSh (nI n0_)) rfl rfl (show 1 + 1 ≤ 11 by omega) (show 8 + (2 + 11) + (23) ≤ 255 by omega) (show (0 : Nat) ≤ 8 by decide) dX3_countOf_24 ⟨Nat.le_refl _, Nat.le_refl _⟩ hl.1) (fun rv_ S2 ρ2 H_ locs_ hp hw => ?_)
  obtain ⟨rfl, hp⟩ := hp
  obtain ⟨fl0, rfl, hfl0⟩ := hp
  have hSh : ShT ad (zsA (zsI S_ 306 (ad 10) (nI n0_)) (ad 15) fl0) := (sh_A (sh_I hSh0))
  refine lv_aload_n hx hb_ dX3_countOf_27 rfl (lv_at hl 0 rfl) ?_
  refine gs_RX3_15_1 hM hSh hw dX3_countOf_28 ?_
  refine lv_iload_n hx hb_ dX3_countOf_31 rfl (lv_at hl 1 rfl) ?_
  refine lv_aload_n hx hb_ dX3_countOf_32 rfl (lv_at hl 0 rfl) ?_
  refine gi_RX3_27_5 (x := nI cn) hM hSh hw (zI_A.trans ((zI_nj (by decide)).trans hcn)) dX3_countOf_33 ?_
  refine z_iast (n := 9) hcf hK_ hw (sh_L hSh (r := 13) (by decide +kernel)) (sh_K hSh (r := 13) (by decide +kernel) rfl) (sh_N hSh (r := 13) (by decide +kernel) rfl (by decide)) (vp_in_nI (show n0_ < 9 by omega) (by decide)) dX3_countOf_36 (fun H_ locs_ hw => ?_)
  obtain ⟨f3_, ef3⟩ : ∃ zz, zz = (upd (zA (zsA (zsI S_ 306 (ad 10) (nI n0_)) (ad 15) fl0) (ad 13)) ((nI n0_) : Int32).toNatClampNeg (nI cn)) := ⟨_, rfl⟩
  rw [← ef3] at hw
  have hf3 : f3_ = upd (zA S_ (ad 13)) n0_ (nI cn) := by rw [ef3, (nI_clamp (show n0_ < 2 ^ 31 by omega)), show zA (zsA (zsI S_ 306 (ad 10) (nI n0_)) (ad 15) fl0) (ad 13) = _ from ((zA_ne _ _ (sh_ne hSh (r := 13) (r2 := 15) (by decide +kernel) (by decide +kernel) (by decide))).trans zA_I)]
  have hSh : ShT ad (zsA (zsA (zsI S_ 306 (ad 10) (nI n0_)) (ad 15) fl0) (ad 13) f3_) := (sh_A (sh_A (sh_I hSh0)))
  refine lv_aload_n hx hb_ dX3_countOf_37 rfl (lv_at hl 0 rfl) ?_
  refine lv_iconst (v := 0) hx hb_ dX3_countOf_38 (by decide) ?_
  refine lv_iconst (v := 0) hx hb_ dX3_countOf_39 (by decide) ?_
  refine W.eq (g2 := F0 m_ 40 ls [.int (cdI []), .int (nI ([] : List Nat).length), .ref (ad 10)]) rfl ?_
  refine z_call hw hA (rl_RX3_0_59_99 p_ lau e_ _ s_ m_ args_ below_ meth_ c_ _ _ _ _ xs cD cy A_ _ _ _ _ 40 ls [] [.ref (ad 10), .int (nI ([] : List Nat).length), .int (cdI [])] _ _ 0 0 _ hM hw rfl (Or.inl rfl) (c_X3_grow lau cD cy n0_ hn8 n0_ _ (zsA (zsA (zsI S_ 306 (ad 10) (nI n0_)) (ad 15) fl0) (ad 13) f3_) hSh cn [] (Nat.zero_add _) (fun x_ h_ => absurd h_ List.not_mem_nil) (zI_A.trans (zI_A.trans zI_at)) (zI_A.trans (zI_A.trans ((zI_nj (by decide)).trans hcn))) hct0 (fun k_ hk => (congrFun (show zA (zsA (zsA (zsI S_ 306 (ad 10) (nI n0_)) (ad 15) fl0) (ad 13) f3_) (ad 15) = fl0 from ((zA_ne _ _ (sh_ne hSh (r := 15) (r2 := 13) (by decide +kernel) (by decide +kernel) (by decide))).trans (zA_zsA _ _ _))) k_).trans ((hfl0 k_ hk).trans (pos_no List.not_mem_nil).symm)) (fun k_ hk => absurd hk (Nat.not_lt_zero k_))) rfl rfl (show n0_ + 2 + 1 ≤ 11 by omega) (show 8 + (4 + 11) + (23 * n0_ + 48) ≤ 255 by omega) (show (0 : Nat) ≤ 8 by decide) dX3_countOf_40 ⟨Nat.le_refl _, Nat.le_refl _⟩ hl.1) (fun rv_ x_ ρ2 H_ locs_ hp hw => ?_)
  obtain ⟨rfl, hp⟩ := hp
  obtain ⟨cod, la, rfl, hc1, hc2, -⟩ := hp
  have hc1 : ∀ k_, k_ < cn → cod k_ = zA S_ (ad 12) k_ := fun k_ hk => (hc1 k_ hk).trans (congrFun (show zA (zsA (zsA (zsI S_ 306 (ad 10) (nI n0_)) (ad 15) fl0) (ad 13) f3_) (ad 12) = zA S_ (ad 12) from ((zA_ne _ _ (sh_ne hSh (r := 12) (r2 := 13) (by decide +kernel) (by decide +kernel) (by decide))).trans ((zA_ne _ _ (sh_ne hSh (r := 12) (r2 := 15) (by decide +kernel) (by decide +kernel) (by decide))).trans zA_I))) k_)
  rw [show zA (zsA (zsA (zsI S_ 306 (ad 10) (nI n0_)) (ad 15) fl0) (ad 13) f3_) (ad 15) = _ from ((zA_ne _ _ (sh_ne hSh (r := 15) (r2 := 13) (by decide +kernel) (by decide +kernel) (by decide))).trans (zA_zsA _ _ _))] at hw
  rw [zsA_comm _ _ _ (sh_ne hSh (r := 12) (r2 := 15) (by decide +kernel) (by decide +kernel) (by decide)), zsA_comm _ _ _ (sh_ne hSh (r := 13) (r2 := 15) (by decide +kernel) (by decide +kernel) (by decide)), zsA_zsA] at hw
  have hSh : ShT ad (zsI (zsA (zsA (zsA (zsA (zsI S_ 306 (ad 10) (nI n0_)) (ad 15) fl0) (ad 13) f3_) (ad 12) cod) (ad 16) la) 305 (ad 10) (nI (cn + (cG n0_ n0_ []).length))) := (sh_I (sh_A (sh_A (sh_A (sh_A (sh_I hSh0))))))
  refine lv_aload_n hx hb_ dX3_countOf_43 rfl (lv_at hl 0 rfl) ?_
  refine gs_RX3_18_2 hM hSh hw dX3_countOf_44 ?_
  refine lv_iload_n hx hb_ dX3_countOf_47 rfl (lv_at hl 1 rfl) ?_
  refine lv_aload_n hx hb_ dX3_countOf_48 rfl (lv_at hl 0 rfl) ?_
  refine gi_RX3_27_5 (x := (nI (cn + (cG n0_ n0_ []).length))) hM hSh hw (zI_at) dX3_countOf_49 ?_
  refine lv_aload_n hx hb_ dX3_countOf_52 rfl (lv_at hl 0 rfl) ?_
  refine gs_RX3_15_1 hM hSh hw dX3_countOf_53 ?_
  refine lv_iload_n hx hb_ dX3_countOf_56 rfl (lv_at hl 1 rfl) ?_
  refine z_iald (n := 9) hcf hK_ hw (sh_L hSh (r := 13) (by decide +kernel)) (sh_K hSh (r := 13) (by decide +kernel) rfl) (sh_N hSh (r := 13) (by decide +kernel) rfl (by decide)) (vp_in_nI (show n0_ < 9 by omega) (by decide)) dX3_countOf_57 ?_
  refine z_topi (y := (f3_ n0_)) (by rw [(nI_clamp (show n0_ < 2 ^ 31 by omega))]; exact congrFun (show zA (zsI (zsA (zsA (zsA (zsA (zsI S_ 306 (ad 10) (nI n0_)) (ad 15) fl0) (ad 13) f3_) (ad 12) cod) (ad 16) la) 305 (ad 10) (nI (cn + (cG n0_ n0_ []).length))) (ad 13) = f3_ from (zA_I.trans ((zA_ne _ _ (sh_ne hSh (r := 13) (r2 := 16) (by decide +kernel) (by decide +kernel) (by decide))).trans ((zA_ne _ _ (sh_ne hSh (r := 13) (r2 := 12) (by decide +kernel) (by decide +kernel) (by decide))).trans (zA_zsA _ _ _))))) _) ?_
  refine lv_isub hx hb_ dX3_countOf_58 ?_
  refine z_topi (y := (nI (cG n0_ n0_ []).length)) (by rw [hf3, upd_at]; exact nI_subL _ _) ?_
  refine z_iast (n := 9) hcf hK_ hw (sh_L hSh (r := 14) (by decide +kernel)) (sh_K hSh (r := 14) (by decide +kernel) rfl) (sh_N hSh (r := 14) (by decide +kernel) rfl (by decide)) (vp_in_nI (show n0_ < 9 by omega) (by decide)) dX3_countOf_59 (fun H_ locs_ hw => ?_)
  obtain ⟨f6, ef6⟩ : ∃ zz, zz = (upd (zA (zsI (zsA (zsA (zsA (zsA (zsI S_ 306 (ad 10) (nI n0_)) (ad 15) fl0) (ad 13) f3_) (ad 12) cod) (ad 16) la) 305 (ad 10) (nI (cn + (cG n0_ n0_ []).length))) (ad 14)) ((nI n0_) : Int32).toNatClampNeg (nI (cG n0_ n0_ []).length)) := ⟨_, rfl⟩
  rw [← ef6] at hw
  have hf6 : f6 = upd (zA S_ (ad 14)) n0_ (nI (cG n0_ n0_ []).length) := by rw [ef6, (nI_clamp (show n0_ < 2 ^ 31 by omega)), show zA (zsI (zsA (zsA (zsA (zsA (zsI S_ 306 (ad 10) (nI n0_)) (ad 15) fl0) (ad 13) f3_) (ad 12) cod) (ad 16) la) 305 (ad 10) (nI (cn + (cG n0_ n0_ []).length))) (ad 14) = _ from (zA_I.trans ((zA_ne _ _ (sh_ne hSh (r := 14) (r2 := 16) (by decide +kernel) (by decide +kernel) (by decide))).trans ((zA_ne _ _ (sh_ne hSh (r := 14) (r2 := 12) (by decide +kernel) (by decide +kernel) (by decide))).trans ((zA_ne _ _ (sh_ne hSh (r := 14) (r2 := 13) (by decide +kernel) (by decide +kernel) (by decide))).trans ((zA_ne _ _ (sh_ne hSh (r := 14) (r2 := 15) (by decide +kernel) (by decide +kernel) (by decide))).trans zA_I)))))]
  have hSh : ShT ad (zsA (zsI (zsA (zsA (zsA (zsA (zsI S_ 306 (ad 10) (nI n0_)) (ad 15) fl0) (ad 13) f3_) (ad 12) cod) (ad 16) la) 305 (ad 10) (nI (cn + (cG n0_ n0_ []).length))) (ad 14) f6) := (sh_A (sh_I (sh_A (sh_A (sh_A (sh_A (sh_I hSh0)))))))
  refine lv_aload_n hx hb_ dX3_countOf_60 rfl (lv_at hl 0 rfl) ?_
  refine gs_RX3_18_2 hM hSh hw dX3_countOf_61 ?_
  refine lv_iload_n hx hb_ dX3_countOf_64 rfl (lv_at hl 1 rfl) ?_
  refine z_iald (n := 9) hcf hK_ hw (sh_L hSh (r := 14) (by decide +kernel)) (sh_K hSh (r := 14) (by decide +kernel) rfl) (sh_N hSh (r := 14) (by decide +kernel) rfl (by decide)) (vp_in_nI (show n0_ < 9 by omega) (by decide)) dX3_countOf_65 ?_
  refine z_topi (y := (f6 n0_)) (by rw [(nI_clamp (show n0_ < 2 ^ 31 by omega))]; exact congrFun (show zA (zsA (zsI (zsA (zsA (zsA (zsA (zsI S_ 306 (ad 10) (nI n0_)) (ad 15) fl0) (ad 13) f3_) (ad 12) cod) (ad 16) la) 305 (ad 10) (nI (cn + (cG n0_ n0_ []).length))) (ad 14) f6) (ad 14) = f6 from (zA_zsA _ _ _)) _) ?_
  exact z_iretI (ty := .int) (v := (f6 n0_)) hcf hr rfl hlk hw (⟨cod, fl0, la, by rw [hf3, hf6], hc1, hc2, by rw [hf6]; exact upd_at _ _ _⟩) dX3_countOf_66
set_option maxHeartbeats 1000000 in
set_option maxRecDepth 100000 in
theorem c_X3_countOf_2 {xs ad : Nat → Nat} (lau : Launch) (cD : va_G) (cy : Nat → ClassId) (sz_ : Nat) (S_ : zS) (hSh : ShT ad S_) (n0_ : Nat) (hn1 : 1 ≤ n0_) (hn8 : n0_ ≤ 8) (x_ : Int32) (hx0 : ¬ x_ = 0) (hct : zA S_ (ad 14) n0_ = x_) : Met lau yX3_countOf (Cond.code yX3_countOf cX3_countOf 2 (some .int) :: TB) ({ frames := 0, cells := 0, slots := 0, locals := 0 } : Room) (va_Pc [.ref (ad 10), .int (nI n0_)] (zPre xs cD cy S_ sz_)) (QX cD cy (PI (fun (v_ : Int32) (S1 : zS) => v_ = x_ ∧ S_ = S1)) (zAd cy S_ sz_)) 0 0 (zAd cy S_ sz_) := by
  refine z_ofW (QQ := QX cD cy (PI (fun (v_ : Int32) (S1 : zS) => v_ = x_ ∧ S_ = S1))) (own := RX3) (by decide +kernel) rfl rfl (Nat.le_of_ble_eq_true rfl) ?_
  intro p_ e_ s_ m_ args_ below_ meth_ c_ A_ ls hcf hr hlk hnm hK_ hE hZ hw hA hl
  have hM : MX xs cD cy A_ p_ s_ m_ args_ c_ cX3_countOf 2 (Cond.code yX3_countOf cX3_countOf 2 (some .int) :: TB) RX3 := ⟨hcf, fun w hw => List.mem_cons_of_mem _ hw, hK_, hE, hZ, hA⟩
  obtain ⟨hx, hb_, hml, hown, hts⟩ := id hcf
  have hl : lv_has ls 2 [(0, .ref (ad 10)), (1, .int (nI n0_))] := hl
  have hSh0 := hSh
  refine lv_iload_n hx hb_ dX3_countOf_0 rfl (lv_at hl 1 rfl) ?_
  refine lv_iconst (v := 1) hx hb_ dX3_countOf_1 (by decide) ?_
  refine lv_icmp_lt (tgt := 11) hx hb_ dX3_countOf_2 (by decide) (fun c_2 => absurd c_2 (nI_nlt (a := n0_) (b := 1) hn1 (by omega))) (fun c_2 => ?_)
  refine lv_iload_n hx hb_ dX3_countOf_5 rfl (lv_at hl 1 rfl) ?_
  refine lv_bipush (v := 8) hx hb_ dX3_countOf_6 (by decide) ?_
  refine lv_icmp_le (tgt := 13) hx hb_ dX3_countOf_8 (by decide) (fun c_8 => ?_) (fun c_8 => absurd (nI_le (b := 8) hn8 (by decide)) c_8)
  refine lv_aload_n hx hb_ dX3_countOf_13 rfl (lv_at hl 0 rfl) ?_
  refine gs_RX3_18_2 hM hSh hw dX3_countOf_14 ?_
  refine lv_iload_n hx hb_ dX3_countOf_17 rfl (lv_at hl 1 rfl) ?_
  refine z_iald (n := 9) hcf hK_ hw (sh_L hSh (r := 14) (by decide +kernel)) (sh_K hSh (r := 14) (by decide +kernel) rfl) (sh_N hSh (r := 14) (by decide +kernel) rfl (by decide)) (vp_in_nI (show n0_ < 9 by omega) (by decide)) dX3_countOf_18 ?_
  refine z_topi (y := x_) (by rw [nI_clamp (show n0_ < 2 ^ 31 by omega)]; exact hct) ?_
  refine lv_if_ne (tgt := 60) hx hb_ dX3_countOf_19 (by decide) (fun c_19 => ?_) (fun c_19 => absurd c_19 (hx0))
  refine lv_aload_n hx hb_ dX3_countOf_60 rfl (lv_at hl 0 rfl) ?_
  refine gs_RX3_18_2 hM hSh hw dX3_countOf_61 ?_
  refine lv_iload_n hx hb_ dX3_countOf_64 rfl (lv_at hl 1 rfl) ?_
  refine z_iald (n := 9) hcf hK_ hw (sh_L hSh (r := 14) (by decide +kernel)) (sh_K hSh (r := 14) (by decide +kernel) rfl) (sh_N hSh (r := 14) (by decide +kernel) rfl (by decide)) (vp_in_nI (show n0_ < 9 by omega) (by decide)) dX3_countOf_65 ?_
  refine z_topi (y := x_) (by rw [nI_clamp (show n0_ < 2 ^ 31 by omega)]; exact hct) ?_
  exact z_iretI (ty := .int) (v := x_) hcf hr rfl hlk hw (⟨rfl, rfl⟩) dX3_countOf_66
set_option maxHeartbeats 1000000 in
set_option maxRecDepth 100000 in
theorem c_X3_leafOf {xs ad : Nat → Nat} (lau : Launch) (cD : va_G) (cy : Nat → ClassId) (sz_ : Nat) (S_ : zS) (hSh : ShT ad S_) (n0_ : Nat) (hn1 : 1 ≤ n0_) (hn8 : n0_ ≤ 8) (i0 p0 : Nat) (hi0 : i0 < (cG n0_ n0_ []).length) (hp0 : p0 < n0_) (h13 : (cG n0_ n0_ []).length ≤ 1392) (h1l : 1 ≤ (cG n0_ n0_ []).length) (f0 : Nat) (hf0 : f0 + (cG n0_ n0_ []).length ≤ 2100) (hfr : zA S_ (ad 13) n0_ = nI f0) (hct : zA S_ (ad 14) n0_ = nI (cG n0_ n0_ []).length) (hcod : ∀ i_, i_ < (cG n0_ n0_ []).length → zA S_ (ad 12) (f0 + i_) = cdI ((cG n0_ n0_ []).getD i_ [])) : Met lau yX3_leafOf (Cond.code yX3_leafOf cX3_leafOf 5 (some .int) :: TB) ({ frames := 1, cells := 0, slots := 0, locals := 21 } : Room) (va_Pc [.ref (ad 10), .int (nI n0_), .int (nI i0), .int (nI p0)] (zPre xs cD cy S_ sz_)) (QX cD cy (PI (fun (v_ : Int32) (S1 : zS) => v_ = nI (((cG n0_ n0_ []).getD i0 []).getD p0 0) ∧ S_ = S1)) (zAd cy S_ sz_)) 0 0 (zAd cy S_ sz_) := by
  refine z_ofW (QQ := QX cD cy (PI (fun (v_ : Int32) (S1 : zS) => v_ = nI (((cG n0_ n0_ []).getD i0 []).getD p0 0) ∧ S_ = S1))) (own := RX3) (by decide +kernel) rfl rfl (Nat.le_of_ble_eq_true rfl) ?_
  intro p_ e_ s_ m_ args_ below_ meth_ c_ A_ ls hcf hr hlk hnm hK_ hE hZ hw hA hl
  have hM : MX xs cD cy A_ p_ s_ m_ args_ c_ cX3_leafOf 5 (Cond.code yX3_leafOf cX3_leafOf 5 (some .int) :: TB) RX3 := ⟨hcf, fun w hw => List.mem_cons_of_mem _ hw, hK_, hE, hZ, hA⟩
  obtain ⟨hx, hb_, hml, hown, hts⟩ := id hcf
  have hl : lv_has ls 5 [(0, .ref (ad 10)), (1, .int (nI n0_)), (2, .int (nI i0)), (3, .int (nI p0))] := hl
  have hSh0 := hSh
  refine lv_iload_n hx hb_ dX3_leafOf_0 rfl (lv_at hl 1 rfl) ?_
  refine lv_iconst (v := 1) hx hb_ dX3_leafOf_1 (by decide) ?_
  refine lv_icmp_lt (tgt := 33) hx hb_ dX3_leafOf_2 (by decide) (fun c_2 => absurd c_2 (nI_nlt (a := n0_) (b := 1) hn1 (by omega))) (fun c_2 => ?_)
  refine lv_iload_n hx hb_ dX3_leafOf_5 rfl (lv_at hl 1 rfl) ?_
  refine lv_bipush (v := 8) hx hb_ dX3_leafOf_6 (by decide) ?_
  refine lv_icmp_gt (tgt := 33) hx hb_ dX3_leafOf_8 (by decide) (fun c_8 => absurd c_8 (fun q_ => absurd q_ (nI_nlt (a := 8) (b := n0_) hn8 (by decide)))) (fun c_8 => ?_)
  refine lv_iload_n hx hb_ dX3_leafOf_11 rfl (lv_at hl 3 rfl) ?_
  refine lv_if_lt (tgt := 33) hx hb_ dX3_leafOf_12 (by decide) (fun c_12 => absurd c_12 (nI_pos (by omega))) (fun c_12 => ?_)
  refine lv_iload_n hx hb_ dX3_leafOf_15 rfl (lv_at hl 3 rfl) ?_
  refine lv_iload_n hx hb_ dX3_leafOf_16 rfl (lv_at hl 1 rfl) ?_
  refine lv_icmp_ge (tgt := 33) hx hb_ dX3_leafOf_17 (by decide) (fun c_17 => absurd c_17 (nI_ge hp0 (by omega))) (fun c_17 => ?_)
  refine lv_iload_n hx hb_ dX3_leafOf_20 rfl (lv_at hl 2 rfl) ?_
  refine lv_if_lt (tgt := 33) hx hb_ dX3_leafOf_21 (by decide) (fun c_21 => absurd c_21 (nI_pos (by omega))) (fun c_21 => ?_)
  refine lv_iload_n hx hb_ dX3_leafOf_24 rfl (lv_at hl 2 rfl) ?_
  refine lv_aload_n hx hb_ dX3_leafOf_25 rfl (lv_at hl 0 rfl) ?_
  refine lv_iload_n hx hb_ dX3_leafOf_26 rfl (lv_at hl 1 rfl) ?_
  refine z_call hw hA (rl_RX3_2_77_3 p_ lau e_ _ s_ m_ args_ below_ meth_ c_ _ _ _ _ xs cD cy A_ _ _ _ _ 27 ls [.int (nI i0)] [.ref (ad 10), .int (nI n0_)] _ _ 0 0 _ hM hw rfl (Or.inr (Or.inl ⟨by decide, _, _, rfl, sh_L hSh (r := 10) (by decide +kernel), sh_K hSh (r := 10) (by decide +kernel) rfl⟩)) (c_X3_countOf_2 lau cD cy _ S_ hSh n0_ hn1 hn8 (nI (cG n0_ n0_ []).length) (nI_ne0 (by omega) (by omega)) hct) rfl rfl (show 0 + 1 ≤ 1 by omega) (show 8 + (2 + 11) + (0) ≤ 21 by omega) (show (1 : Nat) ≤ 8 by decide) dX3_leafOf_27 ⟨Nat.le_refl _, Nat.le_refl _⟩ hl.1) (fun rv_ S2 ρ2 H_ locs_ hp hw => ?_)
  obtain ⟨v1, rfl, hp⟩ := hp
  obtain ⟨rfl, rfl⟩ := hp
  refine lv_icmp_lt (tgt := 35) hx hb_ dX3_leafOf_30 (by decide) (fun c_30 => ?_) (fun c_30 => absurd (nI_lt hi0 (by omega)) c_30)
  refine lv_aload_n hx hb_ dX3_leafOf_35 rfl (lv_at hl 0 rfl) ?_
  refine gs_RX3_15_1 hM hSh hw dX3_leafOf_36 ?_
  refine lv_iload_n hx hb_ dX3_leafOf_39 rfl (lv_at hl 1 rfl) ?_
  refine z_iald (n := 9) hcf hK_ hw (sh_L hSh (r := 13) (by decide +kernel)) (sh_K hSh (r := 13) (by decide +kernel) rfl) (sh_N hSh (r := 13) (by decide +kernel) rfl (by decide)) (vp_in_nI (show n0_ < 9 by omega) (by decide)) dX3_leafOf_40 ?_
  refine z_topi (y := nI f0) (by rw [nI_clamp (show n0_ < 2 ^ 31 by omega)]; exact hfr) ?_
  refine lv_iload_n hx hb_ dX3_leafOf_41 rfl (lv_at hl 2 rfl) ?_
  refine lv_iadd hx hb_ dX3_leafOf_42 ?_
  refine z_topi (y := (nI (f0 + i0))) (nI_add f0 i0) ?_
  refine lv_istore (lv' := [(4, .int (nI (f0 + i0))), (0, .ref (ad 10)), (1, .int (nI n0_)), (2, .int (nI i0)), (3, .int (nI p0))]) hx hb_ dX3_leafOf_43 hl (by decide) rfl (fun ls hl => ?_)
  refine lv_iload hx hb_ dX3_leafOf_45 (lv_at hl 0 rfl) ?_
  refine lv_if_lt (tgt := 75) hx hb_ dX3_leafOf_47 (by decide) (fun c_47 => absurd c_47 (nI_pos (by omega))) (fun c_47 => ?_)
  refine lv_iload hx hb_ dX3_leafOf_50 (lv_at hl 0 rfl) ?_
  refine lv_sipush (v := 2100) hx hb_ dX3_leafOf_52 (by decide) ?_
  refine lv_icmp_ge (tgt := 75) hx hb_ dX3_leafOf_55 (by decide) (fun c_55 => absurd c_55 (nI_ge (a := f0 + i0) (b := 2100) (by omega) (by decide))) (fun c_55 => ?_)
  refine lv_aload_n hx hb_ dX3_leafOf_58 rfl (lv_at hl 1 rfl) ?_
  refine gs_RX3_11_0 hM hSh hw dX3_leafOf_59 ?_
  refine lv_iload hx hb_ dX3_leafOf_62 (lv_at hl 0 rfl) ?_
  refine z_iald (n := 2100) hcf hK_ hw (sh_L hSh (r := 12) (by decide +kernel)) (sh_K hSh (r := 12) (by decide +kernel) rfl) (sh_N hSh (r := 12) (by decide +kernel) rfl (by decide)) (vp_in_nI (show f0 + i0 < 2100 by omega) (by decide)) dX3_leafOf_64 ?_
  refine z_topi (y := (cdI ((cG n0_ n0_ []).getD i0 []))) (by rw [nI_clamp (show f0 + i0 < 2 ^ 31 by omega)]; exact hcod i0 hi0) ?_
  refine lv_iconst (v := 3) hx hb_ dX3_leafOf_65 (by decide) ?_
  refine lv_iload_n hx hb_ dX3_leafOf_66 rfl (lv_at hl 4 rfl) ?_
  refine lv_imul hx hb_ dX3_leafOf_67 ?_
  refine lv_ishr hx hb_ dX3_leafOf_68 ?_
  refine lv_bipush (v := 7) hx hb_ dX3_leafOf_69 (by decide) ?_
  refine lv_iand hx hb_ dX3_leafOf_71 ?_
  refine z_topi (y := (nI (((cG n0_ n0_ []).getD i0 []).getD p0 0))) (cd_get (getD_lt (by decide) (fun x_ hx => Nat.lt_of_lt_of_le ((cG_at hi0).2 x_ hx) hn8)) (by rw [(cG_at hi0).1]; exact hn8) (by rw [(cG_at hi0).1]; exact hp0)) ?_
  refine lv_goto (tgt := 76) hx hb_ dX3_leafOf_72 (by decide) ?_
  exact z_iretI (ty := .int) (v := (nI (((cG n0_ n0_ []).getD i0 []).getD p0 0))) hcf hr rfl hlk hw (⟨rfl, rfl⟩) dX3_leafOf_76
