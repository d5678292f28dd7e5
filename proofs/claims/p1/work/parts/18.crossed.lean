
theorem zx_ltN {x y : Int32} (h : ¬ y ≤ x) : x < y := by rw [zx_le] at h; rw [zx_lt]; omega
theorem zx_leN {x y : Int32} (h : y ≤ x) : ¬ x < y := by rw [zx_le] at h; rw [zx_lt]; omega
theorem okB_iff {n : Nat} {P : List Nat} : okB n P = true ↔ ∀ i, i < n → ∀ t, i + 3 + 2 * t < n → xin P i (i + 2 + 2 * t) = xin P i (i + 3 + 2 * t) := by
  rw [okB, decide_eq_true_eq]
  exact ⟨fun h i hi t ht => h i hi t (by omega) ht, fun h i hi t _ ht => h i hi t ht⟩
theorem mx_in {a b c : Nat} (ha : a < 8) (hb : b < 8) (hc : c < 8) : ((if nI a < nI b then nI a else nI b) < nI c ∧ nI c < nI a + nI b - (if nI a < nI b then nI a else nI b)) ↔ (a < c ∧ c < b ∨ b < c ∧ c < a) := by
  have h : ∀ a, a < 8 → ∀ b, b < 8 → ∀ c, c < 8 → (decide ((if nI a < nI b then nI a else nI b) < nI c ∧ nI c < nI a + nI b - (if nI a < nI b then nI a else nI b)) = decide (a < c ∧ c < b ∨ b < c ∧ c < a)) := by decide +kernel
  have := h a ha b hb c hc
  rwa [decide_eq_decide] at this
theorem ub_t : ∀ l, l < 8 → ∀ u, u < 256 → nbit u l = false → (nI u ||| (1 <<< (nI l &&& 31)) = nI (u + 2 ^ l) ∧ u + 2 ^ l < 256 ∧ ∀ k, k < 8 → nbit (u + 2 ^ l) k = (nbit u k || k == l)) := by decide +kernel
theorem ub_s : ∀ l, l < 8 → ∀ u, u < 256 → (decide (((nI u >>> (nI l &&& 31)) &&& 1) = 1) = nbit u l) := by decide +kernel
def mGf (n e : Nat) (pre : List Nat) (l : Nat) : List (List Nat) := if l ∈ pre then [] else mG n e (pre ++ [l])
theorem mG_eq (n e : Nat) (pre : List Nat) : mG n (e + 1) pre = (List.range n).flatMap (mGf n e pre) := rfl

set_option maxHeartbeats 400000 in
set_option maxRecDepth 100000 in
theorem c_X12_isCrossed (lau : Launch) (cD : va_G) (cy : Nat → ClassId) (sz_ : Nat) (r_ : Nat → Nat) (S_ : zS) (hSh : ShM S_ r_) (n_ : Nat) (P : List Nat) (hn : n_ ≤ 8) (hPl : P.length = n_) (hall : ∀ k_, k_ < n_ → k_ ∈ P) (hat : ∀ k_, k_ < n_ → zA S_ (r_ 47) k_ = nI (P.idxOf k_)) : Met lau yX12_isCrossed wsX12_isCrossed ({ frames := 0, cells := 0, slots := 0, locals := 0 } : Room) (va_Pc [.ref (r_ 0), .int (nI n_)] (zPre cD cy S_ sz_)) (va_Qi (fun (v_ : Int32) (S1 : zS) => v_ = (if okB n_ P = true then 0 else 1) ∧ S_ = S1) (zPost cD cy (zAd cy S_ sz_)) (zAd cy S_ sz_)) 0 0 (zAd cy S_ sz_) := by
  refine z_ofW (cc := cX12_isCrossed) (maxL := 8) (ret := (some .boolean)) (own := RX12) (QQ := fun A_ => va_Qi (fun (v_ : Int32) (S1 : zS) => v_ = (if okB n_ P = true then 0 else 1) ∧ S_ = S1) (zPost cD cy A_) A_) (by decide) rfl rfl (Nat.le_of_ble_eq_true rfl) ?_
  intro p_ e_ s_ m_ args_ below_ meth_ c_ A_ ls hcf hr hlk hnm hK_ hE hw hA hl
  obtain ⟨hx, hb_, hml, hown, hts⟩ := id hcf
  have hin12 : ∀ w_ ∈ wsX120, w_ ∈ wsX12_isCrossed := fun w_ h_ => (List.mem_cons_of_mem _ (List.mem_append_right _ h_))
  have hl : lv_has ls 8 [(0, .ref (r_ 0)), (1, .int (nI n_))] := hl
  refine lv_iconst (v := 0) hx hb_ dX12_isCrossed_0 (by decide) ?_
  refine lv_istore_n (lv' := [(2, .int 0), (0, .ref (r_ 0)), (1, .int (nI n_))]) hx hb_ dX12_isCrossed_1 rfl hl (by decide) rfl (fun ls hl => ?_)
  have JA : ∀ (nA jA : Nat) (iA : Int32), iA = nI jA → jA ≤ n_ → n_ < jA + nA → (∀ i_, i_ < jA → ∀ t_, i_ + 3 + 2 * t_ < n_ → xin P i_ (i_ + 2 + 2 * t_) = xin P i_ (i_ + 3 + 2 * t_)) → ∀ (H_ : Heap) (locs_ : List Loc), zPw cD cy A_ s_.heap S_ H_ locs_ → ∀ ls : Array Slot, lv_has ls 8 [(0, .ref (r_ 0)), (1, .int (nI n_)), (2, .int iA)] → W p_ lau e_ ({ frames := 0, cells := 0, slots := 0, locals := 0 } : Room) s_ m_ args_ below_ meth_ c_ H_ locs_ 0 0 (MQ below_ (va_Qi (fun (v_ : Int32) (S1 : zS) => v_ = (if okB n_ P = true then 0 else 1) ∧ S_ = S1) (zPost cD cy A_) A_) args_ s_ 0 0 A_) (F0 m_ 2 ls []) := by
    intro nA
    induction nA with
    | zero => intro jA iA _ hjA h_; exact absurd h_ (by omega)
    | succ nA ihA =>
      intro jA iA eiA hjA hmA hok H_ locs_ hw ls hl
      refine lv_iload_n hx hb_ dX12_isCrossed_2 rfl (lv_at hl 2 rfl) ?_
      refine lv_iconst (v := 1) hx hb_ dX12_isCrossed_3 (by decide) ?_
      refine lv_iadd hx hb_ dX12_isCrossed_4 ?_
      refine z_topi (y := (nI (jA + 1))) (by rw [eiA]; exact nI_1 jA) ?_
      refine lv_iload_n hx hb_ dX12_isCrossed_5 rfl (lv_at hl 1 rfl) ?_
      refine lv_icmp_ge (tgt := 161) hx hb_ dX12_isCrossed_6 (by decide) (fun c_6 => ?_) (fun c_6 => ?_)
      · refine lv_iconst (v := 0) hx hb_ dX12_isCrossed_161 (by decide) ?_
        exact z_iret (ty := .boolean) (v := 0) hcf hr rfl hlk hw (⟨(if_pos (okB_iff.mpr (fun i_ hi_ t_ ht => hok i_ (by have := zn_ge rfl rfl (by omega) c_6; omega) t_ ht))).symm, rfl⟩) dX12_isCrossed_162
      · have hlt : jA + 1 < n_ := zn_lt rfl rfl (by omega) c_6
        have hx8 : ∀ k_, k_ < n_ → P.idxOf k_ < 8 := fun k_ hk => by have := (get_ix (hall k_ hk)).2; omega
        refine lv_aload_n hx hb_ dX12_isCrossed_9 rfl (lv_at hl 0 rfl) ?_
        refine z_get (k := 12) (i := 47) (j := 1247) (v := .ref (r_ 47)) (ref := "FoldedInHalfModel") (C := RX12) (T := TX12) (N := 56) hcf hK_ hw hin12 (mL hSh 0) (mK hSh 0) rfl (by decide) (by decide) rfl rfl (congrArg va_rf (mP hSh 47)) (List.mem_of_getElem? (i := 1) rfl) (fun _ h_ => h_) dX12_isCrossed_10 ?_
        refine lv_iload_n hx hb_ dX12_isCrossed_13 rfl (lv_at hl 2 rfl) ?_
        refine z_iald (n := 8) hcf hK_ hw (mL hSh 47) (mK hSh 47) (mN hSh 47) (by rw [eiA]; exact vp_in_nI (by omega) (by decide)) dX12_isCrossed_14 ?_
        refine z_topi (y := (nI (P.idxOf jA))) (by rw [(show iA.toNatClampNeg = jA by rw [eiA]; exact nI_clamp (by omega))]; exact hat jA (by omega)) ?_
        refine lv_aload_n hx hb_ dX12_isCrossed_15 rfl (lv_at hl 0 rfl) ?_
        refine z_get (k := 12) (i := 47) (j := 1247) (v := .ref (r_ 47)) (ref := "FoldedInHalfModel") (C := RX12) (T := TX12) (N := 56) hcf hK_ hw hin12 (mL hSh 0) (mK hSh 0) rfl (by decide) (by decide) rfl rfl (congrArg va_rf (mP hSh 47)) (List.mem_of_getElem? (i := 1) rfl) (fun _ h_ => h_) dX12_isCrossed_16 ?_
        refine lv_iload_n hx hb_ dX12_isCrossed_19 rfl (lv_at hl 2 rfl) ?_
        refine lv_iconst (v := 1) hx hb_ dX12_isCrossed_20 (by decide) ?_
        refine lv_iadd hx hb_ dX12_isCrossed_21 ?_
        refine z_iald (n := 8) hcf hK_ hw (mL hSh 47) (mK hSh 47) (mN hSh 47) (by rw [eiA, nI_1]; exact vp_in_nI (by omega) (by decide)) dX12_isCrossed_22 ?_
        refine z_topi (y := (nI (P.idxOf (jA + 1)))) (by rw [(show (iA + 1).toNatClampNeg = (jA + 1) by rw [eiA, nI_1]; exact nI_clamp (by omega))]; exact hat (jA + 1) (by omega)) ?_
        refine lv_icmp_ge (tgt := 35) hx hb_ dX12_isCrossed_23 (by decide) (fun c_23 => ?_) (fun c_23 => ?_)
        · refine lv_aload_n hx hb_ dX12_isCrossed_35 rfl (lv_at hl 0 rfl) ?_
          refine z_get (k := 12) (i := 47) (j := 1247) (v := .ref (r_ 47)) (ref := "FoldedInHalfModel") (C := RX12) (T := TX12) (N := 56) hcf hK_ hw hin12 (mL hSh 0) (mK hSh 0) rfl (by decide) (by decide) rfl rfl (congrArg va_rf (mP hSh 47)) (List.mem_of_getElem? (i := 1) rfl) (fun _ h_ => h_) dX12_isCrossed_36 ?_
          refine lv_iload_n hx hb_ dX12_isCrossed_39 rfl (lv_at hl 2 rfl) ?_
          refine lv_iconst (v := 1) hx hb_ dX12_isCrossed_40 (by decide) ?_
          refine lv_iadd hx hb_ dX12_isCrossed_41 ?_
          refine z_iald (n := 8) hcf hK_ hw (mL hSh 47) (mK hSh 47) (mN hSh 47) (by rw [eiA, nI_1]; exact vp_in_nI (by omega) (by decide)) dX12_isCrossed_42 ?_
          refine z_topi (y := (nI (P.idxOf (jA + 1)))) (by rw [(show (iA + 1).toNatClampNeg = (jA + 1) by rw [eiA, nI_1]; exact nI_clamp (by omega))]; exact hat (jA + 1) (by omega)) ?_
          refine z_topi (y := (if nI (P.idxOf jA) < nI (P.idxOf (jA + 1)) then nI (P.idxOf jA) else nI (P.idxOf (jA + 1)))) ((if_neg (zx_leN c_23)).symm) ?_
          refine lv_istore_n (lv' := [(3, .int (if nI (P.idxOf jA) < nI (P.idxOf (jA + 1)) then nI (P.idxOf jA) else nI (P.idxOf (jA + 1)))), (0, .ref (r_ 0)), (1, .int (nI n_)), (2, .int iA)]) hx hb_ dX12_isCrossed_43 rfl hl (by decide) rfl (fun ls hl => ?_)
          refine lv_aload_n hx hb_ dX12_isCrossed_44 rfl (lv_at hl 1 rfl) ?_
          refine z_get (k := 12) (i := 47) (j := 1247) (v := .ref (r_ 47)) (ref := "FoldedInHalfModel") (C := RX12) (T := TX12) (N := 56) hcf hK_ hw hin12 (mL hSh 0) (mK hSh 0) rfl (by decide) (by decide) rfl rfl (congrArg va_rf (mP hSh 47)) (List.mem_of_getElem? (i := 1) rfl) (fun _ h_ => h_) dX12_isCrossed_45 ?_
          refine lv_iload_n hx hb_ dX12_isCrossed_48 rfl (lv_at hl 3 rfl) ?_
          refine z_iald (n := 8) hcf hK_ hw (mL hSh 47) (mK hSh 47) (mN hSh 47) (by rw [eiA]; exact vp_in_nI (by omega) (by decide)) dX12_isCrossed_49 ?_
          refine z_topi (y := (nI (P.idxOf jA))) (by rw [(show iA.toNatClampNeg = jA by rw [eiA]; exact nI_clamp (by omega))]; exact hat jA (by omega)) ?_
          refine lv_aload_n hx hb_ dX12_isCrossed_50 rfl (lv_at hl 1 rfl) ?_
          refine z_get (k := 12) (i := 47) (j := 1247) (v := .ref (r_ 47)) (ref := "FoldedInHalfModel") (C := RX12) (T := TX12) (N := 56) hcf hK_ hw hin12 (mL hSh 0) (mK hSh 0) rfl (by decide) (by decide) rfl rfl (congrArg va_rf (mP hSh 47)) (List.mem_of_getElem? (i := 1) rfl) (fun _ h_ => h_) dX12_isCrossed_51 ?_
          refine lv_iload_n hx hb_ dX12_isCrossed_54 rfl (lv_at hl 3 rfl) ?_
          refine lv_iconst (v := 1) hx hb_ dX12_isCrossed_55 (by decide) ?_
          refine lv_iadd hx hb_ dX12_isCrossed_56 ?_
          refine z_iald (n := 8) hcf hK_ hw (mL hSh 47) (mK hSh 47) (mN hSh 47) (by rw [eiA, nI_1]; exact vp_in_nI (by omega) (by decide)) dX12_isCrossed_57 ?_
          refine z_topi (y := (nI (P.idxOf (jA + 1)))) (by rw [(show (iA + 1).toNatClampNeg = (jA + 1) by rw [eiA, nI_1]; exact nI_clamp (by omega))]; exact hat (jA + 1) (by omega)) ?_
          refine lv_iadd hx hb_ dX12_isCrossed_58 ?_
          refine lv_iload_n hx hb_ dX12_isCrossed_59 rfl (lv_at hl 0 rfl) ?_
          refine lv_isub hx hb_ dX12_isCrossed_60 ?_
          refine lv_istore (lv' := [(4, .int (((nI (P.idxOf jA)) + (nI (P.idxOf (jA + 1)))) - (if nI (P.idxOf jA) < nI (P.idxOf (jA + 1)) then nI (P.idxOf jA) else nI (P.idxOf (jA + 1))))), (3, .int (if nI (P.idxOf jA) < nI (P.idxOf (jA + 1)) then nI (P.idxOf jA) else nI (P.idxOf (jA + 1)))), (0, .ref (r_ 0)), (1, .int (nI n_)), (2, .int iA)]) hx hb_ dX12_isCrossed_61 hl (by decide) rfl (fun ls hl => ?_)
          refine lv_iload_n hx hb_ dX12_isCrossed_63 rfl (lv_at hl 4 rfl) ?_
          refine lv_iconst (v := 2) hx hb_ dX12_isCrossed_64 (by decide) ?_
          refine lv_iadd hx hb_ dX12_isCrossed_65 ?_
          refine lv_istore (lv' := [(5, .int (iA + 2)), (4, .int (((nI (P.idxOf jA)) + (nI (P.idxOf (jA + 1)))) - (if nI (P.idxOf jA) < nI (P.idxOf (jA + 1)) then nI (P.idxOf jA) else nI (P.idxOf (jA + 1))))), (3, .int (if nI (P.idxOf jA) < nI (P.idxOf (jA + 1)) then nI (P.idxOf jA) else nI (P.idxOf (jA + 1)))), (0, .ref (r_ 0)), (1, .int (nI n_)), (2, .int iA)]) hx hb_ dX12_isCrossed_66 hl (by decide) rfl (fun ls hl => ?_)
          have JB : ∀ (nB tB : Nat) (iB : Int32), iB = nI (jA + 2 + 2 * tB) → tB ≤ n_ → n_ < tB + nB → (∀ t_, t_ < tB → xin P jA (jA + 2 + 2 * t_) = xin P jA (jA + 3 + 2 * t_)) → ∀ (H_ : Heap) (locs_ : List Loc), zPw cD cy A_ s_.heap S_ H_ locs_ → ∀ ls : Array Slot, lv_has ls 8 [(0, .ref (r_ 0)), (1, .int (nI n_)), (2, .int iA), (3, .int (if nI (P.idxOf jA) < nI (P.idxOf (jA + 1)) then nI (P.idxOf jA) else nI (P.idxOf (jA + 1)))), (4, .int (nI (P.idxOf jA) + nI (P.idxOf (jA + 1)) - (if nI (P.idxOf jA) < nI (P.idxOf (jA + 1)) then nI (P.idxOf jA) else nI (P.idxOf (jA + 1))))), (5, .int iB)] → W p_ lau e_ ({ frames := 0, cells := 0, slots := 0, locals := 0 } : Room) s_ m_ args_ below_ meth_ c_ H_ locs_ 0 0 (MQ below_ (va_Qi (fun (v_ : Int32) (S1 : zS) => v_ = (if okB n_ P = true then 0 else 1) ∧ S_ = S1) (zPost cD cy A_) A_) args_ s_ 0 0 A_) (F0 m_ 68 ls []) := by
            intro nB
            induction nB with
            | zero => intro tB iB _ htB h_; exact absurd h_ (by omega)
            | succ nB ihB =>
              intro tB iB eiB0 htB hmB hin H_ locs_ hw ls hl
              obtain ⟨jB, ejB⟩ : ∃ jB, jB = jA + 2 + 2 * tB := ⟨_, rfl⟩
              have eiB : iB = nI jB := by rw [eiB0, ejB]
              refine lv_iload hx hb_ dX12_isCrossed_68 (lv_at hl 5 rfl) ?_
              refine lv_iconst (v := 1) hx hb_ dX12_isCrossed_70 (by decide) ?_
              refine lv_iadd hx hb_ dX12_isCrossed_71 ?_
              refine z_topi (y := (nI (jB + 1))) (by rw [eiB]; exact nI_1 jB) ?_
              refine lv_iload_n hx hb_ dX12_isCrossed_72 rfl (lv_at hl 1 rfl) ?_
              refine lv_icmp_ge (tgt := 155) hx hb_ dX12_isCrossed_73 (by decide) (fun c_73 => ?_) (fun c_73 => ?_)
              · have hBn : n_ ≤ jB + 1 := zn_ge rfl rfl (by omega) c_73
                obtain ⟨i2_, ei2⟩ : ∃ y_ : Int32, y_ = iA + 1 := ⟨_, rfl⟩
                refine lv_iinc (v := i2_) (lv' := [(2, .int i2_), (0, .ref (r_ 0)), (1, .int (nI n_)), (3, .int (if nI (P.idxOf jA) < nI (P.idxOf (jA + 1)) then nI (P.idxOf jA) else nI (P.idxOf (jA + 1)))), (4, .int (nI (P.idxOf jA) + nI (P.idxOf (jA + 1)) - (if nI (P.idxOf jA) < nI (P.idxOf (jA + 1)) then nI (P.idxOf jA) else nI (P.idxOf (jA + 1))))), (5, .int iB)]) hx hb_ dX12_isCrossed_155 hl (k := 2) rfl (by rw [ei2]; rfl) (by decide) rfl (fun ls hl => ?_)
                refine lv_goto (tgt := 2) hx hb_ dX12_isCrossed_158 (by decide) ?_
                exact ihA (jA + 1) i2_ (by rw [ei2, eiA]; exact nI_1 jA) (by omega) (by omega) (fun i_ hi_ t_ ht => (Nat.lt_or_ge i_ jA).elim (fun q_ => hok i_ q_ t_ ht) (fun q_ => by have e_ := (show i_ = jA by omega); subst e_; exact hin t_ (by have := hBn; omega))) _ _ hw ls (lv_sub hl [1, 2, 0] rfl)
              · have hltB : jB + 1 < n_ := zn_lt rfl rfl (by omega) c_73
                have hm0 := mx_in (hx8 jA (by omega)) (hx8 (jA + 1) (by omega)) (hx8 jB (by omega))
                have hm1 := mx_in (hx8 jA (by omega)) (hx8 (jA + 1) (by omega)) (hx8 (jB + 1) (by omega))
                refine lv_aload_n hx hb_ dX12_isCrossed_76 rfl (lv_at hl 0 rfl) ?_
                refine z_get (k := 12) (i := 47) (j := 1247) (v := .ref (r_ 47)) (ref := "FoldedInHalfModel") (C := RX12) (T := TX12) (N := 56) hcf hK_ hw hin12 (mL hSh 0) (mK hSh 0) rfl (by decide) (by decide) rfl rfl (congrArg va_rf (mP hSh 47)) (List.mem_of_getElem? (i := 1) rfl) (fun _ h_ => h_) dX12_isCrossed_77 ?_
                refine lv_iload hx hb_ dX12_isCrossed_80 (lv_at hl 5 rfl) ?_
                refine z_iald (n := 8) hcf hK_ hw (mL hSh 47) (mK hSh 47) (mN hSh 47) (by rw [eiB]; exact vp_in_nI (by omega) (by decide)) dX12_isCrossed_82 ?_
                refine z_topi (y := (nI (P.idxOf jB))) (by rw [(show iB.toNatClampNeg = jB by rw [eiB]; exact nI_clamp (by omega))]; exact hat jB (by omega)) ?_
                refine lv_iload_n hx hb_ dX12_isCrossed_83 rfl (lv_at hl 3 rfl) ?_
                refine lv_icmp_le (tgt := 103) hx hb_ dX12_isCrossed_84 (by decide) (fun c_84 => ?_) (fun c_84 => ?_)
                · refine lv_iconst (v := 0) hx hb_ dX12_isCrossed_103 (by decide) ?_
                  refine lv_istore (lv' := [(6, .int 0), (0, .ref (r_ 0)), (1, .int (nI n_)), (2, .int iA), (3, .int (if nI (P.idxOf jA) < nI (P.idxOf (jA + 1)) then nI (P.idxOf jA) else nI (P.idxOf (jA + 1)))), (4, .int (nI (P.idxOf jA) + nI (P.idxOf (jA + 1)) - (if nI (P.idxOf jA) < nI (P.idxOf (jA + 1)) then nI (P.idxOf jA) else nI (P.idxOf (jA + 1))))), (5, .int iB)]) hx hb_ dX12_isCrossed_104 hl (by decide) rfl (fun ls hl => ?_)
                  refine lv_aload_n hx hb_ dX12_isCrossed_106 rfl (lv_at hl 1 rfl) ?_
                  refine z_get (k := 12) (i := 47) (j := 1247) (v := .ref (r_ 47)) (ref := "FoldedInHalfModel") (C := RX12) (T := TX12) (N := 56) hcf hK_ hw hin12 (mL hSh 0) (mK hSh 0) rfl (by decide) (by decide) rfl rfl (congrArg va_rf (mP hSh 47)) (List.mem_of_getElem? (i := 1) rfl) (fun _ h_ => h_) dX12_isCrossed_107 ?_
                  refine lv_iload hx hb_ dX12_isCrossed_110 (lv_at hl 6 rfl) ?_
                  refine lv_iconst (v := 1) hx hb_ dX12_isCrossed_112 (by decide) ?_
                  refine lv_iadd hx hb_ dX12_isCrossed_113 ?_
                  refine z_iald (n := 8) hcf hK_ hw (mL hSh 47) (mK hSh 47) (mN hSh 47) (by rw [eiB, nI_1]; exact vp_in_nI (by omega) (by decide)) dX12_isCrossed_114 ?_
                  refine z_topi (y := (nI (P.idxOf (jB + 1)))) (by rw [(show (iB + 1).toNatClampNeg = (jB + 1) by rw [eiB, nI_1]; exact nI_clamp (by omega))]; exact hat (jB + 1) (by omega)) ?_
                  refine lv_iload_n hx hb_ dX12_isCrossed_115 rfl (lv_at hl 4 rfl) ?_
                  refine lv_icmp_le (tgt := 137) hx hb_ dX12_isCrossed_116 (by decide) (fun c_116 => ?_) (fun c_116 => ?_)
                  · refine lv_iconst (v := 0) hx hb_ dX12_isCrossed_137 (by decide) ?_
                    refine lv_istore (lv' := [(7, .int 0), (6, .int 0), (0, .ref (r_ 0)), (1, .int (nI n_)), (2, .int iA), (3, .int (if nI (P.idxOf jA) < nI (P.idxOf (jA + 1)) then nI (P.idxOf jA) else nI (P.idxOf (jA + 1)))), (4, .int (nI (P.idxOf jA) + nI (P.idxOf (jA + 1)) - (if nI (P.idxOf jA) < nI (P.idxOf (jA + 1)) then nI (P.idxOf jA) else nI (P.idxOf (jA + 1))))), (5, .int iB)]) hx hb_ dX12_isCrossed_138 hl (by decide) rfl (fun ls hl => ?_)
                    have h6 : xin P jA jB = false := (decide_eq_false (fun q_ => absurd (hm0.2 q_).1 (by rw [zx_le] at c_84; rw [zx_lt]; omega)))
                    have h7 : xin P jA (jB + 1) = false := (decide_eq_false (fun q_ => absurd (hm1.2 q_).1 (by rw [zx_le] at c_116; rw [zx_lt]; omega)))
                    have hone : xin P jA (jA + 2 + 2 * tB) = xin P jA (jA + 3 + 2 * tB) := by rw [show jA + 3 + 2 * tB = jB + 1 by omega, ← ejB, h6, h7]
                    refine lv_iload hx hb_ dX12_isCrossed_140 (lv_at hl 1 rfl) ?_
                    refine lv_iload hx hb_ dX12_isCrossed_142 (lv_at hl 0 rfl) ?_
                    refine lv_icmp_eq (tgt := 149) hx hb_ dX12_isCrossed_144 (by decide) (fun _ => ?_) (fun c_144 => absurd c_144 (by decide))
                    obtain ⟨i3, ei3⟩ : ∃ y_ : Int32, y_ = iB + 2 := ⟨_, rfl⟩
                    refine lv_iinc (v := i3) (lv' := [(5, .int i3), (7, .int 0), (6, .int 0), (0, .ref (r_ 0)), (1, .int (nI n_)), (2, .int iA), (3, .int (if nI (P.idxOf jA) < nI (P.idxOf (jA + 1)) then nI (P.idxOf jA) else nI (P.idxOf (jA + 1)))), (4, .int (nI (P.idxOf jA) + nI (P.idxOf (jA + 1)) - (if nI (P.idxOf jA) < nI (P.idxOf (jA + 1)) then nI (P.idxOf jA) else nI (P.idxOf (jA + 1)))))]) hx hb_ dX12_isCrossed_149 hl (k := 7) rfl (by rw [ei3]; rfl) (by decide) rfl (fun ls hl => ?_)
                    refine lv_goto (tgt := 68) hx hb_ dX12_isCrossed_152 (by decide) ?_
                    exact ihB (tB + 1) i3 (by rw [ei3, eiB, show (2 : Int32) = nI 2 from rfl, nI_add]; congr 1; omega) (by omega) (by omega) (fun t_ ht => (Nat.lt_or_ge t_ tB).elim (fun q_ => hin t_ q_) (fun q_ => by have e_ := (show t_ = tB by omega); subst e_; exact hone)) _ _ hw ls (lv_sub hl [3, 4, 5, 6, 7, 0] rfl)
                  · refine lv_aload_n hx hb_ dX12_isCrossed_119 rfl (lv_at hl 1 rfl) ?_
                    refine z_get (k := 12) (i := 47) (j := 1247) (v := .ref (r_ 47)) (ref := "FoldedInHalfModel") (C := RX12) (T := TX12) (N := 56) hcf hK_ hw hin12 (mL hSh 0) (mK hSh 0) rfl (by decide) (by decide) rfl rfl (congrArg va_rf (mP hSh 47)) (List.mem_of_getElem? (i := 1) rfl) (fun _ h_ => h_) dX12_isCrossed_120 ?_
                    refine lv_iload hx hb_ dX12_isCrossed_123 (lv_at hl 6 rfl) ?_
                    refine lv_iconst (v := 1) hx hb_ dX12_isCrossed_125 (by decide) ?_
                    refine lv_iadd hx hb_ dX12_isCrossed_126 ?_
                    refine z_iald (n := 8) hcf hK_ hw (mL hSh 47) (mK hSh 47) (mN hSh 47) (by rw [eiB, nI_1]; exact vp_in_nI (by omega) (by decide)) dX12_isCrossed_127 ?_
                    refine z_topi (y := (nI (P.idxOf (jB + 1)))) (by rw [(show (iB + 1).toNatClampNeg = (jB + 1) by rw [eiB, nI_1]; exact nI_clamp (by omega))]; exact hat (jB + 1) (by omega)) ?_
                    refine lv_iload hx hb_ dX12_isCrossed_128 (lv_at hl 5 rfl) ?_
                    refine lv_icmp_ge (tgt := 137) hx hb_ dX12_isCrossed_130 (by decide) (fun c_130 => ?_) (fun c_130 => ?_)
                    · refine lv_iconst (v := 0) hx hb_ dX12_isCrossed_137 (by decide) ?_
                      refine lv_istore (lv' := [(7, .int 0), (6, .int 0), (0, .ref (r_ 0)), (1, .int (nI n_)), (2, .int iA), (3, .int (if nI (P.idxOf jA) < nI (P.idxOf (jA + 1)) then nI (P.idxOf jA) else nI (P.idxOf (jA + 1)))), (4, .int (nI (P.idxOf jA) + nI (P.idxOf (jA + 1)) - (if nI (P.idxOf jA) < nI (P.idxOf (jA + 1)) then nI (P.idxOf jA) else nI (P.idxOf (jA + 1))))), (5, .int iB)]) hx hb_ dX12_isCrossed_138 hl (by decide) rfl (fun ls hl => ?_)
                      have h6 : xin P jA jB = false := (decide_eq_false (fun q_ => absurd (hm0.2 q_).1 (by rw [zx_le] at c_84; rw [zx_lt]; omega)))
                      have h7 : xin P jA (jB + 1) = false := (decide_eq_false (fun q_ => absurd (hm1.2 q_).2 (by rw [zx_le] at c_130; rw [zx_lt]; omega)))
                      have hone : xin P jA (jA + 2 + 2 * tB) = xin P jA (jA + 3 + 2 * tB) := by rw [show jA + 3 + 2 * tB = jB + 1 by omega, ← ejB, h6, h7]
                      refine lv_iload hx hb_ dX12_isCrossed_140 (lv_at hl 1 rfl) ?_
                      refine lv_iload hx hb_ dX12_isCrossed_142 (lv_at hl 0 rfl) ?_
                      refine lv_icmp_eq (tgt := 149) hx hb_ dX12_isCrossed_144 (by decide) (fun _ => ?_) (fun c_144 => absurd c_144 (by decide))
                      obtain ⟨i3, ei3⟩ : ∃ y_ : Int32, y_ = iB + 2 := ⟨_, rfl⟩
                      refine lv_iinc (v := i3) (lv' := [(5, .int i3), (7, .int 0), (6, .int 0), (0, .ref (r_ 0)), (1, .int (nI n_)), (2, .int iA), (3, .int (if nI (P.idxOf jA) < nI (P.idxOf (jA + 1)) then nI (P.idxOf jA) else nI (P.idxOf (jA + 1)))), (4, .int (nI (P.idxOf jA) + nI (P.idxOf (jA + 1)) - (if nI (P.idxOf jA) < nI (P.idxOf (jA + 1)) then nI (P.idxOf jA) else nI (P.idxOf (jA + 1)))))]) hx hb_ dX12_isCrossed_149 hl (k := 7) rfl (by rw [ei3]; rfl) (by decide) rfl (fun ls hl => ?_)
                      refine lv_goto (tgt := 68) hx hb_ dX12_isCrossed_152 (by decide) ?_
                      exact ihB (tB + 1) i3 (by rw [ei3, eiB, show (2 : Int32) = nI 2 from rfl, nI_add]; congr 1; omega) (by omega) (by omega) (fun t_ ht => (Nat.lt_or_ge t_ tB).elim (fun q_ => hin t_ q_) (fun q_ => by have e_ := (show t_ = tB by omega); subst e_; exact hone)) _ _ hw ls (lv_sub hl [3, 4, 5, 6, 7, 0] rfl)
                    · refine lv_iconst (v := 1) hx hb_ dX12_isCrossed_133 (by decide) ?_
                      refine lv_goto (tgt := 138) hx hb_ dX12_isCrossed_134 (by decide) ?_
                      refine lv_istore (lv' := [(7, .int 1), (6, .int 0), (0, .ref (r_ 0)), (1, .int (nI n_)), (2, .int iA), (3, .int (if nI (P.idxOf jA) < nI (P.idxOf (jA + 1)) then nI (P.idxOf jA) else nI (P.idxOf (jA + 1)))), (4, .int (nI (P.idxOf jA) + nI (P.idxOf (jA + 1)) - (if nI (P.idxOf jA) < nI (P.idxOf (jA + 1)) then nI (P.idxOf jA) else nI (P.idxOf (jA + 1))))), (5, .int iB)]) hx hb_ dX12_isCrossed_138 hl (by decide) rfl (fun ls hl => ?_)
                      have h6 : xin P jA jB = false := (decide_eq_false (fun q_ => absurd (hm0.2 q_).1 (by rw [zx_le] at c_84; rw [zx_lt]; omega)))
                      have h7 : xin P jA (jB + 1) = true := (decide_eq_true (hm1.1 ⟨Classical.byContradiction (fun q_ => c_116 (by rw [zx_le]; rw [zx_lt] at q_; omega)), Classical.byContradiction (fun q_ => c_130 (by rw [zx_le]; rw [zx_lt] at q_; omega))⟩))
                      refine lv_iload hx hb_ dX12_isCrossed_140 (lv_at hl 1 rfl) ?_
                      refine lv_iload hx hb_ dX12_isCrossed_142 (lv_at hl 0 rfl) ?_
                      refine lv_icmp_eq (tgt := 149) hx hb_ dX12_isCrossed_144 (by decide) (fun c_144 => absurd c_144 (by decide)) (fun _ => ?_)
                      refine lv_iconst (v := 1) hx hb_ dX12_isCrossed_147 (by decide) ?_
                      exact z_iret (ty := .boolean) (v := 1) hcf hr rfl hlk hw (⟨(if_neg (fun q_ => by have z_ := okB_iff.mp q_ jA (by omega) tB (by omega); rw [show jA + 3 + 2 * tB = jB + 1 by omega, ← ejB, h6, h7] at z_; exact absurd z_ (by decide))).symm, rfl⟩) dX12_isCrossed_148
                · refine lv_aload_n hx hb_ dX12_isCrossed_87 rfl (lv_at hl 0 rfl) ?_
                  refine z_get (k := 12) (i := 47) (j := 1247) (v := .ref (r_ 47)) (ref := "FoldedInHalfModel") (C := RX12) (T := TX12) (N := 56) hcf hK_ hw hin12 (mL hSh 0) (mK hSh 0) rfl (by decide) (by decide) rfl rfl (congrArg va_rf (mP hSh 47)) (List.mem_of_getElem? (i := 1) rfl) (fun _ h_ => h_) dX12_isCrossed_88 ?_
                  refine lv_iload hx hb_ dX12_isCrossed_91 (lv_at hl 5 rfl) ?_
                  refine z_iald (n := 8) hcf hK_ hw (mL hSh 47) (mK hSh 47) (mN hSh 47) (by rw [eiB]; exact vp_in_nI (by omega) (by decide)) dX12_isCrossed_93 ?_
                  refine z_topi (y := (nI (P.idxOf jB))) (by rw [(show iB.toNatClampNeg = jB by rw [eiB]; exact nI_clamp (by omega))]; exact hat jB (by omega)) ?_
                  refine lv_iload hx hb_ dX12_isCrossed_94 (lv_at hl 4 rfl) ?_
                  refine lv_icmp_ge (tgt := 103) hx hb_ dX12_isCrossed_96 (by decide) (fun c_96 => ?_) (fun c_96 => ?_)
                  · refine lv_iconst (v := 0) hx hb_ dX12_isCrossed_103 (by decide) ?_
                    refine lv_istore (lv' := [(6, .int 0), (0, .ref (r_ 0)), (1, .int (nI n_)), (2, .int iA), (3, .int (if nI (P.idxOf jA) < nI (P.idxOf (jA + 1)) then nI (P.idxOf jA) else nI (P.idxOf (jA + 1)))), (4, .int (nI (P.idxOf jA) + nI (P.idxOf (jA + 1)) - (if nI (P.idxOf jA) < nI (P.idxOf (jA + 1)) then nI (P.idxOf jA) else nI (P.idxOf (jA + 1))))), (5, .int iB)]) hx hb_ dX12_isCrossed_104 hl (by decide) rfl (fun ls hl => ?_)
                    refine lv_aload_n hx hb_ dX12_isCrossed_106 rfl (lv_at hl 1 rfl) ?_
                    refine z_get (k := 12) (i := 47) (j := 1247) (v := .ref (r_ 47)) (ref := "FoldedInHalfModel") (C := RX12) (T := TX12) (N := 56) hcf hK_ hw hin12 (mL hSh 0) (mK hSh 0) rfl (by decide) (by decide) rfl rfl (congrArg va_rf (mP hSh 47)) (List.mem_of_getElem? (i := 1) rfl) (fun _ h_ => h_) dX12_isCrossed_107 ?_
                    refine lv_iload hx hb_ dX12_isCrossed_110 (lv_at hl 6 rfl) ?_
                    refine lv_iconst (v := 1) hx hb_ dX12_isCrossed_112 (by decide) ?_
                    refine lv_iadd hx hb_ dX12_isCrossed_113 ?_
                    refine z_iald (n := 8) hcf hK_ hw (mL hSh 47) (mK hSh 47) (mN hSh 47) (by rw [eiB, nI_1]; exact vp_in_nI (by omega) (by decide)) dX12_isCrossed_114 ?_
                    refine z_topi (y := (nI (P.idxOf (jB + 1)))) (by rw [(show (iB + 1).toNatClampNeg = (jB + 1) by rw [eiB, nI_1]; exact nI_clamp (by omega))]; exact hat (jB + 1) (by omega)) ?_
                    refine lv_iload_n hx hb_ dX12_isCrossed_115 rfl (lv_at hl 4 rfl) ?_
                    refine lv_icmp_le (tgt := 137) hx hb_ dX12_isCrossed_116 (by decide) (fun c_116 => ?_) (fun c_116 => ?_)
                    · refine lv_iconst (v := 0) hx hb_ dX12_isCrossed_137 (by decide) ?_
                      refine lv_istore (lv' := [(7, .int 0), (6, .int 0), (0, .ref (r_ 0)), (1, .int (nI n_)), (2, .int iA), (3, .int (if nI (P.idxOf jA) < nI (P.idxOf (jA + 1)) then nI (P.idxOf jA) else nI (P.idxOf (jA + 1)))), (4, .int (nI (P.idxOf jA) + nI (P.idxOf (jA + 1)) - (if nI (P.idxOf jA) < nI (P.idxOf (jA + 1)) then nI (P.idxOf jA) else nI (P.idxOf (jA + 1))))), (5, .int iB)]) hx hb_ dX12_isCrossed_138 hl (by decide) rfl (fun ls hl => ?_)
                      have h6 : xin P jA jB = false := (decide_eq_false (fun q_ => absurd (hm0.2 q_).2 (by rw [zx_le] at c_96; rw [zx_lt]; omega)))
                      have h7 : xin P jA (jB + 1) = false := (decide_eq_false (fun q_ => absurd (hm1.2 q_).1 (by rw [zx_le] at c_116; rw [zx_lt]; omega)))
                      have hone : xin P jA (jA + 2 + 2 * tB) = xin P jA (jA + 3 + 2 * tB) := by rw [show jA + 3 + 2 * tB = jB + 1 by omega, ← ejB, h6, h7]
                      refine lv_iload hx hb_ dX12_isCrossed_140 (lv_at hl 1 rfl) ?_
                      refine lv_iload hx hb_ dX12_isCrossed_142 (lv_at hl 0 rfl) ?_
                      refine lv_icmp_eq (tgt := 149) hx hb_ dX12_isCrossed_144 (by decide) (fun _ => ?_) (fun c_144 => absurd c_144 (by decide))
                      obtain ⟨i3, ei3⟩ : ∃ y_ : Int32, y_ = iB + 2 := ⟨_, rfl⟩
                      refine lv_iinc (v := i3) (lv' := [(5, .int i3), (7, .int 0), (6, .int 0), (0, .ref (r_ 0)), (1, .int (nI n_)), (2, .int iA), (3, .int (if nI (P.idxOf jA) < nI (P.idxOf (jA + 1)) then nI (P.idxOf jA) else nI (P.idxOf (jA + 1)))), (4, .int (nI (P.idxOf jA) + nI (P.idxOf (jA + 1)) - (if nI (P.idxOf jA) < nI (P.idxOf (jA + 1)) then nI (P.idxOf jA) else nI (P.idxOf (jA + 1)))))]) hx hb_ dX12_isCrossed_149 hl (k := 7) rfl (by rw [ei3]; rfl) (by decide) rfl (fun ls hl => ?_)
                      refine lv_goto (tgt := 68) hx hb_ dX12_isCrossed_152 (by decide) ?_
                      exact ihB (tB + 1) i3 (by rw [ei3, eiB, show (2 : Int32) = nI 2 from rfl, nI_add]; congr 1; omega) (by omega) (by omega) (fun t_ ht => (Nat.lt_or_ge t_ tB).elim (fun q_ => hin t_ q_) (fun q_ => by have e_ := (show t_ = tB by omega); subst e_; exact hone)) _ _ hw ls (lv_sub hl [3, 4, 5, 6, 7, 0] rfl)
                    · refine lv_aload_n hx hb_ dX12_isCrossed_119 rfl (lv_at hl 1 rfl) ?_
                      refine z_get (k := 12) (i := 47) (j := 1247) (v := .ref (r_ 47)) (ref := "FoldedInHalfModel") (C := RX12) (T := TX12) (N := 56) hcf hK_ hw hin12 (mL hSh 0) (mK hSh 0) rfl (by decide) (by decide) rfl rfl (congrArg va_rf (mP hSh 47)) (List.mem_of_getElem? (i := 1) rfl) (fun _ h_ => h_) dX12_isCrossed_120 ?_
                      refine lv_iload hx hb_ dX12_isCrossed_123 (lv_at hl 6 rfl) ?_
                      refine lv_iconst (v := 1) hx hb_ dX12_isCrossed_125 (by decide) ?_
                      refine lv_iadd hx hb_ dX12_isCrossed_126 ?_
                      refine z_iald (n := 8) hcf hK_ hw (mL hSh 47) (mK hSh 47) (mN hSh 47) (by rw [eiB, nI_1]; exact vp_in_nI (by omega) (by decide)) dX12_isCrossed_127 ?_
                      refine z_topi (y := (nI (P.idxOf (jB + 1)))) (by rw [(show (iB + 1).toNatClampNeg = (jB + 1) by rw [eiB, nI_1]; exact nI_clamp (by omega))]; exact hat (jB + 1) (by omega)) ?_
                      refine lv_iload hx hb_ dX12_isCrossed_128 (lv_at hl 5 rfl) ?_
                      refine lv_icmp_ge (tgt := 137) hx hb_ dX12_isCrossed_130 (by decide) (fun c_130 => ?_) (fun c_130 => ?_)
                      · refine lv_iconst (v := 0) hx hb_ dX12_isCrossed_137 (by decide) ?_
                        refine lv_istore (lv' := [(7, .int 0), (6, .int 0), (0, .ref (r_ 0)), (1, .int (nI n_)), (2, .int iA), (3, .int (if nI (P.idxOf jA) < nI (P.idxOf (jA + 1)) then nI (P.idxOf jA) else nI (P.idxOf (jA + 1)))), (4, .int (nI (P.idxOf jA) + nI (P.idxOf (jA + 1)) - (if nI (P.idxOf jA) < nI (P.idxOf (jA + 1)) then nI (P.idxOf jA) else nI (P.idxOf (jA + 1))))), (5, .int iB)]) hx hb_ dX12_isCrossed_138 hl (by decide) rfl (fun ls hl => ?_)
                        have h6 : xin P jA jB = false := (decide_eq_false (fun q_ => absurd (hm0.2 q_).2 (by rw [zx_le] at c_96; rw [zx_lt]; omega)))
                        have h7 : xin P jA (jB + 1) = false := (decide_eq_false (fun q_ => absurd (hm1.2 q_).2 (by rw [zx_le] at c_130; rw [zx_lt]; omega)))
                        have hone : xin P jA (jA + 2 + 2 * tB) = xin P jA (jA + 3 + 2 * tB) := by rw [show jA + 3 + 2 * tB = jB + 1 by omega, ← ejB, h6, h7]
                        refine lv_iload hx hb_ dX12_isCrossed_140 (lv_at hl 1 rfl) ?_
                        refine lv_iload hx hb_ dX12_isCrossed_142 (lv_at hl 0 rfl) ?_
                        refine lv_icmp_eq (tgt := 149) hx hb_ dX12_isCrossed_144 (by decide) (fun _ => ?_) (fun c_144 => absurd c_144 (by decide))
                        obtain ⟨i3, ei3⟩ : ∃ y_ : Int32, y_ = iB + 2 := ⟨_, rfl⟩
                        refine lv_iinc (v := i3) (lv' := [(5, .int i3), (7, .int 0), (6, .int 0), (0, .ref (r_ 0)), (1, .int (nI n_)), (2, .int iA), (3, .int (if nI (P.idxOf jA) < nI (P.idxOf (jA + 1)) then nI (P.idxOf jA) else nI (P.idxOf (jA + 1)))), (4, .int (nI (P.idxOf jA) + nI (P.idxOf (jA + 1)) - (if nI (P.idxOf jA) < nI (P.idxOf (jA + 1)) then nI (P.idxOf jA) else nI (P.idxOf (jA + 1)))))]) hx hb_ dX12_isCrossed_149 hl (k := 7) rfl (by rw [ei3]; rfl) (by decide) rfl (fun ls hl => ?_)
                        refine lv_goto (tgt := 68) hx hb_ dX12_isCrossed_152 (by decide) ?_
                        exact ihB (tB + 1) i3 (by rw [ei3, eiB, show (2 : Int32) = nI 2 from rfl, nI_add]; congr 1; omega) (by omega) (by omega) (fun t_ ht => (Nat.lt_or_ge t_ tB).elim (fun q_ => hin t_ q_) (fun q_ => by have e_ := (show t_ = tB by omega); subst e_; exact hone)) _ _ hw ls (lv_sub hl [3, 4, 5, 6, 7, 0] rfl)
                      · refine lv_iconst (v := 1) hx hb_ dX12_isCrossed_133 (by decide) ?_
                        refine lv_goto (tgt := 138) hx hb_ dX12_isCrossed_134 (by decide) ?_
                        refine lv_istore (lv' := [(7, .int 1), (6, .int 0), (0, .ref (r_ 0)), (1, .int (nI n_)), (2, .int iA), (3, .int (if nI (P.idxOf jA) < nI (P.idxOf (jA + 1)) then nI (P.idxOf jA) else nI (P.idxOf (jA + 1)))), (4, .int (nI (P.idxOf jA) + nI (P.idxOf (jA + 1)) - (if nI (P.idxOf jA) < nI (P.idxOf (jA + 1)) then nI (P.idxOf jA) else nI (P.idxOf (jA + 1))))), (5, .int iB)]) hx hb_ dX12_isCrossed_138 hl (by decide) rfl (fun ls hl => ?_)
                        have h6 : xin P jA jB = false := (decide_eq_false (fun q_ => absurd (hm0.2 q_).2 (by rw [zx_le] at c_96; rw [zx_lt]; omega)))
                        have h7 : xin P jA (jB + 1) = true := (decide_eq_true (hm1.1 ⟨Classical.byContradiction (fun q_ => c_116 (by rw [zx_le]; rw [zx_lt] at q_; omega)), Classical.byContradiction (fun q_ => c_130 (by rw [zx_le]; rw [zx_lt] at q_; omega))⟩))
                        refine lv_iload hx hb_ dX12_isCrossed_140 (lv_at hl 1 rfl) ?_
                        refine lv_iload hx hb_ dX12_isCrossed_142 (lv_at hl 0 rfl) ?_
                        refine lv_icmp_eq (tgt := 149) hx hb_ dX12_isCrossed_144 (by decide) (fun c_144 => absurd c_144 (by decide)) (fun _ => ?_)
                        refine lv_iconst (v := 1) hx hb_ dX12_isCrossed_147 (by decide) ?_
                        exact z_iret (ty := .boolean) (v := 1) hcf hr rfl hlk hw (⟨(if_neg (fun q_ => by have z_ := okB_iff.mp q_ jA (by omega) tB (by omega); rw [show jA + 3 + 2 * tB = jB + 1 by omega, ← ejB, h6, h7] at z_; exact absurd z_ (by decide))).symm, rfl⟩) dX12_isCrossed_148
                  · refine lv_iconst (v := 1) hx hb_ dX12_isCrossed_99 (by decide) ?_
                    refine lv_goto (tgt := 104) hx hb_ dX12_isCrossed_100 (by decide) ?_
                    refine lv_istore (lv' := [(6, .int 1), (0, .ref (r_ 0)), (1, .int (nI n_)), (2, .int iA), (3, .int (if nI (P.idxOf jA) < nI (P.idxOf (jA + 1)) then nI (P.idxOf jA) else nI (P.idxOf (jA + 1)))), (4, .int (nI (P.idxOf jA) + nI (P.idxOf (jA + 1)) - (if nI (P.idxOf jA) < nI (P.idxOf (jA + 1)) then nI (P.idxOf jA) else nI (P.idxOf (jA + 1))))), (5, .int iB)]) hx hb_ dX12_isCrossed_104 hl (by decide) rfl (fun ls hl => ?_)
                    refine lv_aload_n hx hb_ dX12_isCrossed_106 rfl (lv_at hl 1 rfl) ?_
                    refine z_get (k := 12) (i := 47) (j := 1247) (v := .ref (r_ 47)) (ref := "FoldedInHalfModel") (C := RX12) (T := TX12) (N := 56) hcf hK_ hw hin12 (mL hSh 0) (mK hSh 0) rfl (by decide) (by decide) rfl rfl (congrArg va_rf (mP hSh 47)) (List.mem_of_getElem? (i := 1) rfl) (fun _ h_ => h_) dX12_isCrossed_107 ?_
                    refine lv_iload hx hb_ dX12_isCrossed_110 (lv_at hl 6 rfl) ?_
                    refine lv_iconst (v := 1) hx hb_ dX12_isCrossed_112 (by decide) ?_
                    refine lv_iadd hx hb_ dX12_isCrossed_113 ?_
                    refine z_iald (n := 8) hcf hK_ hw (mL hSh 47) (mK hSh 47) (mN hSh 47) (by rw [eiB, nI_1]; exact vp_in_nI (by omega) (by decide)) dX12_isCrossed_114 ?_
                    refine z_topi (y := (nI (P.idxOf (jB + 1)))) (by rw [(show (iB + 1).toNatClampNeg = (jB + 1) by rw [eiB, nI_1]; exact nI_clamp (by omega))]; exact hat (jB + 1) (by omega)) ?_
                    refine lv_iload_n hx hb_ dX12_isCrossed_115 rfl (lv_at hl 4 rfl) ?_
                    refine lv_icmp_le (tgt := 137) hx hb_ dX12_isCrossed_116 (by decide) (fun c_116 => ?_) (fun c_116 => ?_)
                    · refine lv_iconst (v := 0) hx hb_ dX12_isCrossed_137 (by decide) ?_
                      refine lv_istore (lv' := [(7, .int 0), (6, .int 1), (0, .ref (r_ 0)), (1, .int (nI n_)), (2, .int iA), (3, .int (if nI (P.idxOf jA) < nI (P.idxOf (jA + 1)) then nI (P.idxOf jA) else nI (P.idxOf (jA + 1)))), (4, .int (nI (P.idxOf jA) + nI (P.idxOf (jA + 1)) - (if nI (P.idxOf jA) < nI (P.idxOf (jA + 1)) then nI (P.idxOf jA) else nI (P.idxOf (jA + 1))))), (5, .int iB)]) hx hb_ dX12_isCrossed_138 hl (by decide) rfl (fun ls hl => ?_)
                      have h6 : xin P jA jB = true := (decide_eq_true (hm0.1 ⟨Classical.byContradiction (fun q_ => c_84 (by rw [zx_le]; rw [zx_lt] at q_; omega)), Classical.byContradiction (fun q_ => c_96 (by rw [zx_le]; rw [zx_lt] at q_; omega))⟩))
                      have h7 : xin P jA (jB + 1) = false := (decide_eq_false (fun q_ => absurd (hm1.2 q_).1 (by rw [zx_le] at c_116; rw [zx_lt]; omega)))
                      refine lv_iload hx hb_ dX12_isCrossed_140 (lv_at hl 1 rfl) ?_
                      refine lv_iload hx hb_ dX12_isCrossed_142 (lv_at hl 0 rfl) ?_
                      refine lv_icmp_eq (tgt := 149) hx hb_ dX12_isCrossed_144 (by decide) (fun c_144 => absurd c_144 (by decide)) (fun _ => ?_)
                      refine lv_iconst (v := 1) hx hb_ dX12_isCrossed_147 (by decide) ?_
                      exact z_iret (ty := .boolean) (v := 1) hcf hr rfl hlk hw (⟨(if_neg (fun q_ => by have z_ := okB_iff.mp q_ jA (by omega) tB (by omega); rw [show jA + 3 + 2 * tB = jB + 1 by omega, ← ejB, h6, h7] at z_; exact absurd z_ (by decide))).symm, rfl⟩) dX12_isCrossed_148
                    · refine lv_aload_n hx hb_ dX12_isCrossed_119 rfl (lv_at hl 1 rfl) ?_
                      refine z_get (k := 12) (i := 47) (j := 1247) (v := .ref (r_ 47)) (ref := "FoldedInHalfModel") (C := RX12) (T := TX12) (N := 56) hcf hK_ hw hin12 (mL hSh 0) (mK hSh 0) rfl (by decide) (by decide) rfl rfl (congrArg va_rf (mP hSh 47)) (List.mem_of_getElem? (i := 1) rfl) (fun _ h_ => h_) dX12_isCrossed_120 ?_
                      refine lv_iload hx hb_ dX12_isCrossed_123 (lv_at hl 6 rfl) ?_
                      refine lv_iconst (v := 1) hx hb_ dX12_isCrossed_125 (by decide) ?_
                      refine lv_iadd hx hb_ dX12_isCrossed_126 ?_
                      refine z_iald (n := 8) hcf hK_ hw (mL hSh 47) (mK hSh 47) (mN hSh 47) (by rw [eiB, nI_1]; exact vp_in_nI (by omega) (by decide)) dX12_isCrossed_127 ?_
                      refine z_topi (y := (nI (P.idxOf (jB + 1)))) (by rw [(show (iB + 1).toNatClampNeg = (jB + 1) by rw [eiB, nI_1]; exact nI_clamp (by omega))]; exact hat (jB + 1) (by omega)) ?_
                      refine lv_iload hx hb_ dX12_isCrossed_128 (lv_at hl 5 rfl) ?_
                      refine lv_icmp_ge (tgt := 137) hx hb_ dX12_isCrossed_130 (by decide) (fun c_130 => ?_) (fun c_130 => ?_)
                      · refine lv_iconst (v := 0) hx hb_ dX12_isCrossed_137 (by decide) ?_
                        refine lv_istore (lv' := [(7, .int 0), (6, .int 1), (0, .ref (r_ 0)), (1, .int (nI n_)), (2, .int iA), (3, .int (if nI (P.idxOf jA) < nI (P.idxOf (jA + 1)) then nI (P.idxOf jA) else nI (P.idxOf (jA + 1)))), (4, .int (nI (P.idxOf jA) + nI (P.idxOf (jA + 1)) - (if nI (P.idxOf jA) < nI (P.idxOf (jA + 1)) then nI (P.idxOf jA) else nI (P.idxOf (jA + 1))))), (5, .int iB)]) hx hb_ dX12_isCrossed_138 hl (by decide) rfl (fun ls hl => ?_)
                        have h6 : xin P jA jB = true := (decide_eq_true (hm0.1 ⟨Classical.byContradiction (fun q_ => c_84 (by rw [zx_le]; rw [zx_lt] at q_; omega)), Classical.byContradiction (fun q_ => c_96 (by rw [zx_le]; rw [zx_lt] at q_; omega))⟩))
                        have h7 : xin P jA (jB + 1) = false := (decide_eq_false (fun q_ => absurd (hm1.2 q_).2 (by rw [zx_le] at c_130; rw [zx_lt]; omega)))
                        refine lv_iload hx hb_ dX12_isCrossed_140 (lv_at hl 1 rfl) ?_
                        refine lv_iload hx hb_ dX12_isCrossed_142 (lv_at hl 0 rfl) ?_
                        refine lv_icmp_eq (tgt := 149) hx hb_ dX12_isCrossed_144 (by decide) (fun c_144 => absurd c_144 (by decide)) (fun _ => ?_)
                        refine lv_iconst (v := 1) hx hb_ dX12_isCrossed_147 (by decide) ?_
                        exact z_iret (ty := .boolean) (v := 1) hcf hr rfl hlk hw (⟨(if_neg (fun q_ => by have z_ := okB_iff.mp q_ jA (by omega) tB (by omega); rw [show jA + 3 + 2 * tB = jB + 1 by omega, ← ejB, h6, h7] at z_; exact absurd z_ (by decide))).symm, rfl⟩) dX12_isCrossed_148
                      · refine lv_iconst (v := 1) hx hb_ dX12_isCrossed_133 (by decide) ?_
                        refine lv_goto (tgt := 138) hx hb_ dX12_isCrossed_134 (by decide) ?_
                        refine lv_istore (lv' := [(7, .int 1), (6, .int 1), (0, .ref (r_ 0)), (1, .int (nI n_)), (2, .int iA), (3, .int (if nI (P.idxOf jA) < nI (P.idxOf (jA + 1)) then nI (P.idxOf jA) else nI (P.idxOf (jA + 1)))), (4, .int (nI (P.idxOf jA) + nI (P.idxOf (jA + 1)) - (if nI (P.idxOf jA) < nI (P.idxOf (jA + 1)) then nI (P.idxOf jA) else nI (P.idxOf (jA + 1))))), (5, .int iB)]) hx hb_ dX12_isCrossed_138 hl (by decide) rfl (fun ls hl => ?_)
                        have h6 : xin P jA jB = true := (decide_eq_true (hm0.1 ⟨Classical.byContradiction (fun q_ => c_84 (by rw [zx_le]; rw [zx_lt] at q_; omega)), Classical.byContradiction (fun q_ => c_96 (by rw [zx_le]; rw [zx_lt] at q_; omega))⟩))
                        have h7 : xin P jA (jB + 1) = true := (decide_eq_true (hm1.1 ⟨Classical.byContradiction (fun q_ => c_116 (by rw [zx_le]; rw [zx_lt] at q_; omega)), Classical.byContradiction (fun q_ => c_130 (by rw [zx_le]; rw [zx_lt] at q_; omega))⟩))
                        have hone : xin P jA (jA + 2 + 2 * tB) = xin P jA (jA + 3 + 2 * tB) := by rw [show jA + 3 + 2 * tB = jB + 1 by omega, ← ejB, h6, h7]
                        refine lv_iload hx hb_ dX12_isCrossed_140 (lv_at hl 1 rfl) ?_
                        refine lv_iload hx hb_ dX12_isCrossed_142 (lv_at hl 0 rfl) ?_
                        refine lv_icmp_eq (tgt := 149) hx hb_ dX12_isCrossed_144 (by decide) (fun _ => ?_) (fun c_144 => absurd c_144 (by decide))
                        obtain ⟨i3, ei3⟩ : ∃ y_ : Int32, y_ = iB + 2 := ⟨_, rfl⟩
                        refine lv_iinc (v := i3) (lv' := [(5, .int i3), (7, .int 1), (6, .int 1), (0, .ref (r_ 0)), (1, .int (nI n_)), (2, .int iA), (3, .int (if nI (P.idxOf jA) < nI (P.idxOf (jA + 1)) then nI (P.idxOf jA) else nI (P.idxOf (jA + 1)))), (4, .int (nI (P.idxOf jA) + nI (P.idxOf (jA + 1)) - (if nI (P.idxOf jA) < nI (P.idxOf (jA + 1)) then nI (P.idxOf jA) else nI (P.idxOf (jA + 1)))))]) hx hb_ dX12_isCrossed_149 hl (k := 7) rfl (by rw [ei3]; rfl) (by decide) rfl (fun ls hl => ?_)
                        refine lv_goto (tgt := 68) hx hb_ dX12_isCrossed_152 (by decide) ?_
                        exact ihB (tB + 1) i3 (by rw [ei3, eiB, show (2 : Int32) = nI 2 from rfl, nI_add]; congr 1; omega) (by omega) (by omega) (fun t_ ht => (Nat.lt_or_ge t_ tB).elim (fun q_ => hin t_ q_) (fun q_ => by have e_ := (show t_ = tB by omega); subst e_; exact hone)) _ _ hw ls (lv_sub hl [3, 4, 5, 6, 7, 0] rfl)
          exact JB (n_ + 1) 0 _ (by rw [eiA, show (2 : Int32) = nI 2 from rfl, nI_add]) (Nat.zero_le _) (by omega) (fun t_ ht => absurd ht (Nat.not_lt_zero t_)) _ _ hw ls (lv_sub hl [3, 4, 5, 2, 1, 0] rfl)
        · refine lv_aload_n hx hb_ dX12_isCrossed_26 rfl (lv_at hl 0 rfl) ?_
          refine z_get (k := 12) (i := 47) (j := 1247) (v := .ref (r_ 47)) (ref := "FoldedInHalfModel") (C := RX12) (T := TX12) (N := 56) hcf hK_ hw hin12 (mL hSh 0) (mK hSh 0) rfl (by decide) (by decide) rfl rfl (congrArg va_rf (mP hSh 47)) (List.mem_of_getElem? (i := 1) rfl) (fun _ h_ => h_) dX12_isCrossed_27 ?_
          refine lv_iload_n hx hb_ dX12_isCrossed_30 rfl (lv_at hl 2 rfl) ?_
          refine z_iald (n := 8) hcf hK_ hw (mL hSh 47) (mK hSh 47) (mN hSh 47) (by rw [eiA]; exact vp_in_nI (by omega) (by decide)) dX12_isCrossed_31 ?_
          refine z_topi (y := (nI (P.idxOf jA))) (by rw [(show iA.toNatClampNeg = jA by rw [eiA]; exact nI_clamp (by omega))]; exact hat jA (by omega)) ?_
          refine lv_goto (tgt := 43) hx hb_ dX12_isCrossed_32 (by decide) ?_
          refine z_topi (y := (if nI (P.idxOf jA) < nI (P.idxOf (jA + 1)) then nI (P.idxOf jA) else nI (P.idxOf (jA + 1)))) ((if_pos (zx_ltN c_23)).symm) ?_
          refine lv_istore_n (lv' := [(3, .int (if nI (P.idxOf jA) < nI (P.idxOf (jA + 1)) then nI (P.idxOf jA) else nI (P.idxOf (jA + 1)))), (0, .ref (r_ 0)), (1, .int (nI n_)), (2, .int iA)]) hx hb_ dX12_isCrossed_43 rfl hl (by decide) rfl (fun ls hl => ?_)
          refine lv_aload_n hx hb_ dX12_isCrossed_44 rfl (lv_at hl 1 rfl) ?_
          refine z_get (k := 12) (i := 47) (j := 1247) (v := .ref (r_ 47)) (ref := "FoldedInHalfModel") (C := RX12) (T := TX12) (N := 56) hcf hK_ hw hin12 (mL hSh 0) (mK hSh 0) rfl (by decide) (by decide) rfl rfl (congrArg va_rf (mP hSh 47)) (List.mem_of_getElem? (i := 1) rfl) (fun _ h_ => h_) dX12_isCrossed_45 ?_
          refine lv_iload_n hx hb_ dX12_isCrossed_48 rfl (lv_at hl 3 rfl) ?_
          refine z_iald (n := 8) hcf hK_ hw (mL hSh 47) (mK hSh 47) (mN hSh 47) (by rw [eiA]; exact vp_in_nI (by omega) (by decide)) dX12_isCrossed_49 ?_
          refine z_topi (y := (nI (P.idxOf jA))) (by rw [(show iA.toNatClampNeg = jA by rw [eiA]; exact nI_clamp (by omega))]; exact hat jA (by omega)) ?_
          refine lv_aload_n hx hb_ dX12_isCrossed_50 rfl (lv_at hl 1 rfl) ?_
          refine z_get (k := 12) (i := 47) (j := 1247) (v := .ref (r_ 47)) (ref := "FoldedInHalfModel") (C := RX12) (T := TX12) (N := 56) hcf hK_ hw hin12 (mL hSh 0) (mK hSh 0) rfl (by decide) (by decide) rfl rfl (congrArg va_rf (mP hSh 47)) (List.mem_of_getElem? (i := 1) rfl) (fun _ h_ => h_) dX12_isCrossed_51 ?_
          refine lv_iload_n hx hb_ dX12_isCrossed_54 rfl (lv_at hl 3 rfl) ?_
          refine lv_iconst (v := 1) hx hb_ dX12_isCrossed_55 (by decide) ?_
          refine lv_iadd hx hb_ dX12_isCrossed_56 ?_
          refine z_iald (n := 8) hcf hK_ hw (mL hSh 47) (mK hSh 47) (mN hSh 47) (by rw [eiA, nI_1]; exact vp_in_nI (by omega) (by decide)) dX12_isCrossed_57 ?_
          refine z_topi (y := (nI (P.idxOf (jA + 1)))) (by rw [(show (iA + 1).toNatClampNeg = (jA + 1) by rw [eiA, nI_1]; exact nI_clamp (by omega))]; exact hat (jA + 1) (by omega)) ?_
          refine lv_iadd hx hb_ dX12_isCrossed_58 ?_
          refine lv_iload_n hx hb_ dX12_isCrossed_59 rfl (lv_at hl 0 rfl) ?_
          refine lv_isub hx hb_ dX12_isCrossed_60 ?_
          refine lv_istore (lv' := [(4, .int (((nI (P.idxOf jA)) + (nI (P.idxOf (jA + 1)))) - (if nI (P.idxOf jA) < nI (P.idxOf (jA + 1)) then nI (P.idxOf jA) else nI (P.idxOf (jA + 1))))), (3, .int (if nI (P.idxOf jA) < nI (P.idxOf (jA + 1)) then nI (P.idxOf jA) else nI (P.idxOf (jA + 1)))), (0, .ref (r_ 0)), (1, .int (nI n_)), (2, .int iA)]) hx hb_ dX12_isCrossed_61 hl (by decide) rfl (fun ls hl => ?_)
          refine lv_iload_n hx hb_ dX12_isCrossed_63 rfl (lv_at hl 4 rfl) ?_
          refine lv_iconst (v := 2) hx hb_ dX12_isCrossed_64 (by decide) ?_
          refine lv_iadd hx hb_ dX12_isCrossed_65 ?_
          refine lv_istore (lv' := [(5, .int (iA + 2)), (4, .int (((nI (P.idxOf jA)) + (nI (P.idxOf (jA + 1)))) - (if nI (P.idxOf jA) < nI (P.idxOf (jA + 1)) then nI (P.idxOf jA) else nI (P.idxOf (jA + 1))))), (3, .int (if nI (P.idxOf jA) < nI (P.idxOf (jA + 1)) then nI (P.idxOf jA) else nI (P.idxOf (jA + 1)))), (0, .ref (r_ 0)), (1, .int (nI n_)), (2, .int iA)]) hx hb_ dX12_isCrossed_66 hl (by decide) rfl (fun ls hl => ?_)
          have JB : ∀ (nB tB : Nat) (iB : Int32), iB = nI (jA + 2 + 2 * tB) → tB ≤ n_ → n_ < tB + nB → (∀ t_, t_ < tB → xin P jA (jA + 2 + 2 * t_) = xin P jA (jA + 3 + 2 * t_)) → ∀ (H_ : Heap) (locs_ : List Loc), zPw cD cy A_ s_.heap S_ H_ locs_ → ∀ ls : Array Slot, lv_has ls 8 [(0, .ref (r_ 0)), (1, .int (nI n_)), (2, .int iA), (3, .int (if nI (P.idxOf jA) < nI (P.idxOf (jA + 1)) then nI (P.idxOf jA) else nI (P.idxOf (jA + 1)))), (4, .int (nI (P.idxOf jA) + nI (P.idxOf (jA + 1)) - (if nI (P.idxOf jA) < nI (P.idxOf (jA + 1)) then nI (P.idxOf jA) else nI (P.idxOf (jA + 1))))), (5, .int iB)] → W p_ lau e_ ({ frames := 0, cells := 0, slots := 0, locals := 0 } : Room) s_ m_ args_ below_ meth_ c_ H_ locs_ 0 0 (MQ below_ (va_Qi (fun (v_ : Int32) (S1 : zS) => v_ = (if okB n_ P = true then 0 else 1) ∧ S_ = S1) (zPost cD cy A_) A_) args_ s_ 0 0 A_) (F0 m_ 68 ls []) := by
            intro nB
            induction nB with
            | zero => intro tB iB _ htB h_; exact absurd h_ (by omega)
            | succ nB ihB =>
              intro tB iB eiB0 htB hmB hin H_ locs_ hw ls hl
              obtain ⟨jB, ejB⟩ : ∃ jB, jB = jA + 2 + 2 * tB := ⟨_, rfl⟩
              have eiB : iB = nI jB := by rw [eiB0, ejB]
              refine lv_iload hx hb_ dX12_isCrossed_68 (lv_at hl 5 rfl) ?_
              refine lv_iconst (v := 1) hx hb_ dX12_isCrossed_70 (by decide) ?_
              refine lv_iadd hx hb_ dX12_isCrossed_71 ?_
              refine z_topi (y := (nI (jB + 1))) (by rw [eiB]; exact nI_1 jB) ?_
              refine lv_iload_n hx hb_ dX12_isCrossed_72 rfl (lv_at hl 1 rfl) ?_
              refine lv_icmp_ge (tgt := 155) hx hb_ dX12_isCrossed_73 (by decide) (fun c_73 => ?_) (fun c_73 => ?_)
              · have hBn : n_ ≤ jB + 1 := zn_ge rfl rfl (by omega) c_73
                obtain ⟨i2_, ei2⟩ : ∃ y_ : Int32, y_ = iA + 1 := ⟨_, rfl⟩
                refine lv_iinc (v := i2_) (lv' := [(2, .int i2_), (0, .ref (r_ 0)), (1, .int (nI n_)), (3, .int (if nI (P.idxOf jA) < nI (P.idxOf (jA + 1)) then nI (P.idxOf jA) else nI (P.idxOf (jA + 1)))), (4, .int (nI (P.idxOf jA) + nI (P.idxOf (jA + 1)) - (if nI (P.idxOf jA) < nI (P.idxOf (jA + 1)) then nI (P.idxOf jA) else nI (P.idxOf (jA + 1))))), (5, .int iB)]) hx hb_ dX12_isCrossed_155 hl (k := 2) rfl (by rw [ei2]; rfl) (by decide) rfl (fun ls hl => ?_)
                refine lv_goto (tgt := 2) hx hb_ dX12_isCrossed_158 (by decide) ?_
                exact ihA (jA + 1) i2_ (by rw [ei2, eiA]; exact nI_1 jA) (by omega) (by omega) (fun i_ hi_ t_ ht => (Nat.lt_or_ge i_ jA).elim (fun q_ => hok i_ q_ t_ ht) (fun q_ => by have e_ := (show i_ = jA by omega); subst e_; exact hin t_ (by have := hBn; omega))) _ _ hw ls (lv_sub hl [1, 2, 0] rfl)
              · have hltB : jB + 1 < n_ := zn_lt rfl rfl (by omega) c_73
                have hm0 := mx_in (hx8 jA (by omega)) (hx8 (jA + 1) (by omega)) (hx8 jB (by omega))
                have hm1 := mx_in (hx8 jA (by omega)) (hx8 (jA + 1) (by omega)) (hx8 (jB + 1) (by omega))
                refine lv_aload_n hx hb_ dX12_isCrossed_76 rfl (lv_at hl 0 rfl) ?_
                refine z_get (k := 12) (i := 47) (j := 1247) (v := .ref (r_ 47)) (ref := "FoldedInHalfModel") (C := RX12) (T := TX12) (N := 56) hcf hK_ hw hin12 (mL hSh 0) (mK hSh 0) rfl (by decide) (by decide) rfl rfl (congrArg va_rf (mP hSh 47)) (List.mem_of_getElem? (i := 1) rfl) (fun _ h_ => h_) dX12_isCrossed_77 ?_
                refine lv_iload hx hb_ dX12_isCrossed_80 (lv_at hl 5 rfl) ?_
                refine z_iald (n := 8) hcf hK_ hw (mL hSh 47) (mK hSh 47) (mN hSh 47) (by rw [eiB]; exact vp_in_nI (by omega) (by decide)) dX12_isCrossed_82 ?_
                refine z_topi (y := (nI (P.idxOf jB))) (by rw [(show iB.toNatClampNeg = jB by rw [eiB]; exact nI_clamp (by omega))]; exact hat jB (by omega)) ?_
                refine lv_iload_n hx hb_ dX12_isCrossed_83 rfl (lv_at hl 3 rfl) ?_
                refine lv_icmp_le (tgt := 103) hx hb_ dX12_isCrossed_84 (by decide) (fun c_84 => ?_) (fun c_84 => ?_)
                · refine lv_iconst (v := 0) hx hb_ dX12_isCrossed_103 (by decide) ?_
                  refine lv_istore (lv' := [(6, .int 0), (0, .ref (r_ 0)), (1, .int (nI n_)), (2, .int iA), (3, .int (if nI (P.idxOf jA) < nI (P.idxOf (jA + 1)) then nI (P.idxOf jA) else nI (P.idxOf (jA + 1)))), (4, .int (nI (P.idxOf jA) + nI (P.idxOf (jA + 1)) - (if nI (P.idxOf jA) < nI (P.idxOf (jA + 1)) then nI (P.idxOf jA) else nI (P.idxOf (jA + 1))))), (5, .int iB)]) hx hb_ dX12_isCrossed_104 hl (by decide) rfl (fun ls hl => ?_)
                  refine lv_aload_n hx hb_ dX12_isCrossed_106 rfl (lv_at hl 1 rfl) ?_
                  refine z_get (k := 12) (i := 47) (j := 1247) (v := .ref (r_ 47)) (ref := "FoldedInHalfModel") (C := RX12) (T := TX12) (N := 56) hcf hK_ hw hin12 (mL hSh 0) (mK hSh 0) rfl (by decide) (by decide) rfl rfl (congrArg va_rf (mP hSh 47)) (List.mem_of_getElem? (i := 1) rfl) (fun _ h_ => h_) dX12_isCrossed_107 ?_
                  refine lv_iload hx hb_ dX12_isCrossed_110 (lv_at hl 6 rfl) ?_
                  refine lv_iconst (v := 1) hx hb_ dX12_isCrossed_112 (by decide) ?_
                  refine lv_iadd hx hb_ dX12_isCrossed_113 ?_
                  refine z_iald (n := 8) hcf hK_ hw (mL hSh 47) (mK hSh 47) (mN hSh 47) (by rw [eiB, nI_1]; exact vp_in_nI (by omega) (by decide)) dX12_isCrossed_114 ?_
                  refine z_topi (y := (nI (P.idxOf (jB + 1)))) (by rw [(show (iB + 1).toNatClampNeg = (jB + 1) by rw [eiB, nI_1]; exact nI_clamp (by omega))]; exact hat (jB + 1) (by omega)) ?_
                  refine lv_iload_n hx hb_ dX12_isCrossed_115 rfl (lv_at hl 4 rfl) ?_
                  refine lv_icmp_le (tgt := 137) hx hb_ dX12_isCrossed_116 (by decide) (fun c_116 => ?_) (fun c_116 => ?_)
                  · refine lv_iconst (v := 0) hx hb_ dX12_isCrossed_137 (by decide) ?_
                    refine lv_istore (lv' := [(7, .int 0), (6, .int 0), (0, .ref (r_ 0)), (1, .int (nI n_)), (2, .int iA), (3, .int (if nI (P.idxOf jA) < nI (P.idxOf (jA + 1)) then nI (P.idxOf jA) else nI (P.idxOf (jA + 1)))), (4, .int (nI (P.idxOf jA) + nI (P.idxOf (jA + 1)) - (if nI (P.idxOf jA) < nI (P.idxOf (jA + 1)) then nI (P.idxOf jA) else nI (P.idxOf (jA + 1))))), (5, .int iB)]) hx hb_ dX12_isCrossed_138 hl (by decide) rfl (fun ls hl => ?_)
                    have h6 : xin P jA jB = false := (decide_eq_false (fun q_ => absurd (hm0.2 q_).1 (by rw [zx_le] at c_84; rw [zx_lt]; omega)))
                    have h7 : xin P jA (jB + 1) = false := (decide_eq_false (fun q_ => absurd (hm1.2 q_).1 (by rw [zx_le] at c_116; rw [zx_lt]; omega)))
                    have hone : xin P jA (jA + 2 + 2 * tB) = xin P jA (jA + 3 + 2 * tB) := by rw [show jA + 3 + 2 * tB = jB + 1 by omega, ← ejB, h6, h7]
                    refine lv_iload hx hb_ dX12_isCrossed_140 (lv_at hl 1 rfl) ?_
                    refine lv_iload hx hb_ dX12_isCrossed_142 (lv_at hl 0 rfl) ?_
                    refine lv_icmp_eq (tgt := 149) hx hb_ dX12_isCrossed_144 (by decide) (fun _ => ?_) (fun c_144 => absurd c_144 (by decide))
                    obtain ⟨i3, ei3⟩ : ∃ y_ : Int32, y_ = iB + 2 := ⟨_, rfl⟩
                    refine lv_iinc (v := i3) (lv' := [(5, .int i3), (7, .int 0), (6, .int 0), (0, .ref (r_ 0)), (1, .int (nI n_)), (2, .int iA), (3, .int (if nI (P.idxOf jA) < nI (P.idxOf (jA + 1)) then nI (P.idxOf jA) else nI (P.idxOf (jA + 1)))), (4, .int (nI (P.idxOf jA) + nI (P.idxOf (jA + 1)) - (if nI (P.idxOf jA) < nI (P.idxOf (jA + 1)) then nI (P.idxOf jA) else nI (P.idxOf (jA + 1)))))]) hx hb_ dX12_isCrossed_149 hl (k := 7) rfl (by rw [ei3]; rfl) (by decide) rfl (fun ls hl => ?_)
                    refine lv_goto (tgt := 68) hx hb_ dX12_isCrossed_152 (by decide) ?_
                    exact ihB (tB + 1) i3 (by rw [ei3, eiB, show (2 : Int32) = nI 2 from rfl, nI_add]; congr 1; omega) (by omega) (by omega) (fun t_ ht => (Nat.lt_or_ge t_ tB).elim (fun q_ => hin t_ q_) (fun q_ => by have e_ := (show t_ = tB by omega); subst e_; exact hone)) _ _ hw ls (lv_sub hl [3, 4, 5, 6, 7, 0] rfl)
                  · refine lv_aload_n hx hb_ dX12_isCrossed_119 rfl (lv_at hl 1 rfl) ?_
                    refine z_get (k := 12) (i := 47) (j := 1247) (v := .ref (r_ 47)) (ref := "FoldedInHalfModel") (C := RX12) (T := TX12) (N := 56) hcf hK_ hw hin12 (mL hSh 0) (mK hSh 0) rfl (by decide) (by decide) rfl rfl (congrArg va_rf (mP hSh 47)) (List.mem_of_getElem? (i := 1) rfl) (fun _ h_ => h_) dX12_isCrossed_120 ?_
                    refine lv_iload hx hb_ dX12_isCrossed_123 (lv_at hl 6 rfl) ?_
                    refine lv_iconst (v := 1) hx hb_ dX12_isCrossed_125 (by decide) ?_
                    refine lv_iadd hx hb_ dX12_isCrossed_126 ?_
                    refine z_iald (n := 8) hcf hK_ hw (mL hSh 47) (mK hSh 47) (mN hSh 47) (by rw [eiB, nI_1]; exact vp_in_nI (by omega) (by decide)) dX12_isCrossed_127 ?_
                    refine z_topi (y := (nI (P.idxOf (jB + 1)))) (by rw [(show (iB + 1).toNatClampNeg = (jB + 1) by rw [eiB, nI_1]; exact nI_clamp (by omega))]; exact hat (jB + 1) (by omega)) ?_
                    refine lv_iload hx hb_ dX12_isCrossed_128 (lv_at hl 5 rfl) ?_
                    refine lv_icmp_ge (tgt := 137) hx hb_ dX12_isCrossed_130 (by decide) (fun c_130 => ?_) (fun c_130 => ?_)
                    · refine lv_iconst (v := 0) hx hb_ dX12_isCrossed_137 (by decide) ?_
                      refine lv_istore (lv' := [(7, .int 0), (6, .int 0), (0, .ref (r_ 0)), (1, .int (nI n_)), (2, .int iA), (3, .int (if nI (P.idxOf jA) < nI (P.idxOf (jA + 1)) then nI (P.idxOf jA) else nI (P.idxOf (jA + 1)))), (4, .int (nI (P.idxOf jA) + nI (P.idxOf (jA + 1)) - (if nI (P.idxOf jA) < nI (P.idxOf (jA + 1)) then nI (P.idxOf jA) else nI (P.idxOf (jA + 1))))), (5, .int iB)]) hx hb_ dX12_isCrossed_138 hl (by decide) rfl (fun ls hl => ?_)
                      have h6 : xin P jA jB = false := (decide_eq_false (fun q_ => absurd (hm0.2 q_).1 (by rw [zx_le] at c_84; rw [zx_lt]; omega)))
                      have h7 : xin P jA (jB + 1) = false := (decide_eq_false (fun q_ => absurd (hm1.2 q_).2 (by rw [zx_le] at c_130; rw [zx_lt]; omega)))
                      have hone : xin P jA (jA + 2 + 2 * tB) = xin P jA (jA + 3 + 2 * tB) := by rw [show jA + 3 + 2 * tB = jB + 1 by omega, ← ejB, h6, h7]
                      refine lv_iload hx hb_ dX12_isCrossed_140 (lv_at hl 1 rfl) ?_
                      refine lv_iload hx hb_ dX12_isCrossed_142 (lv_at hl 0 rfl) ?_
                      refine lv_icmp_eq (tgt := 149) hx hb_ dX12_isCrossed_144 (by decide) (fun _ => ?_) (fun c_144 => absurd c_144 (by decide))
                      obtain ⟨i3, ei3⟩ : ∃ y_ : Int32, y_ = iB + 2 := ⟨_, rfl⟩
                      refine lv_iinc (v := i3) (lv' := [(5, .int i3), (7, .int 0), (6, .int 0), (0, .ref (r_ 0)), (1, .int (nI n_)), (2, .int iA), (3, .int (if nI (P.idxOf jA) < nI (P.idxOf (jA + 1)) then nI (P.idxOf jA) else nI (P.idxOf (jA + 1)))), (4, .int (nI (P.idxOf jA) + nI (P.idxOf (jA + 1)) - (if nI (P.idxOf jA) < nI (P.idxOf (jA + 1)) then nI (P.idxOf jA) else nI (P.idxOf (jA + 1)))))]) hx hb_ dX12_isCrossed_149 hl (k := 7) rfl (by rw [ei3]; rfl) (by decide) rfl (fun ls hl => ?_)
                      refine lv_goto (tgt := 68) hx hb_ dX12_isCrossed_152 (by decide) ?_
                      exact ihB (tB + 1) i3 (by rw [ei3, eiB, show (2 : Int32) = nI 2 from rfl, nI_add]; congr 1; omega) (by omega) (by omega) (fun t_ ht => (Nat.lt_or_ge t_ tB).elim (fun q_ => hin t_ q_) (fun q_ => by have e_ := (show t_ = tB by omega); subst e_; exact hone)) _ _ hw ls (lv_sub hl [3, 4, 5, 6, 7, 0] rfl)
                    · refine lv_iconst (v := 1) hx hb_ dX12_isCrossed_133 (by decide) ?_
                      refine lv_goto (tgt := 138) hx hb_ dX12_isCrossed_134 (by decide) ?_
                      refine lv_istore (lv' := [(7, .int 1), (6, .int 0), (0, .ref (r_ 0)), (1, .int (nI n_)), (2, .int iA), (3, .int (if nI (P.idxOf jA) < nI (P.idxOf (jA + 1)) then nI (P.idxOf jA) else nI (P.idxOf (jA + 1)))), (4, .int (nI (P.idxOf jA) + nI (P.idxOf (jA + 1)) - (if nI (P.idxOf jA) < nI (P.idxOf (jA + 1)) then nI (P.idxOf jA) else nI (P.idxOf (jA + 1))))), (5, .int iB)]) hx hb_ dX12_isCrossed_138 hl (by decide) rfl (fun ls hl => ?_)
                      have h6 : xin P jA jB = false := (decide_eq_false (fun q_ => absurd (hm0.2 q_).1 (by rw [zx_le] at c_84; rw [zx_lt]; omega)))
                      have h7 : xin P jA (jB + 1) = true := (decide_eq_true (hm1.1 ⟨Classical.byContradiction (fun q_ => c_116 (by rw [zx_le]; rw [zx_lt] at q_; omega)), Classical.byContradiction (fun q_ => c_130 (by rw [zx_le]; rw [zx_lt] at q_; omega))⟩))
                      refine lv_iload hx hb_ dX12_isCrossed_140 (lv_at hl 1 rfl) ?_
                      refine lv_iload hx hb_ dX12_isCrossed_142 (lv_at hl 0 rfl) ?_
                      refine lv_icmp_eq (tgt := 149) hx hb_ dX12_isCrossed_144 (by decide) (fun c_144 => absurd c_144 (by decide)) (fun _ => ?_)
                      refine lv_iconst (v := 1) hx hb_ dX12_isCrossed_147 (by decide) ?_
                      exact z_iret (ty := .boolean) (v := 1) hcf hr rfl hlk hw (⟨(if_neg (fun q_ => by have z_ := okB_iff.mp q_ jA (by omega) tB (by omega); rw [show jA + 3 + 2 * tB = jB + 1 by omega, ← ejB, h6, h7] at z_; exact absurd z_ (by decide))).symm, rfl⟩) dX12_isCrossed_148
                · refine lv_aload_n hx hb_ dX12_isCrossed_87 rfl (lv_at hl 0 rfl) ?_
                  refine z_get (k := 12) (i := 47) (j := 1247) (v := .ref (r_ 47)) (ref := "FoldedInHalfModel") (C := RX12) (T := TX12) (N := 56) hcf hK_ hw hin12 (mL hSh 0) (mK hSh 0) rfl (by decide) (by decide) rfl rfl (congrArg va_rf (mP hSh 47)) (List.mem_of_getElem? (i := 1) rfl) (fun _ h_ => h_) dX12_isCrossed_88 ?_
                  refine lv_iload hx hb_ dX12_isCrossed_91 (lv_at hl 5 rfl) ?_
                  refine z_iald (n := 8) hcf hK_ hw (mL hSh 47) (mK hSh 47) (mN hSh 47) (by rw [eiB]; exact vp_in_nI (by omega) (by decide)) dX12_isCrossed_93 ?_
                  refine z_topi (y := (nI (P.idxOf jB))) (by rw [(show iB.toNatClampNeg = jB by rw [eiB]; exact nI_clamp (by omega))]; exact hat jB (by omega)) ?_
                  refine lv_iload hx hb_ dX12_isCrossed_94 (lv_at hl 4 rfl) ?_
                  refine lv_icmp_ge (tgt := 103) hx hb_ dX12_isCrossed_96 (by decide) (fun c_96 => ?_) (fun c_96 => ?_)
                  · refine lv_iconst (v := 0) hx hb_ dX12_isCrossed_103 (by decide) ?_
                    refine lv_istore (lv' := [(6, .int 0), (0, .ref (r_ 0)), (1, .int (nI n_)), (2, .int iA), (3, .int (if nI (P.idxOf jA) < nI (P.idxOf (jA + 1)) then nI (P.idxOf jA) else nI (P.idxOf (jA + 1)))), (4, .int (nI (P.idxOf jA) + nI (P.idxOf (jA + 1)) - (if nI (P.idxOf jA) < nI (P.idxOf (jA + 1)) then nI (P.idxOf jA) else nI (P.idxOf (jA + 1))))), (5, .int iB)]) hx hb_ dX12_isCrossed_104 hl (by decide) rfl (fun ls hl => ?_)
                    refine lv_aload_n hx hb_ dX12_isCrossed_106 rfl (lv_at hl 1 rfl) ?_
                    refine z_get (k := 12) (i := 47) (j := 1247) (v := .ref (r_ 47)) (ref := "FoldedInHalfModel") (C := RX12) (T := TX12) (N := 56) hcf hK_ hw hin12 (mL hSh 0) (mK hSh 0) rfl (by decide) (by decide) rfl rfl (congrArg va_rf (mP hSh 47)) (List.mem_of_getElem? (i := 1) rfl) (fun _ h_ => h_) dX12_isCrossed_107 ?_
                    refine lv_iload hx hb_ dX12_isCrossed_110 (lv_at hl 6 rfl) ?_
                    refine lv_iconst (v := 1) hx hb_ dX12_isCrossed_112 (by decide) ?_
                    refine lv_iadd hx hb_ dX12_isCrossed_113 ?_
                    refine z_iald (n := 8) hcf hK_ hw (mL hSh 47) (mK hSh 47) (mN hSh 47) (by rw [eiB, nI_1]; exact vp_in_nI (by omega) (by decide)) dX12_isCrossed_114 ?_
                    refine z_topi (y := (nI (P.idxOf (jB + 1)))) (by rw [(show (iB + 1).toNatClampNeg = (jB + 1) by rw [eiB, nI_1]; exact nI_clamp (by omega))]; exact hat (jB + 1) (by omega)) ?_
                    refine lv_iload_n hx hb_ dX12_isCrossed_115 rfl (lv_at hl 4 rfl) ?_
                    refine lv_icmp_le (tgt := 137) hx hb_ dX12_isCrossed_116 (by decide) (fun c_116 => ?_) (fun c_116 => ?_)
                    · refine lv_iconst (v := 0) hx hb_ dX12_isCrossed_137 (by decide) ?_
                      refine lv_istore (lv' := [(7, .int 0), (6, .int 0), (0, .ref (r_ 0)), (1, .int (nI n_)), (2, .int iA), (3, .int (if nI (P.idxOf jA) < nI (P.idxOf (jA + 1)) then nI (P.idxOf jA) else nI (P.idxOf (jA + 1)))), (4, .int (nI (P.idxOf jA) + nI (P.idxOf (jA + 1)) - (if nI (P.idxOf jA) < nI (P.idxOf (jA + 1)) then nI (P.idxOf jA) else nI (P.idxOf (jA + 1))))), (5, .int iB)]) hx hb_ dX12_isCrossed_138 hl (by decide) rfl (fun ls hl => ?_)
                      have h6 : xin P jA jB = false := (decide_eq_false (fun q_ => absurd (hm0.2 q_).2 (by rw [zx_le] at c_96; rw [zx_lt]; omega)))
                      have h7 : xin P jA (jB + 1) = false := (decide_eq_false (fun q_ => absurd (hm1.2 q_).1 (by rw [zx_le] at c_116; rw [zx_lt]; omega)))
                      have hone : xin P jA (jA + 2 + 2 * tB) = xin P jA (jA + 3 + 2 * tB) := by rw [show jA + 3 + 2 * tB = jB + 1 by omega, ← ejB, h6, h7]
                      refine lv_iload hx hb_ dX12_isCrossed_140 (lv_at hl 1 rfl) ?_
                      refine lv_iload hx hb_ dX12_isCrossed_142 (lv_at hl 0 rfl) ?_
                      refine lv_icmp_eq (tgt := 149) hx hb_ dX12_isCrossed_144 (by decide) (fun _ => ?_) (fun c_144 => absurd c_144 (by decide))
                      obtain ⟨i3, ei3⟩ : ∃ y_ : Int32, y_ = iB + 2 := ⟨_, rfl⟩
                      refine lv_iinc (v := i3) (lv' := [(5, .int i3), (7, .int 0), (6, .int 0), (0, .ref (r_ 0)), (1, .int (nI n_)), (2, .int iA), (3, .int (if nI (P.idxOf jA) < nI (P.idxOf (jA + 1)) then nI (P.idxOf jA) else nI (P.idxOf (jA + 1)))), (4, .int (nI (P.idxOf jA) + nI (P.idxOf (jA + 1)) - (if nI (P.idxOf jA) < nI (P.idxOf (jA + 1)) then nI (P.idxOf jA) else nI (P.idxOf (jA + 1)))))]) hx hb_ dX12_isCrossed_149 hl (k := 7) rfl (by rw [ei3]; rfl) (by decide) rfl (fun ls hl => ?_)
                      refine lv_goto (tgt := 68) hx hb_ dX12_isCrossed_152 (by decide) ?_
                      exact ihB (tB + 1) i3 (by rw [ei3, eiB, show (2 : Int32) = nI 2 from rfl, nI_add]; congr 1; omega) (by omega) (by omega) (fun t_ ht => (Nat.lt_or_ge t_ tB).elim (fun q_ => hin t_ q_) (fun q_ => by have e_ := (show t_ = tB by omega); subst e_; exact hone)) _ _ hw ls (lv_sub hl [3, 4, 5, 6, 7, 0] rfl)
                    · refine lv_aload_n hx hb_ dX12_isCrossed_119 rfl (lv_at hl 1 rfl) ?_
                      refine z_get (k := 12) (i := 47) (j := 1247) (v := .ref (r_ 47)) (ref := "FoldedInHalfModel") (C := RX12) (T := TX12) (N := 56) hcf hK_ hw hin12 (mL hSh 0) (mK hSh 0) rfl (by decide) (by decide) rfl rfl (congrArg va_rf (mP hSh 47)) (List.mem_of_getElem? (i := 1) rfl) (fun _ h_ => h_) dX12_isCrossed_120 ?_
                      refine lv_iload hx hb_ dX12_isCrossed_123 (lv_at hl 6 rfl) ?_
                      refine lv_iconst (v := 1) hx hb_ dX12_isCrossed_125 (by decide) ?_
                      refine lv_iadd hx hb_ dX12_isCrossed_126 ?_
                      refine z_iald (n := 8) hcf hK_ hw (mL hSh 47) (mK hSh 47) (mN hSh 47) (by rw [eiB, nI_1]; exact vp_in_nI (by omega) (by decide)) dX12_isCrossed_127 ?_
                      refine z_topi (y := (nI (P.idxOf (jB + 1)))) (by rw [(show (iB + 1).toNatClampNeg = (jB + 1) by rw [eiB, nI_1]; exact nI_clamp (by omega))]; exact hat (jB + 1) (by omega)) ?_
                      refine lv_iload hx hb_ dX12_isCrossed_128 (lv_at hl 5 rfl) ?_
                      refine lv_icmp_ge (tgt := 137) hx hb_ dX12_isCrossed_130 (by decide) (fun c_130 => ?_) (fun c_130 => ?_)
                      · refine lv_iconst (v := 0) hx hb_ dX12_isCrossed_137 (by decide) ?_
                        refine lv_istore (lv' := [(7, .int 0), (6, .int 0), (0, .ref (r_ 0)), (1, .int (nI n_)), (2, .int iA), (3, .int (if nI (P.idxOf jA) < nI (P.idxOf (jA + 1)) then nI (P.idxOf jA) else nI (P.idxOf (jA + 1)))), (4, .int (nI (P.idxOf jA) + nI (P.idxOf (jA + 1)) - (if nI (P.idxOf jA) < nI (P.idxOf (jA + 1)) then nI (P.idxOf jA) else nI (P.idxOf (jA + 1))))), (5, .int iB)]) hx hb_ dX12_isCrossed_138 hl (by decide) rfl (fun ls hl => ?_)
                        have h6 : xin P jA jB = false := (decide_eq_false (fun q_ => absurd (hm0.2 q_).2 (by rw [zx_le] at c_96; rw [zx_lt]; omega)))
                        have h7 : xin P jA (jB + 1) = false := (decide_eq_false (fun q_ => absurd (hm1.2 q_).2 (by rw [zx_le] at c_130; rw [zx_lt]; omega)))
                        have hone : xin P jA (jA + 2 + 2 * tB) = xin P jA (jA + 3 + 2 * tB) := by rw [show jA + 3 + 2 * tB = jB + 1 by omega, ← ejB, h6, h7]
                        refine lv_iload hx hb_ dX12_isCrossed_140 (lv_at hl 1 rfl) ?_
                        refine lv_iload hx hb_ dX12_isCrossed_142 (lv_at hl 0 rfl) ?_
                        refine lv_icmp_eq (tgt := 149) hx hb_ dX12_isCrossed_144 (by decide) (fun _ => ?_) (fun c_144 => absurd c_144 (by decide))
                        obtain ⟨i3, ei3⟩ : ∃ y_ : Int32, y_ = iB + 2 := ⟨_, rfl⟩
                        refine lv_iinc (v := i3) (lv' := [(5, .int i3), (7, .int 0), (6, .int 0), (0, .ref (r_ 0)), (1, .int (nI n_)), (2, .int iA), (3, .int (if nI (P.idxOf jA) < nI (P.idxOf (jA + 1)) then nI (P.idxOf jA) else nI (P.idxOf (jA + 1)))), (4, .int (nI (P.idxOf jA) + nI (P.idxOf (jA + 1)) - (if nI (P.idxOf jA) < nI (P.idxOf (jA + 1)) then nI (P.idxOf jA) else nI (P.idxOf (jA + 1)))))]) hx hb_ dX12_isCrossed_149 hl (k := 7) rfl (by rw [ei3]; rfl) (by decide) rfl (fun ls hl => ?_)
                        refine lv_goto (tgt := 68) hx hb_ dX12_isCrossed_152 (by decide) ?_
                        exact ihB (tB + 1) i3 (by rw [ei3, eiB, show (2 : Int32) = nI 2 from rfl, nI_add]; congr 1; omega) (by omega) (by omega) (fun t_ ht => (Nat.lt_or_ge t_ tB).elim (fun q_ => hin t_ q_) (fun q_ => by have e_ := (show t_ = tB by omega); subst e_; exact hone)) _ _ hw ls (lv_sub hl [3, 4, 5, 6, 7, 0] rfl)
                      · refine lv_iconst (v := 1) hx hb_ dX12_isCrossed_133 (by decide) ?_
                        refine lv_goto (tgt := 138) hx hb_ dX12_isCrossed_134 (by decide) ?_
                        refine lv_istore (lv' := [(7, .int 1), (6, .int 0), (0, .ref (r_ 0)), (1, .int (nI n_)), (2, .int iA), (3, .int (if nI (P.idxOf jA) < nI (P.idxOf (jA + 1)) then nI (P.idxOf jA) else nI (P.idxOf (jA + 1)))), (4, .int (nI (P.idxOf jA) + nI (P.idxOf (jA + 1)) - (if nI (P.idxOf jA) < nI (P.idxOf (jA + 1)) then nI (P.idxOf jA) else nI (P.idxOf (jA + 1))))), (5, .int iB)]) hx hb_ dX12_isCrossed_138 hl (by decide) rfl (fun ls hl => ?_)
                        have h6 : xin P jA jB = false := (decide_eq_false (fun q_ => absurd (hm0.2 q_).2 (by rw [zx_le] at c_96; rw [zx_lt]; omega)))
                        have h7 : xin P jA (jB + 1) = true := (decide_eq_true (hm1.1 ⟨Classical.byContradiction (fun q_ => c_116 (by rw [zx_le]; rw [zx_lt] at q_; omega)), Classical.byContradiction (fun q_ => c_130 (by rw [zx_le]; rw [zx_lt] at q_; omega))⟩))
                        refine lv_iload hx hb_ dX12_isCrossed_140 (lv_at hl 1 rfl) ?_
                        refine lv_iload hx hb_ dX12_isCrossed_142 (lv_at hl 0 rfl) ?_
                        refine lv_icmp_eq (tgt := 149) hx hb_ dX12_isCrossed_144 (by decide) (fun c_144 => absurd c_144 (by decide)) (fun _ => ?_)
                        refine lv_iconst (v := 1) hx hb_ dX12_isCrossed_147 (by decide) ?_
                        exact z_iret (ty := .boolean) (v := 1) hcf hr rfl hlk hw (⟨(if_neg (fun q_ => by have z_ := okB_iff.mp q_ jA (by omega) tB (by omega); rw [show jA + 3 + 2 * tB = jB + 1 by omega, ← ejB, h6, h7] at z_; exact absurd z_ (by decide))).symm, rfl⟩) dX12_isCrossed_148
                  · refine lv_iconst (v := 1) hx hb_ dX12_isCrossed_99 (by decide) ?_
                    refine lv_goto (tgt := 104) hx hb_ dX12_isCrossed_100 (by decide) ?_
                    refine lv_istore (lv' := [(6, .int 1), (0, .ref (r_ 0)), (1, .int (nI n_)), (2, .int iA), (3, .int (if nI (P.idxOf jA) < nI (P.idxOf (jA + 1)) then nI (P.idxOf jA) else nI (P.idxOf (jA + 1)))), (4, .int (nI (P.idxOf jA) + nI (P.idxOf (jA + 1)) - (if nI (P.idxOf jA) < nI (P.idxOf (jA + 1)) then nI (P.idxOf jA) else nI (P.idxOf (jA + 1))))), (5, .int iB)]) hx hb_ dX12_isCrossed_104 hl (by decide) rfl (fun ls hl => ?_)
                    refine lv_aload_n hx hb_ dX12_isCrossed_106 rfl (lv_at hl 1 rfl) ?_
                    refine z_get (k := 12) (i := 47) (j := 1247) (v := .ref (r_ 47)) (ref := "FoldedInHalfModel") (C := RX12) (T := TX12) (N := 56) hcf hK_ hw hin12 (mL hSh 0) (mK hSh 0) rfl (by decide) (by decide) rfl rfl (congrArg va_rf (mP hSh 47)) (List.mem_of_getElem? (i := 1) rfl) (fun _ h_ => h_) dX12_isCrossed_107 ?_
                    refine lv_iload hx hb_ dX12_isCrossed_110 (lv_at hl 6 rfl) ?_
                    refine lv_iconst (v := 1) hx hb_ dX12_isCrossed_112 (by decide) ?_
                    refine lv_iadd hx hb_ dX12_isCrossed_113 ?_
                    refine z_iald (n := 8) hcf hK_ hw (mL hSh 47) (mK hSh 47) (mN hSh 47) (by rw [eiB, nI_1]; exact vp_in_nI (by omega) (by decide)) dX12_isCrossed_114 ?_
                    refine z_topi (y := (nI (P.idxOf (jB + 1)))) (by rw [(show (iB + 1).toNatClampNeg = (jB + 1) by rw [eiB, nI_1]; exact nI_clamp (by omega))]; exact hat (jB + 1) (by omega)) ?_
                    refine lv_iload_n hx hb_ dX12_isCrossed_115 rfl (lv_at hl 4 rfl) ?_
                    refine lv_icmp_le (tgt := 137) hx hb_ dX12_isCrossed_116 (by decide) (fun c_116 => ?_) (fun c_116 => ?_)
                    · refine lv_iconst (v := 0) hx hb_ dX12_isCrossed_137 (by decide) ?_
                      refine lv_istore (lv' := [(7, .int 0), (6, .int 1), (0, .ref (r_ 0)), (1, .int (nI n_)), (2, .int iA), (3, .int (if nI (P.idxOf jA) < nI (P.idxOf (jA + 1)) then nI (P.idxOf jA) else nI (P.idxOf (jA + 1)))), (4, .int (nI (P.idxOf jA) + nI (P.idxOf (jA + 1)) - (if nI (P.idxOf jA) < nI (P.idxOf (jA + 1)) then nI (P.idxOf jA) else nI (P.idxOf (jA + 1))))), (5, .int iB)]) hx hb_ dX12_isCrossed_138 hl (by decide) rfl (fun ls hl => ?_)
                      have h6 : xin P jA jB = true := (decide_eq_true (hm0.1 ⟨Classical.byContradiction (fun q_ => c_84 (by rw [zx_le]; rw [zx_lt] at q_; omega)), Classical.byContradiction (fun q_ => c_96 (by rw [zx_le]; rw [zx_lt] at q_; omega))⟩))
                      have h7 : xin P jA (jB + 1) = false := (decide_eq_false (fun q_ => absurd (hm1.2 q_).1 (by rw [zx_le] at c_116; rw [zx_lt]; omega)))
                      refine lv_iload hx hb_ dX12_isCrossed_140 (lv_at hl 1 rfl) ?_
                      refine lv_iload hx hb_ dX12_isCrossed_142 (lv_at hl 0 rfl) ?_
                      refine lv_icmp_eq (tgt := 149) hx hb_ dX12_isCrossed_144 (by decide) (fun c_144 => absurd c_144 (by decide)) (fun _ => ?_)
                      refine lv_iconst (v := 1) hx hb_ dX12_isCrossed_147 (by decide) ?_
                      exact z_iret (ty := .boolean) (v := 1) hcf hr rfl hlk hw (⟨(if_neg (fun q_ => by have z_ := okB_iff.mp q_ jA (by omega) tB (by omega); rw [show jA + 3 + 2 * tB = jB + 1 by omega, ← ejB, h6, h7] at z_; exact absurd z_ (by decide))).symm, rfl⟩) dX12_isCrossed_148
                    · refine lv_aload_n hx hb_ dX12_isCrossed_119 rfl (lv_at hl 1 rfl) ?_
                      refine z_get (k := 12) (i := 47) (j := 1247) (v := .ref (r_ 47)) (ref := "FoldedInHalfModel") (C := RX12) (T := TX12) (N := 56) hcf hK_ hw hin12 (mL hSh 0) (mK hSh 0) rfl (by decide) (by decide) rfl rfl (congrArg va_rf (mP hSh 47)) (List.mem_of_getElem? (i := 1) rfl) (fun _ h_ => h_) dX12_isCrossed_120 ?_
                      refine lv_iload hx hb_ dX12_isCrossed_123 (lv_at hl 6 rfl) ?_
                      refine lv_iconst (v := 1) hx hb_ dX12_isCrossed_125 (by decide) ?_
                      refine lv_iadd hx hb_ dX12_isCrossed_126 ?_
                      refine z_iald (n := 8) hcf hK_ hw (mL hSh 47) (mK hSh 47) (mN hSh 47) (by rw [eiB, nI_1]; exact vp_in_nI (by omega) (by decide)) dX12_isCrossed_127 ?_
                      refine z_topi (y := (nI (P.idxOf (jB + 1)))) (by rw [(show (iB + 1).toNatClampNeg = (jB + 1) by rw [eiB, nI_1]; exact nI_clamp (by omega))]; exact hat (jB + 1) (by omega)) ?_
                      refine lv_iload hx hb_ dX12_isCrossed_128 (lv_at hl 5 rfl) ?_
                      refine lv_icmp_ge (tgt := 137) hx hb_ dX12_isCrossed_130 (by decide) (fun c_130 => ?_) (fun c_130 => ?_)
                      · refine lv_iconst (v := 0) hx hb_ dX12_isCrossed_137 (by decide) ?_
                        refine lv_istore (lv' := [(7, .int 0), (6, .int 1), (0, .ref (r_ 0)), (1, .int (nI n_)), (2, .int iA), (3, .int (if nI (P.idxOf jA) < nI (P.idxOf (jA + 1)) then nI (P.idxOf jA) else nI (P.idxOf (jA + 1)))), (4, .int (nI (P.idxOf jA) + nI (P.idxOf (jA + 1)) - (if nI (P.idxOf jA) < nI (P.idxOf (jA + 1)) then nI (P.idxOf jA) else nI (P.idxOf (jA + 1))))), (5, .int iB)]) hx hb_ dX12_isCrossed_138 hl (by decide) rfl (fun ls hl => ?_)
                        have h6 : xin P jA jB = true := (decide_eq_true (hm0.1 ⟨Classical.byContradiction (fun q_ => c_84 (by rw [zx_le]; rw [zx_lt] at q_; omega)), Classical.byContradiction (fun q_ => c_96 (by rw [zx_le]; rw [zx_lt] at q_; omega))⟩))
                        have h7 : xin P jA (jB + 1) = false := (decide_eq_false (fun q_ => absurd (hm1.2 q_).2 (by rw [zx_le] at c_130; rw [zx_lt]; omega)))
                        refine lv_iload hx hb_ dX12_isCrossed_140 (lv_at hl 1 rfl) ?_
                        refine lv_iload hx hb_ dX12_isCrossed_142 (lv_at hl 0 rfl) ?_
                        refine lv_icmp_eq (tgt := 149) hx hb_ dX12_isCrossed_144 (by decide) (fun c_144 => absurd c_144 (by decide)) (fun _ => ?_)
                        refine lv_iconst (v := 1) hx hb_ dX12_isCrossed_147 (by decide) ?_
                        exact z_iret (ty := .boolean) (v := 1) hcf hr rfl hlk hw (⟨(if_neg (fun q_ => by have z_ := okB_iff.mp q_ jA (by omega) tB (by omega); rw [show jA + 3 + 2 * tB = jB + 1 by omega, ← ejB, h6, h7] at z_; exact absurd z_ (by decide))).symm, rfl⟩) dX12_isCrossed_148
                      · refine lv_iconst (v := 1) hx hb_ dX12_isCrossed_133 (by decide) ?_
                        refine lv_goto (tgt := 138) hx hb_ dX12_isCrossed_134 (by decide) ?_
                        refine lv_istore (lv' := [(7, .int 1), (6, .int 1), (0, .ref (r_ 0)), (1, .int (nI n_)), (2, .int iA), (3, .int (if nI (P.idxOf jA) < nI (P.idxOf (jA + 1)) then nI (P.idxOf jA) else nI (P.idxOf (jA + 1)))), (4, .int (nI (P.idxOf jA) + nI (P.idxOf (jA + 1)) - (if nI (P.idxOf jA) < nI (P.idxOf (jA + 1)) then nI (P.idxOf jA) else nI (P.idxOf (jA + 1))))), (5, .int iB)]) hx hb_ dX12_isCrossed_138 hl (by decide) rfl (fun ls hl => ?_)
                        have h6 : xin P jA jB = true := (decide_eq_true (hm0.1 ⟨Classical.byContradiction (fun q_ => c_84 (by rw [zx_le]; rw [zx_lt] at q_; omega)), Classical.byContradiction (fun q_ => c_96 (by rw [zx_le]; rw [zx_lt] at q_; omega))⟩))
                        have h7 : xin P jA (jB + 1) = true := (decide_eq_true (hm1.1 ⟨Classical.byContradiction (fun q_ => c_116 (by rw [zx_le]; rw [zx_lt] at q_; omega)), Classical.byContradiction (fun q_ => c_130 (by rw [zx_le]; rw [zx_lt] at q_; omega))⟩))
                        have hone : xin P jA (jA + 2 + 2 * tB) = xin P jA (jA + 3 + 2 * tB) := by rw [show jA + 3 + 2 * tB = jB + 1 by omega, ← ejB, h6, h7]
                        refine lv_iload hx hb_ dX12_isCrossed_140 (lv_at hl 1 rfl) ?_
                        refine lv_iload hx hb_ dX12_isCrossed_142 (lv_at hl 0 rfl) ?_
                        refine lv_icmp_eq (tgt := 149) hx hb_ dX12_isCrossed_144 (by decide) (fun _ => ?_) (fun c_144 => absurd c_144 (by decide))
                        obtain ⟨i3, ei3⟩ : ∃ y_ : Int32, y_ = iB + 2 := ⟨_, rfl⟩
                        refine lv_iinc (v := i3) (lv' := [(5, .int i3), (7, .int 1), (6, .int 1), (0, .ref (r_ 0)), (1, .int (nI n_)), (2, .int iA), (3, .int (if nI (P.idxOf jA) < nI (P.idxOf (jA + 1)) then nI (P.idxOf jA) else nI (P.idxOf (jA + 1)))), (4, .int (nI (P.idxOf jA) + nI (P.idxOf (jA + 1)) - (if nI (P.idxOf jA) < nI (P.idxOf (jA + 1)) then nI (P.idxOf jA) else nI (P.idxOf (jA + 1)))))]) hx hb_ dX12_isCrossed_149 hl (k := 7) rfl (by rw [ei3]; rfl) (by decide) rfl (fun ls hl => ?_)
                        refine lv_goto (tgt := 68) hx hb_ dX12_isCrossed_152 (by decide) ?_
                        exact ihB (tB + 1) i3 (by rw [ei3, eiB, show (2 : Int32) = nI 2 from rfl, nI_add]; congr 1; omega) (by omega) (by omega) (fun t_ ht => (Nat.lt_or_ge t_ tB).elim (fun q_ => hin t_ q_) (fun q_ => by have e_ := (show t_ = tB by omega); subst e_; exact hone)) _ _ hw ls (lv_sub hl [3, 4, 5, 6, 7, 0] rfl)
          exact JB (n_ + 1) 0 _ (by rw [eiA, show (2 : Int32) = nI 2 from rfl, nI_add]) (Nat.zero_le _) (by omega) (fun t_ ht => absurd ht (Nat.not_lt_zero t_)) _ _ hw ls (lv_sub hl [3, 4, 5, 2, 1, 0] rfl)
  exact JA (n_ + 1) 0 0 nI_0.symm (Nat.zero_le _) (by omega) (fun i_ hi_ => absurd hi_ (Nat.not_lt_zero i_)) _ _ hw ls (lv_sub hl [1, 2, 0] rfl)
