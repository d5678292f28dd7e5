
theorem nd_app {pre : List Nat} {l : Nat} (h : pre.Nodup) (hl : l ∉ pre) : (pre ++ [l]).Nodup := by
  rw [List.nodup_append]
  refine ⟨h, by simp, fun a ha b hb => ?_⟩
  rw [List.mem_singleton] at hb
  exact fun z => hl (by rw [← hb, ← z]; exact ha)
theorem ix_app {pre : List Nat} {x l : Nat} (h : x ∈ pre) : (pre ++ [l]).idxOf x = pre.idxOf x := by rw [List.idxOf_append, if_pos h]
theorem ix_new {pre : List Nat} {l : Nat} (h : l ∉ pre) : (pre ++ [l]).idxOf l = pre.length := by rw [List.idxOf_append, if_neg h]; simp
theorem gd_app {pre : List Nat} {l k : Nat} (h : k < pre.length) : (pre ++ [l]).getD k 0 = pre.getD k 0 := by
  rw [List.getD_eq_getElem?_getD, List.getD_eq_getElem?_getD, List.getElem?_append_left h]
theorem gd_new {pre : List Nat} {l : Nat} : (pre ++ [l]).getD pre.length 0 = l := by simp [List.getD_eq_getElem?_getD]

set_option maxHeartbeats 1000000 in
set_option maxRecDepth 100000 in
theorem c_X12_goes_0 (lau : Launch) (cD : va_G) (cy : Nat → ClassId) (sz_ : Nat) (r_ : Nat → Nat) (S_ : zS) (hSh : ShM S_ r_) (n_ cn ee un : Nat) (pre : List Nat) (hd : pre.length + 0 = 8) (hn : n_ ≤ 8) (hlen : pre.length + ee = n_) (hu : un < 256) (hub : ∀ k_, k_ < 8 → nbit un k_ = decide (k_ ∈ pre)) (hnd : pre.Nodup) (hb8 : ∀ x_, x_ ∈ pre → x_ < n_) (hcc : zI S_ 1250 (r_ 0) = nI cn) (hct : cn + (mG n_ ee pre).length ≤ 1392) (hlf : ∀ k_, k_ < pre.length → zA S_ (r_ 46) k_ = nI (pre.getD k_ 0)) (hat : ∀ x_, x_ ∈ pre → zA S_ (r_ 47) x_ = nI (pre.idxOf x_)) : Met lau yX12_goes wsX12_goes ({ frames := 1, cells := 0, slots := 0, locals := 27 } : Room) (va_Pc [.ref (r_ 0), .int (nI pre.length), .int (nI n_), .int (nI un)] (zPre cD cy S_ sz_)) (va_Qv (fun (S1 : zS) => ∃ lf av fo : Nat → Int32, S1 = zsI (zsA (zsA (zsA S_ (r_ 46) lf) (r_ 47) av) (r_ 48) fo) 1250 (r_ 0) (nI (cn + (mG n_ ee pre).length)) ∧ (∀ k_, k_ < pre.length → lf k_ = zA S_ (r_ 46) k_) ∧ (∀ x_, x_ ∈ pre → av x_ = zA S_ (r_ 47) x_) ∧ (∀ k_, k_ < 8 * cn → fo k_ = zA S_ (r_ 48) k_) ∧ (∀ i_, i_ < (mG n_ ee pre).length → ∀ k_, k_ < n_ → fo (8 * (cn + i_) + k_) = nI (((mG n_ ee pre).getD i_ []).getD k_ 0))) (zPost cD cy (zAd cy S_ sz_)) (zAd cy S_ sz_)) 0 0 (zAd cy S_ sz_) := by
  refine z_ofW (cc := cX12_goes) (maxL := 5) (ret := none) (own := RX12) (QQ := fun A_ => va_Qv (fun (S1 : zS) => ∃ lf av fo : Nat → Int32, S1 = zsI (zsA (zsA (zsA S_ (r_ 46) lf) (r_ 47) av) (r_ 48) fo) 1250 (r_ 0) (nI (cn + (mG n_ ee pre).length)) ∧ (∀ k_, k_ < pre.length → lf k_ = zA S_ (r_ 46) k_) ∧ (∀ x_, x_ ∈ pre → av x_ = zA S_ (r_ 47) x_) ∧ (∀ k_, k_ < 8 * cn → fo k_ = zA S_ (r_ 48) k_) ∧ (∀ i_, i_ < (mG n_ ee pre).length → ∀ k_, k_ < n_ → fo (8 * (cn + i_) + k_) = nI (((mG n_ ee pre).getD i_ []).getD k_ 0))) (zPost cD cy A_) A_) (by decide) rfl rfl (Nat.le_of_ble_eq_true rfl) ?_
  intro p_ e_ s_ m_ args_ below_ meth_ c_ A_ ls hcf hr hlk hnm hK_ hE hw hA hl
  obtain ⟨hx, hb_, hml, hown, hts⟩ := id hcf
  have hin12 : ∀ w_ ∈ wsX120, w_ ∈ wsX12_goes := fun w_ h_ => (List.mem_cons_of_mem _ (List.mem_append_right _ h_))
  have hl : lv_has ls 5 [(0, .ref (r_ 0)), (1, .int (nI pre.length)), (2, .int (nI n_)), (3, .int (nI un))] := hl
  have hSh0 := hSh
  cases ee with
  | zero =>
    have hall : ∀ k_, k_ < n_ → k_ ∈ pre := fun k_ hk => nd_all hnd hb8 (by omega) hk
    refine lv_iload_n hx hb_ dX12_goes_0 rfl (lv_at hl 1 rfl) ?_
    refine lv_iload_n hx hb_ dX12_goes_1 rfl (lv_at hl 2 rfl) ?_
    refine lv_icmp_ne (tgt := 62) hx hb_ dX12_goes_2 (by decide) (fun c_2 => absurd c_2 (fun q_ => q_ (congrArg nI (by omega)))) (fun c_2 => ?_)
    refine lv_aload_n hx hb_ dX12_goes_5 rfl (lv_at hl 0 rfl) ?_
    refine lv_iload_n hx hb_ dX12_goes_6 rfl (lv_at hl 2 rfl) ?_
    refine z_ki hw hA (va_runV (As := [.int (nI n_)]) (rest := []) hcf (c_X12_isCrossed lau cD cy _ r_ S_ hSh n_ pre hn (by omega) hall (fun k_ hk => hat k_ (hall k_ hk))) (cwV 1 hts gX12_goes_X12_isCrossed rfl rfl rfl (by decide +kernel) ⟨Nat.le_of_ble_eq_true rfl, Nat.le_of_ble_eq_true rfl⟩) (z_preV (k := 12) hK_ hE hw (mL hSh 0) (mK hSh 0) (by decide) rfl) rfl rfl hl.1 rfl (lv_room (Nat.le_of_ble_eq_true rfl)) dX12_goes_7 ⟨Nat.le_of_ble_eq_true rfl, Nat.le_of_ble_eq_true rfl⟩) (fun v1 S2 H_ locs_ hp hw => ?_)
    obtain ⟨hv1, rfl⟩ := hp
    refine lv_if_eq (tgt := 14) hx hb_ dX12_goes_10 (by decide) (fun c_10 => ?_) (fun c_10 => ?_)
    · have hG : mG n_ 0 pre = [pre] := by rw [mG]; exact if_pos (Classical.byContradiction fun q_ => absurd c_10 (by rw [hv1, if_neg q_]; decide))
      have hcn : cn + 1 ≤ 1392 := by rw [hG] at hct; exact hct
      refine lv_iconst (v := 0) hx hb_ dX12_goes_14 (by decide) ?_
      refine lv_istore (lv' := [(4, .int 0), (0, .ref (r_ 0)), (1, .int (nI pre.length)), (2, .int (nI n_)), (3, .int (nI un))]) hx hb_ dX12_goes_15 hl (by decide) rfl (fun ls hl => ?_)
      have JD : ∀ (nD jD : Nat) (iD : Int32), iD = nI jD → jD ≤ n_ → n_ < jD + nD → ∀ (fo : Nat → Int32), (∀ k_, k_ < 8 * cn → fo k_ = zA S_ (r_ 48) k_) → (∀ k_, k_ < jD → fo (8 * cn + k_) = nI (pre.getD k_ 0)) → ∀ (H_ : Heap) (locs_ : List Loc), zPw cD cy A_ s_.heap (zsA S_ (r_ 48) fo) H_ locs_ → ∀ ls : Array Slot, lv_has ls 5 [(0, .ref (r_ 0)), (1, .int (nI pre.length)), (2, .int (nI n_)), (3, .int (nI un)), (4, .int iD)] → W p_ lau e_ ({ frames := 1, cells := 0, slots := 0, locals := 27 } : Room) s_ m_ args_ below_ meth_ c_ H_ locs_ 0 0 (MQ below_ (va_Qv (fun (S1 : zS) => ∃ lf av fo : Nat → Int32, S1 = zsI (zsA (zsA (zsA S_ (r_ 46) lf) (r_ 47) av) (r_ 48) fo) 1250 (r_ 0) (nI (cn + (mG n_ 0 pre).length)) ∧ (∀ k_, k_ < pre.length → lf k_ = zA S_ (r_ 46) k_) ∧ (∀ x_, x_ ∈ pre → av x_ = zA S_ (r_ 47) x_) ∧ (∀ k_, k_ < 8 * cn → fo k_ = zA S_ (r_ 48) k_) ∧ (∀ i_, i_ < (mG n_ 0 pre).length → ∀ k_, k_ < n_ → fo (8 * (cn + i_) + k_) = nI (((mG n_ 0 pre).getD i_ []).getD k_ 0))) (zPost cD cy A_) A_) args_ s_ 0 0 A_) (F0 m_ 17 ls []) := by
        intro nD
        induction nD with
        | zero => intro jD iD _ hjD h_; exact absurd h_ (by omega)
        | succ nD ihD =>
          intro jD iD eiD hjD hmD fo hf1 hf2 H_ locs_ hw ls hl
          have hSh : ShM (zsA S_ (r_ 48) fo) r_ := (sh_AM hSh0)
          refine lv_iload hx hb_ dX12_goes_17 (lv_at hl 4 rfl) ?_
          refine lv_iload_n hx hb_ dX12_goes_19 rfl (lv_at hl 2 rfl) ?_
          refine lv_icmp_ge (tgt := 51) hx hb_ dX12_goes_20 (by decide) (fun c_20 => ?_) (fun c_20 => ?_)
          · refine lv_aload_n hx hb_ dX12_goes_51 rfl (lv_at hl 0 rfl) ?_
            refine lv_dup hx hb_ dX12_goes_52 rfl ?_
            refine z_get (k := 12) (i := 50) (j := 1250) (v := .int (nI cn)) (ref := "FoldedInHalfModel") (C := RX12) (T := TX12) (N := 56) hcf hK_ hw hin12 (mL hSh 0) (mK hSh 0) rfl (by decide) (by decide) rfl rfl (congrArg Value.int hcc) (List.mem_of_getElem? (i := 2) rfl) (fun _ h_ => h_) dX12_goes_53 ?_
            refine lv_iconst (v := 1) hx hb_ dX12_goes_56 (by decide) ?_
            refine lv_iadd hx hb_ dX12_goes_57 ?_
            refine z_topi (y := (nI (cn + 1))) (nI_1 cn) ?_
            refine z_putI (k := 12) (i := 50) (j := 1250) (x := (nI (cn + 1))) (v := .int (nI (cn + 1))) (ty := .int) (ref := "FoldedInHalfModel") (C := RX12) (T := TX12) (N := 56) tyX12 hcf hK_ hw hin12 tyX12_ok nmX12 (mL hSh 0) (mK hSh 0) rfl (by decide) (by decide) rfl rfl (List.mem_of_getElem? (i := 2) rfl) (fun _ h_ => h_) rfl rfl (by decide +kernel) rfl rfl dX12_goes_58 (fun H_ locs_ hw => ?_)
            have hSh : ShM (zsI (zsA S_ (r_ 48) fo) 1250 (r_ 0) (nI (cn + 1))) r_ := (sh_IM (sh_AM hSh0))
            exact z_vret hcf hr hlk hw ((by have hj : jD = n_ := (by have := zn_ge eiD rfl (by omega) c_20; omega); rw [hG]; exact ⟨zA S_ (r_ 46), zA S_ (r_ 47), fo, by rw [zsA_self, zsA_self]; rfl, fun k_ hk => rfl, fun x_ hx => rfl, hf1, fun i_ hi_ k_ hk => by have e0 : i_ = 0 := (by simp at hi_; omega); subst e0; exact hf2 k_ (by omega)⟩)) dX12_goes_61
          · have hlt : jD < n_ := zn_lt eiD rfl (by omega) c_20
            refine lv_aload_n hx hb_ dX12_goes_23 rfl (lv_at hl 0 rfl) ?_
            refine z_get (k := 12) (i := 48) (j := 1248) (v := .ref (r_ 48)) (ref := "FoldedInHalfModel") (C := RX12) (T := TX12) (N := 56) hcf hK_ hw hin12 (mL hSh 0) (mK hSh 0) rfl (by decide) (by decide) rfl rfl (congrArg va_rf (mP hSh 48)) (List.mem_of_getElem? (i := 1) rfl) (fun _ h_ => h_) dX12_goes_24 ?_
            refine lv_bipush (v := 8) hx hb_ dX12_goes_27 (by decide) ?_
            refine lv_aload_n hx hb_ dX12_goes_29 rfl (lv_at hl 0 rfl) ?_
            refine z_get (k := 12) (i := 50) (j := 1250) (v := .int (nI cn)) (ref := "FoldedInHalfModel") (C := RX12) (T := TX12) (N := 56) hcf hK_ hw hin12 (mL hSh 0) (mK hSh 0) rfl (by decide) (by decide) rfl rfl (congrArg Value.int hcc) (List.mem_of_getElem? (i := 2) rfl) (fun _ h_ => h_) dX12_goes_30 ?_
            refine lv_imul hx hb_ dX12_goes_33 ?_
            refine lv_iload hx hb_ dX12_goes_34 (lv_at hl 4 rfl) ?_
            refine lv_iadd hx hb_ dX12_goes_36 ?_
            refine z_topi (y := (nI (8 * cn + jD))) (by rw [eiD, show (8 : Int32) * nI cn = nI (8 * cn) from pk_mul 8 cn, nI_add]) ?_
            refine lv_aload_n hx hb_ dX12_goes_37 rfl (lv_at hl 0 rfl) ?_
            refine z_get (k := 12) (i := 46) (j := 1246) (v := .ref (r_ 46)) (ref := "FoldedInHalfModel") (C := RX12) (T := TX12) (N := 56) hcf hK_ hw hin12 (mL hSh 0) (mK hSh 0) rfl (by decide) (by decide) rfl rfl (congrArg va_rf (mP hSh 46)) (List.mem_of_getElem? (i := 3) rfl) (fun _ h_ => h_) dX12_goes_38 ?_
            refine lv_iload hx hb_ dX12_goes_41 (lv_at hl 4 rfl) ?_
            refine z_iald (n := 8) hcf hK_ hw (mL hSh 46) (mK hSh 46) (mN hSh 46) (by rw [eiD]; exact vp_in_nI (by omega) (by decide)) dX12_goes_43 ?_
            refine z_topi (y := (nI (pre.getD jD 0))) (by rw [(show iD.toNatClampNeg = jD by rw [eiD]; exact nI_clamp (by omega))]; exact (congrFun (show zA (zsA S_ (r_ 48) fo) (r_ 46) = (zA S_ (r_ 46)) from (zA_ne _ _ (mNe hSh (i := 46) (j := 48) (by decide) (by decide) (by decide)))) jD).trans (hlf jD (by omega))) ?_
            refine z_iast (n := 11136) hcf hK_ hw (mL hSh 48) (mK hSh 48) (mN hSh 48) (vp_in_nI (by omega) (by decide)) dX12_goes_44 (fun H_ locs_ hw => ?_)
            obtain ⟨f3_, ef3⟩ : ∃ zz, zz = (upd (zA (zsA S_ (r_ 48) fo) (r_ 48)) ((nI (8 * cn + jD)) : Int32).toNatClampNeg (nI (pre.getD jD 0))) := ⟨_, rfl⟩
            rw [← ef3] at hw
            have hf3 : f3_ = upd fo ((8 * cn + jD)) (nI (pre.getD jD 0)) := by rw [ef3, (nI_clamp (show (8 * cn + jD) < 2 ^ 31 by omega)), show zA (zsA S_ (r_ 48) fo) (r_ 48) = _ from (zA_zsA _ _ _)]
            rw [zsA_zsA] at hw
            have hSh : ShM (zsA S_ (r_ 48) f3_) r_ := (sh_AM hSh0)
            obtain ⟨i4, ei4⟩ : ∃ y_ : Int32, y_ = iD + 1 := ⟨_, rfl⟩
            refine lv_iinc (v := i4) (lv' := [(4, .int i4), (0, .ref (r_ 0)), (1, .int (nI pre.length)), (2, .int (nI n_)), (3, .int (nI un))]) hx hb_ dX12_goes_45 hl (k := 4) rfl (by rw [ei4]; rfl) (by decide) rfl (fun ls hl => ?_)
            refine lv_goto (tgt := 17) hx hb_ dX12_goes_48 (by decide) ?_
            exact ihD (jD + 1) i4 (by rw [ei4, eiD]; exact nI_1 jD) hlt (by omega) f3_ (fun k_ hk => by rw [hf3, upd_no _ _ (by omega)]; exact hf1 k_ hk) (fun k_ hk => by rw [hf3]; exact (Nat.lt_or_ge k_ jD).elim (fun q_ => by rw [upd_no _ _ (by omega)]; exact hf2 k_ q_) (fun q_ => by have e_ := (show k_ = jD by omega); subst e_; exact upd_at _ _ _)) _ _ hw ls (lv_sub hl [1, 2, 3, 4, 0] rfl)
      exact JD (n_ + 1) 0 0 nI_0.symm (Nat.zero_le _) (by omega) (zA S_ (r_ 48)) (fun k_ hk => rfl) (fun k_ hk => absurd hk (Nat.not_lt_zero k_)) _ _ (by rw [zsA_self]; exact hw) ls (lv_sub hl [1, 2, 3, 4, 0] rfl)
    · exact z_vret hcf hr hlk hw ((by have hG : mG n_ 0 pre = [] := (by rw [mG]; exact if_neg (fun q_ => c_10 (by rw [hv1, if_pos q_]))); rw [hG]; exact ⟨zA S_ (r_ 46), zA S_ (r_ 47), zA S_ (r_ 48), by rw [zsA_self, zsA_self, zsA_self]; exact (zsI_self hcc).symm, fun k_ hk => rfl, fun x_ hx => rfl, fun k_ hk => rfl, fun i_ hi_ => absurd hi_ (Nat.not_lt_zero i_)⟩)) dX12_goes_13
  | succ ee =>
    exact absurd hlen (by omega)

set_option maxHeartbeats 1000000 in
set_option maxRecDepth 100000 in
theorem c_X12_goes_1 (lau : Launch) (cD : va_G) (cy : Nat → ClassId) (sz_ : Nat) (r_ : Nat → Nat) (S_ : zS) (hSh : ShM S_ r_) (n_ cn ee un : Nat) (pre : List Nat) (hd : pre.length + 1 = 8) (hn : n_ ≤ 8) (hlen : pre.length + ee = n_) (hu : un < 256) (hub : ∀ k_, k_ < 8 → nbit un k_ = decide (k_ ∈ pre)) (hnd : pre.Nodup) (hb8 : ∀ x_, x_ ∈ pre → x_ < n_) (hcc : zI S_ 1250 (r_ 0) = nI cn) (hct : cn + (mG n_ ee pre).length ≤ 1392) (hlf : ∀ k_, k_ < pre.length → zA S_ (r_ 46) k_ = nI (pre.getD k_ 0)) (hat : ∀ x_, x_ ∈ pre → zA S_ (r_ 47) x_ = nI (pre.idxOf x_)) : Met lau yX12_goes wsX12_goes ({ frames := 2, cells := 0, slots := 0, locals := 51 } : Room) (va_Pc [.ref (r_ 0), .int (nI pre.length), .int (nI n_), .int (nI un)] (zPre cD cy S_ sz_)) (va_Qv (fun (S1 : zS) => ∃ lf av fo : Nat → Int32, S1 = zsI (zsA (zsA (zsA S_ (r_ 46) lf) (r_ 47) av) (r_ 48) fo) 1250 (r_ 0) (nI (cn + (mG n_ ee pre).length)) ∧ (∀ k_, k_ < pre.length → lf k_ = zA S_ (r_ 46) k_) ∧ (∀ x_, x_ ∈ pre → av x_ = zA S_ (r_ 47) x_) ∧ (∀ k_, k_ < 8 * cn → fo k_ = zA S_ (r_ 48) k_) ∧ (∀ i_, i_ < (mG n_ ee pre).length → ∀ k_, k_ < n_ → fo (8 * (cn + i_) + k_) = nI (((mG n_ ee pre).getD i_ []).getD k_ 0))) (zPost cD cy (zAd cy S_ sz_)) (zAd cy S_ sz_)) 0 0 (zAd cy S_ sz_) := by
  refine z_ofW (cc := cX12_goes) (maxL := 5) (ret := none) (own := RX12) (QQ := fun A_ => va_Qv (fun (S1 : zS) => ∃ lf av fo : Nat → Int32, S1 = zsI (zsA (zsA (zsA S_ (r_ 46) lf) (r_ 47) av) (r_ 48) fo) 1250 (r_ 0) (nI (cn + (mG n_ ee pre).length)) ∧ (∀ k_, k_ < pre.length → lf k_ = zA S_ (r_ 46) k_) ∧ (∀ x_, x_ ∈ pre → av x_ = zA S_ (r_ 47) x_) ∧ (∀ k_, k_ < 8 * cn → fo k_ = zA S_ (r_ 48) k_) ∧ (∀ i_, i_ < (mG n_ ee pre).length → ∀ k_, k_ < n_ → fo (8 * (cn + i_) + k_) = nI (((mG n_ ee pre).getD i_ []).getD k_ 0))) (zPost cD cy A_) A_) (by decide) rfl rfl (Nat.le_of_ble_eq_true rfl) ?_
  intro p_ e_ s_ m_ args_ below_ meth_ c_ A_ ls hcf hr hlk hnm hK_ hE hw hA hl
  obtain ⟨hx, hb_, hml, hown, hts⟩ := id hcf
  have hin12 : ∀ w_ ∈ wsX120, w_ ∈ wsX12_goes := fun w_ h_ => (List.mem_cons_of_mem _ (List.mem_append_right _ h_))
  have hl : lv_has ls 5 [(0, .ref (r_ 0)), (1, .int (nI pre.length)), (2, .int (nI n_)), (3, .int (nI un))] := hl
  have hSh0 := hSh
  cases ee with
  | zero =>
    have hall : ∀ k_, k_ < n_ → k_ ∈ pre := fun k_ hk => nd_all hnd hb8 (by omega) hk
    refine lv_iload_n hx hb_ dX12_goes_0 rfl (lv_at hl 1 rfl) ?_
    refine lv_iload_n hx hb_ dX12_goes_1 rfl (lv_at hl 2 rfl) ?_
    refine lv_icmp_ne (tgt := 62) hx hb_ dX12_goes_2 (by decide) (fun c_2 => absurd c_2 (fun q_ => q_ (congrArg nI (by omega)))) (fun c_2 => ?_)
    refine lv_aload_n hx hb_ dX12_goes_5 rfl (lv_at hl 0 rfl) ?_
    refine lv_iload_n hx hb_ dX12_goes_6 rfl (lv_at hl 2 rfl) ?_
    refine z_ki hw hA (va_runV (As := [.int (nI n_)]) (rest := []) hcf (c_X12_isCrossed lau cD cy _ r_ S_ hSh n_ pre hn (by omega) hall (fun k_ hk => hat k_ (hall k_ hk))) (cwV 1 hts gX12_goes_X12_isCrossed rfl rfl rfl (by decide +kernel) ⟨Nat.le_of_ble_eq_true rfl, Nat.le_of_ble_eq_true rfl⟩) (z_preV (k := 12) hK_ hE hw (mL hSh 0) (mK hSh 0) (by decide) rfl) rfl rfl hl.1 rfl (lv_room (Nat.le_of_ble_eq_true rfl)) dX12_goes_7 ⟨Nat.le_of_ble_eq_true rfl, Nat.le_of_ble_eq_true rfl⟩) (fun v1 S2 H_ locs_ hp hw => ?_)
    obtain ⟨hv1, rfl⟩ := hp
    refine lv_if_eq (tgt := 14) hx hb_ dX12_goes_10 (by decide) (fun c_10 => ?_) (fun c_10 => ?_)
    · have hG : mG n_ 0 pre = [pre] := by rw [mG]; exact if_pos (Classical.byContradiction fun q_ => absurd c_10 (by rw [hv1, if_neg q_]; decide))
      have hcn : cn + 1 ≤ 1392 := by rw [hG] at hct; exact hct
      refine lv_iconst (v := 0) hx hb_ dX12_goes_14 (by decide) ?_
      refine lv_istore (lv' := [(4, .int 0), (0, .ref (r_ 0)), (1, .int (nI pre.length)), (2, .int (nI n_)), (3, .int (nI un))]) hx hb_ dX12_goes_15 hl (by decide) rfl (fun ls hl => ?_)
      have JD : ∀ (nD jD : Nat) (iD : Int32), iD = nI jD → jD ≤ n_ → n_ < jD + nD → ∀ (fo : Nat → Int32), (∀ k_, k_ < 8 * cn → fo k_ = zA S_ (r_ 48) k_) → (∀ k_, k_ < jD → fo (8 * cn + k_) = nI (pre.getD k_ 0)) → ∀ (H_ : Heap) (locs_ : List Loc), zPw cD cy A_ s_.heap (zsA S_ (r_ 48) fo) H_ locs_ → ∀ ls : Array Slot, lv_has ls 5 [(0, .ref (r_ 0)), (1, .int (nI pre.length)), (2, .int (nI n_)), (3, .int (nI un)), (4, .int iD)] → W p_ lau e_ ({ frames := 2, cells := 0, slots := 0, locals := 51 } : Room) s_ m_ args_ below_ meth_ c_ H_ locs_ 0 0 (MQ below_ (va_Qv (fun (S1 : zS) => ∃ lf av fo : Nat → Int32, S1 = zsI (zsA (zsA (zsA S_ (r_ 46) lf) (r_ 47) av) (r_ 48) fo) 1250 (r_ 0) (nI (cn + (mG n_ 0 pre).length)) ∧ (∀ k_, k_ < pre.length → lf k_ = zA S_ (r_ 46) k_) ∧ (∀ x_, x_ ∈ pre → av x_ = zA S_ (r_ 47) x_) ∧ (∀ k_, k_ < 8 * cn → fo k_ = zA S_ (r_ 48) k_) ∧ (∀ i_, i_ < (mG n_ 0 pre).length → ∀ k_, k_ < n_ → fo (8 * (cn + i_) + k_) = nI (((mG n_ 0 pre).getD i_ []).getD k_ 0))) (zPost cD cy A_) A_) args_ s_ 0 0 A_) (F0 m_ 17 ls []) := by
        intro nD
        induction nD with
        | zero => intro jD iD _ hjD h_; exact absurd h_ (by omega)
        | succ nD ihD =>
          intro jD iD eiD hjD hmD fo hf1 hf2 H_ locs_ hw ls hl
          have hSh : ShM (zsA S_ (r_ 48) fo) r_ := (sh_AM hSh0)
          refine lv_iload hx hb_ dX12_goes_17 (lv_at hl 4 rfl) ?_
          refine lv_iload_n hx hb_ dX12_goes_19 rfl (lv_at hl 2 rfl) ?_
          refine lv_icmp_ge (tgt := 51) hx hb_ dX12_goes_20 (by decide) (fun c_20 => ?_) (fun c_20 => ?_)
          · refine lv_aload_n hx hb_ dX12_goes_51 rfl (lv_at hl 0 rfl) ?_
            refine lv_dup hx hb_ dX12_goes_52 rfl ?_
            refine z_get (k := 12) (i := 50) (j := 1250) (v := .int (nI cn)) (ref := "FoldedInHalfModel") (C := RX12) (T := TX12) (N := 56) hcf hK_ hw hin12 (mL hSh 0) (mK hSh 0) rfl (by decide) (by decide) rfl rfl (congrArg Value.int hcc) (List.mem_of_getElem? (i := 2) rfl) (fun _ h_ => h_) dX12_goes_53 ?_
            refine lv_iconst (v := 1) hx hb_ dX12_goes_56 (by decide) ?_
            refine lv_iadd hx hb_ dX12_goes_57 ?_
            refine z_topi (y := (nI (cn + 1))) (nI_1 cn) ?_
            refine z_putI (k := 12) (i := 50) (j := 1250) (x := (nI (cn + 1))) (v := .int (nI (cn + 1))) (ty := .int) (ref := "FoldedInHalfModel") (C := RX12) (T := TX12) (N := 56) tyX12 hcf hK_ hw hin12 tyX12_ok nmX12 (mL hSh 0) (mK hSh 0) rfl (by decide) (by decide) rfl rfl (List.mem_of_getElem? (i := 2) rfl) (fun _ h_ => h_) rfl rfl (by decide +kernel) rfl rfl dX12_goes_58 (fun H_ locs_ hw => ?_)
            have hSh : ShM (zsI (zsA S_ (r_ 48) fo) 1250 (r_ 0) (nI (cn + 1))) r_ := (sh_IM (sh_AM hSh0))
            exact z_vret hcf hr hlk hw ((by have hj : jD = n_ := (by have := zn_ge eiD rfl (by omega) c_20; omega); rw [hG]; exact ⟨zA S_ (r_ 46), zA S_ (r_ 47), fo, by rw [zsA_self, zsA_self]; rfl, fun k_ hk => rfl, fun x_ hx => rfl, hf1, fun i_ hi_ k_ hk => by have e0 : i_ = 0 := (by simp at hi_; omega); subst e0; exact hf2 k_ (by omega)⟩)) dX12_goes_61
          · have hlt : jD < n_ := zn_lt eiD rfl (by omega) c_20
            refine lv_aload_n hx hb_ dX12_goes_23 rfl (lv_at hl 0 rfl) ?_
            refine z_get (k := 12) (i := 48) (j := 1248) (v := .ref (r_ 48)) (ref := "FoldedInHalfModel") (C := RX12) (T := TX12) (N := 56) hcf hK_ hw hin12 (mL hSh 0) (mK hSh 0) rfl (by decide) (by decide) rfl rfl (congrArg va_rf (mP hSh 48)) (List.mem_of_getElem? (i := 1) rfl) (fun _ h_ => h_) dX12_goes_24 ?_
            refine lv_bipush (v := 8) hx hb_ dX12_goes_27 (by decide) ?_
            refine lv_aload_n hx hb_ dX12_goes_29 rfl (lv_at hl 0 rfl) ?_
            refine z_get (k := 12) (i := 50) (j := 1250) (v := .int (nI cn)) (ref := "FoldedInHalfModel") (C := RX12) (T := TX12) (N := 56) hcf hK_ hw hin12 (mL hSh 0) (mK hSh 0) rfl (by decide) (by decide) rfl rfl (congrArg Value.int hcc) (List.mem_of_getElem? (i := 2) rfl) (fun _ h_ => h_) dX12_goes_30 ?_
            refine lv_imul hx hb_ dX12_goes_33 ?_
            refine lv_iload hx hb_ dX12_goes_34 (lv_at hl 4 rfl) ?_
            refine lv_iadd hx hb_ dX12_goes_36 ?_
            refine z_topi (y := (nI (8 * cn + jD))) (by rw [eiD, show (8 : Int32) * nI cn = nI (8 * cn) from pk_mul 8 cn, nI_add]) ?_
            refine lv_aload_n hx hb_ dX12_goes_37 rfl (lv_at hl 0 rfl) ?_
            refine z_get (k := 12) (i := 46) (j := 1246) (v := .ref (r_ 46)) (ref := "FoldedInHalfModel") (C := RX12) (T := TX12) (N := 56) hcf hK_ hw hin12 (mL hSh 0) (mK hSh 0) rfl (by decide) (by decide) rfl rfl (congrArg va_rf (mP hSh 46)) (List.mem_of_getElem? (i := 3) rfl) (fun _ h_ => h_) dX12_goes_38 ?_
            refine lv_iload hx hb_ dX12_goes_41 (lv_at hl 4 rfl) ?_
            refine z_iald (n := 8) hcf hK_ hw (mL hSh 46) (mK hSh 46) (mN hSh 46) (by rw [eiD]; exact vp_in_nI (by omega) (by decide)) dX12_goes_43 ?_
            refine z_topi (y := (nI (pre.getD jD 0))) (by rw [(show iD.toNatClampNeg = jD by rw [eiD]; exact nI_clamp (by omega))]; exact (congrFun (show zA (zsA S_ (r_ 48) fo) (r_ 46) = (zA S_ (r_ 46)) from (zA_ne _ _ (mNe hSh (i := 46) (j := 48) (by decide) (by decide) (by decide)))) jD).trans (hlf jD (by omega))) ?_
            refine z_iast (n := 11136) hcf hK_ hw (mL hSh 48) (mK hSh 48) (mN hSh 48) (vp_in_nI (by omega) (by decide)) dX12_goes_44 (fun H_ locs_ hw => ?_)
            obtain ⟨f3_, ef3⟩ : ∃ zz, zz = (upd (zA (zsA S_ (r_ 48) fo) (r_ 48)) ((nI (8 * cn + jD)) : Int32).toNatClampNeg (nI (pre.getD jD 0))) := ⟨_, rfl⟩
            rw [← ef3] at hw
            have hf3 : f3_ = upd fo ((8 * cn + jD)) (nI (pre.getD jD 0)) := by rw [ef3, (nI_clamp (show (8 * cn + jD) < 2 ^ 31 by omega)), show zA (zsA S_ (r_ 48) fo) (r_ 48) = _ from (zA_zsA _ _ _)]
            rw [zsA_zsA] at hw
            have hSh : ShM (zsA S_ (r_ 48) f3_) r_ := (sh_AM hSh0)
            obtain ⟨i4, ei4⟩ : ∃ y_ : Int32, y_ = iD + 1 := ⟨_, rfl⟩
            refine lv_iinc (v := i4) (lv' := [(4, .int i4), (0, .ref (r_ 0)), (1, .int (nI pre.length)), (2, .int (nI n_)), (3, .int (nI un))]) hx hb_ dX12_goes_45 hl (k := 4) rfl (by rw [ei4]; rfl) (by decide) rfl (fun ls hl => ?_)
            refine lv_goto (tgt := 17) hx hb_ dX12_goes_48 (by decide) ?_
            exact ihD (jD + 1) i4 (by rw [ei4, eiD]; exact nI_1 jD) hlt (by omega) f3_ (fun k_ hk => by rw [hf3, upd_no _ _ (by omega)]; exact hf1 k_ hk) (fun k_ hk => by rw [hf3]; exact (Nat.lt_or_ge k_ jD).elim (fun q_ => by rw [upd_no _ _ (by omega)]; exact hf2 k_ q_) (fun q_ => by have e_ := (show k_ = jD by omega); subst e_; exact upd_at _ _ _)) _ _ hw ls (lv_sub hl [1, 2, 3, 4, 0] rfl)
      exact JD (n_ + 1) 0 0 nI_0.symm (Nat.zero_le _) (by omega) (zA S_ (r_ 48)) (fun k_ hk => rfl) (fun k_ hk => absurd hk (Nat.not_lt_zero k_)) _ _ (by rw [zsA_self]; exact hw) ls (lv_sub hl [1, 2, 3, 4, 0] rfl)
    · exact z_vret hcf hr hlk hw ((by have hG : mG n_ 0 pre = [] := (by rw [mG]; exact if_neg (fun q_ => c_10 (by rw [hv1, if_pos q_]))); rw [hG]; exact ⟨zA S_ (r_ 46), zA S_ (r_ 47), zA S_ (r_ 48), by rw [zsA_self, zsA_self, zsA_self]; exact (zsI_self hcc).symm, fun k_ hk => rfl, fun x_ hx => rfl, fun k_ hk => rfl, fun i_ hi_ => absurd hi_ (Nat.not_lt_zero i_)⟩)) dX12_goes_13
  | succ ee =>
    refine lv_iload_n hx hb_ dX12_goes_0 rfl (lv_at hl 1 rfl) ?_
    refine lv_iload_n hx hb_ dX12_goes_1 rfl (lv_at hl 2 rfl) ?_
    refine lv_icmp_ne (tgt := 62) hx hb_ dX12_goes_2 (by decide) (fun c_2 => ?_) (fun c_2 => absurd c_2 (fun q_ => absurd ((nI_eq (by omega) (by omega)).mp q_) (by omega)))
    refine lv_iconst (v := 0) hx hb_ dX12_goes_62 (by decide) ?_
    refine lv_istore (lv' := [(4, .int 0), (0, .ref (r_ 0)), (1, .int (nI pre.length)), (2, .int (nI n_)), (3, .int (nI un))]) hx hb_ dX12_goes_63 hl (by decide) rfl (fun ls hl => ?_)
    have JA : ∀ (nA jA : Nat) (iA : Int32), iA = nI jA → jA ≤ n_ → n_ < jA + nA → ∀ (lf av fo : Nat → Int32) (T : List (List Nat)), T = (List.range jA).flatMap (mGf n_ ee pre) → (∀ k_, k_ < pre.length → lf k_ = nI (pre.getD k_ 0)) → (∀ x_, x_ ∈ pre → av x_ = nI (pre.idxOf x_)) → (∀ k_, k_ < 8 * cn → fo k_ = zA S_ (r_ 48) k_) → (∀ i_, i_ < T.length → ∀ k_, k_ < n_ → fo (8 * (cn + i_) + k_) = nI ((T.getD i_ []).getD k_ 0)) → ∀ (H_ : Heap) (locs_ : List Loc), zPw cD cy A_ s_.heap (zsI (zsA (zsA (zsA S_ (r_ 46) lf) (r_ 47) av) (r_ 48) fo) 1250 (r_ 0) (nI (cn + T.length))) H_ locs_ → ∀ ls : Array Slot, lv_has ls 5 [(0, .ref (r_ 0)), (1, .int (nI pre.length)), (2, .int (nI n_)), (3, .int (nI un)), (4, .int iA)] → W p_ lau e_ ({ frames := 2, cells := 0, slots := 0, locals := 51 } : Room) s_ m_ args_ below_ meth_ c_ H_ locs_ 0 0 (MQ below_ (va_Qv (fun (S1 : zS) => ∃ lf av fo : Nat → Int32, S1 = zsI (zsA (zsA (zsA S_ (r_ 46) lf) (r_ 47) av) (r_ 48) fo) 1250 (r_ 0) (nI (cn + (mG n_ (ee + 1) pre).length)) ∧ (∀ k_, k_ < pre.length → lf k_ = zA S_ (r_ 46) k_) ∧ (∀ x_, x_ ∈ pre → av x_ = zA S_ (r_ 47) x_) ∧ (∀ k_, k_ < 8 * cn → fo k_ = zA S_ (r_ 48) k_) ∧ (∀ i_, i_ < (mG n_ (ee + 1) pre).length → ∀ k_, k_ < n_ → fo (8 * (cn + i_) + k_) = nI (((mG n_ (ee + 1) pre).getD i_ []).getD k_ 0))) (zPost cD cy A_) A_) args_ s_ 0 0 A_) (F0 m_ 65 ls []) := by
      intro nA
      induction nA with
      | zero => intro jA iA _ hjA h_; exact absurd h_ (by omega)
      | succ nA ihA =>
        intro jA iA eiA hjA hmA lf av fo T hT hk1 hk2 hk3 hk4 H_ locs_ hw ls hl
        subst eiA
        have hSh : ShM (zsI (zsA (zsA (zsA S_ (r_ 46) lf) (r_ 47) av) (r_ 48) fo) 1250 (r_ 0) (nI (cn + T.length))) r_ := (sh_IM (sh_AM (sh_AM (sh_AM hSh0))))
        refine lv_iload hx hb_ dX12_goes_65 (lv_at hl 4 rfl) ?_
        refine lv_iload_n hx hb_ dX12_goes_67 rfl (lv_at hl 2 rfl) ?_
        refine lv_icmp_ge (tgt := 120) hx hb_ dX12_goes_68 (by decide) (fun c_68 => ?_) (fun c_68 => ?_)
        · exact z_vret hcf hr hlk hw ((by have hj : jA = n_ := (by have := zn_ge rfl rfl (by omega) c_68; omega); have hTG : T = mG n_ (ee + 1) pre := (by rw [hT, hj]; rfl); exact ⟨lf, av, fo, by rw [hTG], fun k_ hk => (hk1 k_ hk).trans (hlf k_ hk).symm, fun x_ hx => (hk2 x_ hx).trans (hat x_ hx).symm, hk3, by rw [← hTG]; exact hk4⟩)) dX12_goes_120
        · have hlt : jA < n_ := zn_lt rfl rfl (by omega) c_68
          have hle : T.length + (mGf n_ ee pre jA).length ≤ (mG n_ (ee + 1) pre).length := by have := rg_le (mGf n_ ee pre) (show jA + 1 ≤ n_ by omega); rw [rg_fm, List.length_append, ← hT, ← mG_eq] at this; exact this
          refine lv_iload_n hx hb_ dX12_goes_71 rfl (lv_at hl 3 rfl) ?_
          refine lv_iload hx hb_ dX12_goes_72 (lv_at hl 4 rfl) ?_
          refine lv_ishr hx hb_ dX12_goes_74 ?_
          refine lv_iconst (v := 1) hx hb_ dX12_goes_75 (by decide) ?_
          refine lv_iand hx hb_ dX12_goes_76 ?_
          refine lv_iconst (v := 1) hx hb_ dX12_goes_77 (by decide) ?_
          refine lv_icmp_ne (tgt := 84) hx hb_ dX12_goes_78 (by decide) (fun c_78 => ?_) (fun c_78 => ?_)
          · have hnb : nbit un jA = false := by rw [← ub_s jA (by omega) un hu]; exact decide_eq_false c_78
            have hnm : jA ∉ pre := of_decide_eq_false (by rw [← hub jA (by omega)]; exact hnb)
            have hG : mGf n_ ee pre jA = mG n_ ee (pre ++ [jA]) := if_neg hnm
            have hut := ub_t jA (by omega) un hu hnb
            refine lv_aload_n hx hb_ dX12_goes_84 rfl (lv_at hl 0 rfl) ?_
            refine z_get (k := 12) (i := 46) (j := 1246) (v := .ref (r_ 46)) (ref := "FoldedInHalfModel") (C := RX12) (T := TX12) (N := 56) hcf hK_ hw hin12 (mL hSh 0) (mK hSh 0) rfl (by decide) (by decide) rfl rfl (congrArg va_rf (mP hSh 46)) (List.mem_of_getElem? (i := 3) rfl) (fun _ h_ => h_) dX12_goes_85 ?_
            refine lv_iload_n hx hb_ dX12_goes_88 rfl (lv_at hl 1 rfl) ?_
            refine lv_iload hx hb_ dX12_goes_89 (lv_at hl 4 rfl) ?_
            refine z_iast (n := 8) hcf hK_ hw (mL hSh 46) (mK hSh 46) (mN hSh 46) (vp_in_nI (by omega) (by decide)) dX12_goes_91 (fun H_ locs_ hw => ?_)
            obtain ⟨f4, ef4⟩ : ∃ zz, zz = (upd (zA (zsI (zsA (zsA (zsA S_ (r_ 46) lf) (r_ 47) av) (r_ 48) fo) 1250 (r_ 0) (nI (cn + T.length))) (r_ 46)) ((nI pre.length) : Int32).toNatClampNeg (nI jA)) := ⟨_, rfl⟩
            rw [← ef4] at hw
            have hf4 : f4 = upd lf pre.length (nI jA) := by rw [ef4, (nI_clamp (show pre.length < 2 ^ 31 by omega)), show zA (zsI (zsA (zsA (zsA S_ (r_ 46) lf) (r_ 47) av) (r_ 48) fo) 1250 (r_ 0) (nI (cn + T.length))) (r_ 46) = _ from (zA_I.trans ((zA_ne _ _ (mNe hSh (i := 46) (j := 48) (by decide) (by decide) (by decide))).trans ((zA_ne _ _ (mNe hSh (i := 46) (j := 47) (by decide) (by decide) (by decide))).trans (zA_zsA _ _ _))))]
            rw [zsA_zsI, zsA_comm _ _ _ (mNe hSh (i := 48) (j := 46) (by decide) (by decide) (by decide)), zsA_comm _ _ _ (mNe hSh (i := 47) (j := 46) (by decide) (by decide) (by decide)), zsA_zsA] at hw
            have hSh : ShM (zsI (zsA (zsA (zsA S_ (r_ 46) f4) (r_ 47) av) (r_ 48) fo) 1250 (r_ 0) (nI (cn + T.length))) r_ := (sh_IM (sh_AM (sh_AM (sh_AM hSh0))))
            refine lv_aload_n hx hb_ dX12_goes_92 rfl (lv_at hl 0 rfl) ?_
            refine z_get (k := 12) (i := 47) (j := 1247) (v := .ref (r_ 47)) (ref := "FoldedInHalfModel") (C := RX12) (T := TX12) (N := 56) hcf hK_ hw hin12 (mL hSh 0) (mK hSh 0) rfl (by decide) (by decide) rfl rfl (congrArg va_rf (mP hSh 47)) (List.mem_of_getElem? (i := 4) rfl) (fun _ h_ => h_) dX12_goes_93 ?_
            refine lv_iload hx hb_ dX12_goes_96 (lv_at hl 4 rfl) ?_
            refine lv_iload_n hx hb_ dX12_goes_98 rfl (lv_at hl 1 rfl) ?_
            refine z_iast (n := 8) hcf hK_ hw (mL hSh 47) (mK hSh 47) (mN hSh 47) (vp_in_nI (by omega) (by decide)) dX12_goes_99 (fun H_ locs_ hw => ?_)
            obtain ⟨f5, ef5⟩ : ∃ zz, zz = (upd (zA (zsI (zsA (zsA (zsA S_ (r_ 46) f4) (r_ 47) av) (r_ 48) fo) 1250 (r_ 0) (nI (cn + T.length))) (r_ 47)) ((nI jA) : Int32).toNatClampNeg (nI pre.length)) := ⟨_, rfl⟩
            rw [← ef5] at hw
            have hf5 : f5 = upd av jA (nI pre.length) := by rw [ef5, (nI_clamp (show jA < 2 ^ 31 by omega)), show zA (zsI (zsA (zsA (zsA S_ (r_ 46) f4) (r_ 47) av) (r_ 48) fo) 1250 (r_ 0) (nI (cn + T.length))) (r_ 47) = _ from (zA_I.trans ((zA_ne _ _ (mNe hSh (i := 47) (j := 48) (by decide) (by decide) (by decide))).trans (zA_zsA _ _ _)))]
            rw [zsA_zsI, zsA_comm _ _ _ (mNe hSh (i := 48) (j := 47) (by decide) (by decide) (by decide)), zsA_zsA] at hw
            have hSh : ShM (zsI (zsA (zsA (zsA S_ (r_ 46) f4) (r_ 47) f5) (r_ 48) fo) 1250 (r_ 0) (nI (cn + T.length))) r_ := (sh_IM (sh_AM (sh_AM (sh_AM hSh0))))
            refine lv_aload_n hx hb_ dX12_goes_100 rfl (lv_at hl 0 rfl) ?_
            refine lv_iload_n hx hb_ dX12_goes_101 rfl (lv_at hl 1 rfl) ?_
            refine lv_iconst (v := 1) hx hb_ dX12_goes_102 (by decide) ?_
            refine lv_iadd hx hb_ dX12_goes_103 ?_
            refine z_topi (y := (nI (pre ++ [jA]).length)) (by rw [nI_1, List.length_append]; rfl) ?_
            refine lv_iload_n hx hb_ dX12_goes_104 rfl (lv_at hl 2 rfl) ?_
            refine lv_iload_n hx hb_ dX12_goes_105 rfl (lv_at hl 3 rfl) ?_
            refine lv_iconst (v := 1) hx hb_ dX12_goes_106 (by decide) ?_
            refine lv_iload hx hb_ dX12_goes_107 (lv_at hl 4 rfl) ?_
            refine lv_ishl hx hb_ dX12_goes_109 ?_
            refine lv_ior hx hb_ dX12_goes_110 ?_
            refine z_topi (y := (nI (un + 2 ^ jA))) (hut.1) ?_
            refine z_kv hw hA (va_runV (As := [.int (nI (pre ++ [jA]).length), .int (nI n_), .int (nI (un + 2 ^ jA))]) (rest := []) hcf (c_X12_goes_0 lau cD cy _ r_ (zsI (zsA (zsA (zsA S_ (r_ 46) f4) (r_ 47) f5) (r_ 48) fo) 1250 (r_ 0) (nI (cn + T.length))) hSh n_ (cn + T.length) ee (un + 2 ^ jA) (pre ++ [jA]) (by rw [List.length_append, List.length_singleton]; omega) hn (by rw [List.length_append, List.length_singleton]; omega) hut.2.1 (fun k_ hk => by rw [hut.2.2 k_ hk, hub k_ hk]; by_cases q_ : k_ ∈ pre <;> by_cases q2 : k_ = jA <;> simp [q_, q2]) (nd_app hnd hnm) (fun x_ hx => (List.mem_append.mp hx).elim (fun q_ => hb8 x_ q_) (fun q_ => by rw [List.mem_singleton] at q_; omega)) zI_at (by rw [hG] at hle; omega) (fun k_ hk => by rw [congrFun (show zA (zsI (zsA (zsA (zsA S_ (r_ 46) f4) (r_ 47) f5) (r_ 48) fo) 1250 (r_ 0) (nI (cn + T.length))) (r_ 46) = f4 from (zA_I.trans ((zA_ne _ _ (mNe hSh (i := 46) (j := 48) (by decide) (by decide) (by decide))).trans ((zA_ne _ _ (mNe hSh (i := 46) (j := 47) (by decide) (by decide) (by decide))).trans (zA_zsA _ _ _))))) k_, hf4]; rw [List.length_append, List.length_singleton] at hk; exact (Decidable.em (k_ = pre.length)).elim (fun q_ => by rw [q_, upd_at, gd_new]) (fun q_ => by rw [upd_no _ _ q_, hk1 k_ (by omega), gd_app (by omega)])) (fun x_ hx => by rw [congrFun (show zA (zsI (zsA (zsA (zsA S_ (r_ 46) f4) (r_ 47) f5) (r_ 48) fo) 1250 (r_ 0) (nI (cn + T.length))) (r_ 47) = f5 from (zA_I.trans ((zA_ne _ _ (mNe hSh (i := 47) (j := 48) (by decide) (by decide) (by decide))).trans (zA_zsA _ _ _)))) x_, hf5]; exact (Decidable.em (x_ = jA)).elim (fun q_ => by rw [q_, upd_at, ix_new hnm]) (fun q_ => by have hx2 : x_ ∈ pre := ((List.mem_append.mp hx).elim id (fun z_ => absurd (List.mem_singleton.mp z_) q_)); rw [upd_no _ _ q_, hk2 x_ hx2, ix_app hx2]))) (cwV 3 hts gX12_goes_X12_goes rfl rfl rfl (by decide +kernel) ⟨Nat.le_of_ble_eq_true rfl, Nat.le_of_ble_eq_true rfl⟩) (z_preV (k := 12) hK_ hE hw (mL hSh 0) (mK hSh 0) (by decide) rfl) rfl rfl hl.1 rfl (lv_room (Nat.le_of_ble_eq_true rfl)) dX12_goes_111 ⟨Nat.le_of_ble_eq_true rfl, Nat.le_of_ble_eq_true rfl⟩) (fun S7 H_ locs_ hp hw => ?_)
            obtain ⟨lf2, av2, fo2, rfl, g1, g2, g3, g4⟩ := hp
            rw [zsA_zsI, zsA_comm _ _ _ (mNe hSh (i := 48) (j := 46) (by decide) (by decide) (by decide)), zsA_comm _ _ _ (mNe hSh (i := 47) (j := 46) (by decide) (by decide) (by decide)), zsA_zsA] at hw
            rw [zsA_zsI, zsA_comm _ _ _ (mNe hSh (i := 48) (j := 47) (by decide) (by decide) (by decide)), zsA_zsA] at hw
            rw [zsA_zsI, zsA_zsA] at hw
            rw [zsI_zsI] at hw
            have hSh : ShM (zsI (zsA (zsA (zsA S_ (r_ 46) lf2) (r_ 47) av2) (r_ 48) fo2) 1250 (r_ 0) (nI (cn + T.length + (mG n_ ee (pre ++ [jA])).length))) r_ := (sh_IM (sh_AM (sh_AM (sh_AM hSh0))))
            obtain ⟨i2_, ei2⟩ : ∃ y_ : Int32, y_ = (nI jA) + 1 := ⟨_, rfl⟩
            refine lv_iinc (v := i2_) (lv' := [(4, .int i2_), (0, .ref (r_ 0)), (1, .int (nI pre.length)), (2, .int (nI n_)), (3, .int (nI un))]) hx hb_ dX12_goes_114 hl (k := 4) rfl (by rw [ei2]; rfl) (by decide) rfl (fun ls hl => ?_)
            refine lv_goto (tgt := 65) hx hb_ dX12_goes_117 (by decide) ?_
            have ecc : cn + T.length + (mG n_ ee (pre ++ [jA])).length = cn + (T ++ mG n_ ee (pre ++ [jA])).length := by rw [List.length_append]; omega
            rw [ecc] at hw
            refine ihA (jA + 1) i2_ (by rw [ei2]; exact nI_1 jA) (by omega) (by omega) lf2 av2 fo2 (T ++ mG n_ ee (pre ++ [jA])) (by rw [rg_fm, hG, hT]) (fun k_ hk => ?_) (fun x_ hx => ?_) (fun k_ hk => ?_) (fun i_ hi_ k_ hk => ?_) _ _ hw ls (lv_sub hl [1, 2, 3, 4, 0] rfl)
            · rw [g1 k_ (by rw [List.length_append]; omega), congrFun (show zA (zsI (zsA (zsA (zsA S_ (r_ 46) f4) (r_ 47) f5) (r_ 48) fo) 1250 (r_ 0) (nI (cn + T.length))) (r_ 46) = f4 from (zA_I.trans ((zA_ne _ _ (mNe hSh (i := 46) (j := 48) (by decide) (by decide) (by decide))).trans ((zA_ne _ _ (mNe hSh (i := 46) (j := 47) (by decide) (by decide) (by decide))).trans (zA_zsA _ _ _))))) k_, hf4, upd_no _ _ (by omega)]; exact hk1 k_ hk
            · rw [g2 x_ (List.mem_append_left _ hx), congrFun (show zA (zsI (zsA (zsA (zsA S_ (r_ 46) f4) (r_ 47) f5) (r_ 48) fo) 1250 (r_ 0) (nI (cn + T.length))) (r_ 47) = f5 from (zA_I.trans ((zA_ne _ _ (mNe hSh (i := 47) (j := 48) (by decide) (by decide) (by decide))).trans (zA_zsA _ _ _)))) x_, hf5, upd_no _ _ (fun q_ => hnm (by rw [← q_]; exact hx))]; exact hk2 x_ hx
            · rw [g3 k_ (by omega), congrFun (show zA (zsI (zsA (zsA (zsA S_ (r_ 46) f4) (r_ 47) f5) (r_ 48) fo) 1250 (r_ 0) (nI (cn + T.length))) (r_ 48) = fo from (zA_I.trans (zA_zsA _ _ _))) k_]; exact hk3 k_ hk
            · rcases Nat.lt_or_ge i_ T.length with q_ | q_
              · rw [g3 _ (by omega), congrFun (show zA (zsI (zsA (zsA (zsA S_ (r_ 46) f4) (r_ 47) f5) (r_ 48) fo) 1250 (r_ 0) (nI (cn + T.length))) (r_ 48) = fo from (zA_I.trans (zA_zsA _ _ _))) _, hk4 i_ q_ k_ hk, List.getD_eq_getElem?_getD (l := T), List.getD_eq_getElem?_getD (l := T ++ _), List.getElem?_append_left q_]
              · rw [List.length_append] at hi_
                have := g4 (i_ - T.length) (by omega) k_ hk
                rw [show cn + T.length + (i_ - T.length) = cn + i_ by omega] at this
                rw [this, List.getD_eq_getElem?_getD (l := mG n_ ee (pre ++ [jA])), List.getD_eq_getElem?_getD (l := T ++ _), List.getElem?_append_right q_]
          · refine lv_goto (tgt := 114) hx hb_ dX12_goes_81 (by decide) ?_
            obtain ⟨i2_, ei2⟩ : ∃ y_ : Int32, y_ = (nI jA) + 1 := ⟨_, rfl⟩
            refine lv_iinc (v := i2_) (lv' := [(4, .int i2_), (0, .ref (r_ 0)), (1, .int (nI pre.length)), (2, .int (nI n_)), (3, .int (nI un))]) hx hb_ dX12_goes_114 hl (k := 4) rfl (by rw [ei2]; rfl) (by decide) rfl (fun ls hl => ?_)
            refine lv_goto (tgt := 65) hx hb_ dX12_goes_117 (by decide) ?_
            have hin : jA ∈ pre := of_decide_eq_true (by rw [← hub jA (by omega), ← ub_s jA (by omega) un hu]; exact decide_eq_true c_78)
            have hG : mGf n_ ee pre jA = [] := if_pos hin
            exact ihA (jA + 1) i2_ (by rw [ei2]; exact nI_1 jA) (by omega) (by omega) lf av fo T (by rw [rg_fm, hG, List.append_nil]; exact hT) hk1 hk2 hk3 hk4 _ _ hw ls (lv_sub hl [1, 2, 3, 4, 0] rfl)
    exact JA (n_ + 1) 0 0 nI_0.symm (Nat.zero_le _) (by omega) (zA S_ (r_ 46)) (zA S_ (r_ 47)) (zA S_ (r_ 48)) [] rfl hlf hat (fun k_ hk => rfl) (fun i_ hi_ => absurd hi_ (Nat.not_lt_zero i_)) _ _ (by rw [zsA_self, zsA_self, zsA_self, show cn + ([] : List (List Nat)).length = cn from rfl, zsI_self hcc]; exact hw) ls (lv_sub hl [1, 2, 3, 4, 0] rfl)

set_option maxHeartbeats 1000000 in
set_option maxRecDepth 100000 in
theorem c_X12_goes_2 (lau : Launch) (cD : va_G) (cy : Nat → ClassId) (sz_ : Nat) (r_ : Nat → Nat) (S_ : zS) (hSh : ShM S_ r_) (n_ cn ee un : Nat) (pre : List Nat) (hd : pre.length + 2 = 8) (hn : n_ ≤ 8) (hlen : pre.length + ee = n_) (hu : un < 256) (hub : ∀ k_, k_ < 8 → nbit un k_ = decide (k_ ∈ pre)) (hnd : pre.Nodup) (hb8 : ∀ x_, x_ ∈ pre → x_ < n_) (hcc : zI S_ 1250 (r_ 0) = nI cn) (hct : cn + (mG n_ ee pre).length ≤ 1392) (hlf : ∀ k_, k_ < pre.length → zA S_ (r_ 46) k_ = nI (pre.getD k_ 0)) (hat : ∀ x_, x_ ∈ pre → zA S_ (r_ 47) x_ = nI (pre.idxOf x_)) : Met lau yX12_goes wsX12_goes ({ frames := 3, cells := 0, slots := 0, locals := 75 } : Room) (va_Pc [.ref (r_ 0), .int (nI pre.length), .int (nI n_), .int (nI un)] (zPre cD cy S_ sz_)) (va_Qv (fun (S1 : zS) => ∃ lf av fo : Nat → Int32, S1 = zsI (zsA (zsA (zsA S_ (r_ 46) lf) (r_ 47) av) (r_ 48) fo) 1250 (r_ 0) (nI (cn + (mG n_ ee pre).length)) ∧ (∀ k_, k_ < pre.length → lf k_ = zA S_ (r_ 46) k_) ∧ (∀ x_, x_ ∈ pre → av x_ = zA S_ (r_ 47) x_) ∧ (∀ k_, k_ < 8 * cn → fo k_ = zA S_ (r_ 48) k_) ∧ (∀ i_, i_ < (mG n_ ee pre).length → ∀ k_, k_ < n_ → fo (8 * (cn + i_) + k_) = nI (((mG n_ ee pre).getD i_ []).getD k_ 0))) (zPost cD cy (zAd cy S_ sz_)) (zAd cy S_ sz_)) 0 0 (zAd cy S_ sz_) := by
  refine z_ofW (cc := cX12_goes) (maxL := 5) (ret := none) (own := RX12) (QQ := fun A_ => va_Qv (fun (S1 : zS) => ∃ lf av fo : Nat → Int32, S1 = zsI (zsA (zsA (zsA S_ (r_ 46) lf) (r_ 47) av) (r_ 48) fo) 1250 (r_ 0) (nI (cn + (mG n_ ee pre).length)) ∧ (∀ k_, k_ < pre.length → lf k_ = zA S_ (r_ 46) k_) ∧ (∀ x_, x_ ∈ pre → av x_ = zA S_ (r_ 47) x_) ∧ (∀ k_, k_ < 8 * cn → fo k_ = zA S_ (r_ 48) k_) ∧ (∀ i_, i_ < (mG n_ ee pre).length → ∀ k_, k_ < n_ → fo (8 * (cn + i_) + k_) = nI (((mG n_ ee pre).getD i_ []).getD k_ 0))) (zPost cD cy A_) A_) (by decide) rfl rfl (Nat.le_of_ble_eq_true rfl) ?_
  intro p_ e_ s_ m_ args_ below_ meth_ c_ A_ ls hcf hr hlk hnm hK_ hE hw hA hl
  obtain ⟨hx, hb_, hml, hown, hts⟩ := id hcf
  have hin12 : ∀ w_ ∈ wsX120, w_ ∈ wsX12_goes := fun w_ h_ => (List.mem_cons_of_mem _ (List.mem_append_right _ h_))
  have hl : lv_has ls 5 [(0, .ref (r_ 0)), (1, .int (nI pre.length)), (2, .int (nI n_)), (3, .int (nI un))] := hl
  have hSh0 := hSh
  cases ee with
  | zero =>
    have hall : ∀ k_, k_ < n_ → k_ ∈ pre := fun k_ hk => nd_all hnd hb8 (by omega) hk
    refine lv_iload_n hx hb_ dX12_goes_0 rfl (lv_at hl 1 rfl) ?_
    refine lv_iload_n hx hb_ dX12_goes_1 rfl (lv_at hl 2 rfl) ?_
    refine lv_icmp_ne (tgt := 62) hx hb_ dX12_goes_2 (by decide) (fun c_2 => absurd c_2 (fun q_ => q_ (congrArg nI (by omega)))) (fun c_2 => ?_)
    refine lv_aload_n hx hb_ dX12_goes_5 rfl (lv_at hl 0 rfl) ?_
    refine lv_iload_n hx hb_ dX12_goes_6 rfl (lv_at hl 2 rfl) ?_
    refine z_ki hw hA (va_runV (As := [.int (nI n_)]) (rest := []) hcf (c_X12_isCrossed lau cD cy _ r_ S_ hSh n_ pre hn (by omega) hall (fun k_ hk => hat k_ (hall k_ hk))) (cwV 1 hts gX12_goes_X12_isCrossed rfl rfl rfl (by decide +kernel) ⟨Nat.le_of_ble_eq_true rfl, Nat.le_of_ble_eq_true rfl⟩) (z_preV (k := 12) hK_ hE hw (mL hSh 0) (mK hSh 0) (by decide) rfl) rfl rfl hl.1 rfl (lv_room (Nat.le_of_ble_eq_true rfl)) dX12_goes_7 ⟨Nat.le_of_ble_eq_true rfl, Nat.le_of_ble_eq_true rfl⟩) (fun v1 S2 H_ locs_ hp hw => ?_)
    obtain ⟨hv1, rfl⟩ := hp
    refine lv_if_eq (tgt := 14) hx hb_ dX12_goes_10 (by decide) (fun c_10 => ?_) (fun c_10 => ?_)
    · have hG : mG n_ 0 pre = [pre] := by rw [mG]; exact if_pos (Classical.byContradiction fun q_ => absurd c_10 (by rw [hv1, if_neg q_]; decide))
      have hcn : cn + 1 ≤ 1392 := by rw [hG] at hct; exact hct
      refine lv_iconst (v := 0) hx hb_ dX12_goes_14 (by decide) ?_
      refine lv_istore (lv' := [(4, .int 0), (0, .ref (r_ 0)), (1, .int (nI pre.length)), (2, .int (nI n_)), (3, .int (nI un))]) hx hb_ dX12_goes_15 hl (by decide) rfl (fun ls hl => ?_)
      have JD : ∀ (nD jD : Nat) (iD : Int32), iD = nI jD → jD ≤ n_ → n_ < jD + nD → ∀ (fo : Nat → Int32), (∀ k_, k_ < 8 * cn → fo k_ = zA S_ (r_ 48) k_) → (∀ k_, k_ < jD → fo (8 * cn + k_) = nI (pre.getD k_ 0)) → ∀ (H_ : Heap) (locs_ : List Loc), zPw cD cy A_ s_.heap (zsA S_ (r_ 48) fo) H_ locs_ → ∀ ls : Array Slot, lv_has ls 5 [(0, .ref (r_ 0)), (1, .int (nI pre.length)), (2, .int (nI n_)), (3, .int (nI un)), (4, .int iD)] → W p_ lau e_ ({ frames := 3, cells := 0, slots := 0, locals := 75 } : Room) s_ m_ args_ below_ meth_ c_ H_ locs_ 0 0 (MQ below_ (va_Qv (fun (S1 : zS) => ∃ lf av fo : Nat → Int32, S1 = zsI (zsA (zsA (zsA S_ (r_ 46) lf) (r_ 47) av) (r_ 48) fo) 1250 (r_ 0) (nI (cn + (mG n_ 0 pre).length)) ∧ (∀ k_, k_ < pre.length → lf k_ = zA S_ (r_ 46) k_) ∧ (∀ x_, x_ ∈ pre → av x_ = zA S_ (r_ 47) x_) ∧ (∀ k_, k_ < 8 * cn → fo k_ = zA S_ (r_ 48) k_) ∧ (∀ i_, i_ < (mG n_ 0 pre).length → ∀ k_, k_ < n_ → fo (8 * (cn + i_) + k_) = nI (((mG n_ 0 pre).getD i_ []).getD k_ 0))) (zPost cD cy A_) A_) args_ s_ 0 0 A_) (F0 m_ 17 ls []) := by
        intro nD
        induction nD with
        | zero => intro jD iD _ hjD h_; exact absurd h_ (by omega)
        | succ nD ihD =>
          intro jD iD eiD hjD hmD fo hf1 hf2 H_ locs_ hw ls hl
          have hSh : ShM (zsA S_ (r_ 48) fo) r_ := (sh_AM hSh0)
          refine lv_iload hx hb_ dX12_goes_17 (lv_at hl 4 rfl) ?_
          refine lv_iload_n hx hb_ dX12_goes_19 rfl (lv_at hl 2 rfl) ?_
          refine lv_icmp_ge (tgt := 51) hx hb_ dX12_goes_20 (by decide) (fun c_20 => ?_) (fun c_20 => ?_)
          · refine lv_aload_n hx hb_ dX12_goes_51 rfl (lv_at hl 0 rfl) ?_
            refine lv_dup hx hb_ dX12_goes_52 rfl ?_
            refine z_get (k := 12) (i := 50) (j := 1250) (v := .int (nI cn)) (ref := "FoldedInHalfModel") (C := RX12) (T := TX12) (N := 56) hcf hK_ hw hin12 (mL hSh 0) (mK hSh 0) rfl (by decide) (by decide) rfl rfl (congrArg Value.int hcc) (List.mem_of_getElem? (i := 2) rfl) (fun _ h_ => h_) dX12_goes_53 ?_
            refine lv_iconst (v := 1) hx hb_ dX12_goes_56 (by decide) ?_
            refine lv_iadd hx hb_ dX12_goes_57 ?_
            refine z_topi (y := (nI (cn + 1))) (nI_1 cn) ?_
            refine z_putI (k := 12) (i := 50) (j := 1250) (x := (nI (cn + 1))) (v := .int (nI (cn + 1))) (ty := .int) (ref := "FoldedInHalfModel") (C := RX12) (T := TX12) (N := 56) tyX12 hcf hK_ hw hin12 tyX12_ok nmX12 (mL hSh 0) (mK hSh 0) rfl (by decide) (by decide) rfl rfl (List.mem_of_getElem? (i := 2) rfl) (fun _ h_ => h_) rfl rfl (by decide +kernel) rfl rfl dX12_goes_58 (fun H_ locs_ hw => ?_)
            have hSh : ShM (zsI (zsA S_ (r_ 48) fo) 1250 (r_ 0) (nI (cn + 1))) r_ := (sh_IM (sh_AM hSh0))
            exact z_vret hcf hr hlk hw ((by have hj : jD = n_ := (by have := zn_ge eiD rfl (by omega) c_20; omega); rw [hG]; exact ⟨zA S_ (r_ 46), zA S_ (r_ 47), fo, by rw [zsA_self, zsA_self]; rfl, fun k_ hk => rfl, fun x_ hx => rfl, hf1, fun i_ hi_ k_ hk => by have e0 : i_ = 0 := (by simp at hi_; omega); subst e0; exact hf2 k_ (by omega)⟩)) dX12_goes_61
          · have hlt : jD < n_ := zn_lt eiD rfl (by omega) c_20
            refine lv_aload_n hx hb_ dX12_goes_23 rfl (lv_at hl 0 rfl) ?_
            refine z_get (k := 12) (i := 48) (j := 1248) (v := .ref (r_ 48)) (ref := "FoldedInHalfModel") (C := RX12) (T := TX12) (N := 56) hcf hK_ hw hin12 (mL hSh 0) (mK hSh 0) rfl (by decide) (by decide) rfl rfl (congrArg va_rf (mP hSh 48)) (List.mem_of_getElem? (i := 1) rfl) (fun _ h_ => h_) dX12_goes_24 ?_
            refine lv_bipush (v := 8) hx hb_ dX12_goes_27 (by decide) ?_
            refine lv_aload_n hx hb_ dX12_goes_29 rfl (lv_at hl 0 rfl) ?_
            refine z_get (k := 12) (i := 50) (j := 1250) (v := .int (nI cn)) (ref := "FoldedInHalfModel") (C := RX12) (T := TX12) (N := 56) hcf hK_ hw hin12 (mL hSh 0) (mK hSh 0) rfl (by decide) (by decide) rfl rfl (congrArg Value.int hcc) (List.mem_of_getElem? (i := 2) rfl) (fun _ h_ => h_) dX12_goes_30 ?_
            refine lv_imul hx hb_ dX12_goes_33 ?_
            refine lv_iload hx hb_ dX12_goes_34 (lv_at hl 4 rfl) ?_
            refine lv_iadd hx hb_ dX12_goes_36 ?_
            refine z_topi (y := (nI (8 * cn + jD))) (by rw [eiD, show (8 : Int32) * nI cn = nI (8 * cn) from pk_mul 8 cn, nI_add]) ?_
            refine lv_aload_n hx hb_ dX12_goes_37 rfl (lv_at hl 0 rfl) ?_
            refine z_get (k := 12) (i := 46) (j := 1246) (v := .ref (r_ 46)) (ref := "FoldedInHalfModel") (C := RX12) (T := TX12) (N := 56) hcf hK_ hw hin12 (mL hSh 0) (mK hSh 0) rfl (by decide) (by decide) rfl rfl (congrArg va_rf (mP hSh 46)) (List.mem_of_getElem? (i := 3) rfl) (fun _ h_ => h_) dX12_goes_38 ?_
            refine lv_iload hx hb_ dX12_goes_41 (lv_at hl 4 rfl) ?_
            refine z_iald (n := 8) hcf hK_ hw (mL hSh 46) (mK hSh 46) (mN hSh 46) (by rw [eiD]; exact vp_in_nI (by omega) (by decide)) dX12_goes_43 ?_
            refine z_topi (y := (nI (pre.getD jD 0))) (by rw [(show iD.toNatClampNeg = jD by rw [eiD]; exact nI_clamp (by omega))]; exact (congrFun (show zA (zsA S_ (r_ 48) fo) (r_ 46) = (zA S_ (r_ 46)) from (zA_ne _ _ (mNe hSh (i := 46) (j := 48) (by decide) (by decide) (by decide)))) jD).trans (hlf jD (by omega))) ?_
            refine z_iast (n := 11136) hcf hK_ hw (mL hSh 48) (mK hSh 48) (mN hSh 48) (vp_in_nI (by omega) (by decide)) dX12_goes_44 (fun H_ locs_ hw => ?_)
            obtain ⟨f3_, ef3⟩ : ∃ zz, zz = (upd (zA (zsA S_ (r_ 48) fo) (r_ 48)) ((nI (8 * cn + jD)) : Int32).toNatClampNeg (nI (pre.getD jD 0))) := ⟨_, rfl⟩
            rw [← ef3] at hw
            have hf3 : f3_ = upd fo ((8 * cn + jD)) (nI (pre.getD jD 0)) := by rw [ef3, (nI_clamp (show (8 * cn + jD) < 2 ^ 31 by omega)), show zA (zsA S_ (r_ 48) fo) (r_ 48) = _ from (zA_zsA _ _ _)]
            rw [zsA_zsA] at hw
            have hSh : ShM (zsA S_ (r_ 48) f3_) r_ := (sh_AM hSh0)
            obtain ⟨i4, ei4⟩ : ∃ y_ : Int32, y_ = iD + 1 := ⟨_, rfl⟩
            refine lv_iinc (v := i4) (lv' := [(4, .int i4), (0, .ref (r_ 0)), (1, .int (nI pre.length)), (2, .int (nI n_)), (3, .int (nI un))]) hx hb_ dX12_goes_45 hl (k := 4) rfl (by rw [ei4]; rfl) (by decide) rfl (fun ls hl => ?_)
            refine lv_goto (tgt := 17) hx hb_ dX12_goes_48 (by decide) ?_
            exact ihD (jD + 1) i4 (by rw [ei4, eiD]; exact nI_1 jD) hlt (by omega) f3_ (fun k_ hk => by rw [hf3, upd_no _ _ (by omega)]; exact hf1 k_ hk) (fun k_ hk => by rw [hf3]; exact (Nat.lt_or_ge k_ jD).elim (fun q_ => by rw [upd_no _ _ (by omega)]; exact hf2 k_ q_) (fun q_ => by have e_ := (show k_ = jD by omega); subst e_; exact upd_at _ _ _)) _ _ hw ls (lv_sub hl [1, 2, 3, 4, 0] rfl)
      exact JD (n_ + 1) 0 0 nI_0.symm (Nat.zero_le _) (by omega) (zA S_ (r_ 48)) (fun k_ hk => rfl) (fun k_ hk => absurd hk (Nat.not_lt_zero k_)) _ _ (by rw [zsA_self]; exact hw) ls (lv_sub hl [1, 2, 3, 4, 0] rfl)
    · exact z_vret hcf hr hlk hw ((by have hG : mG n_ 0 pre = [] := (by rw [mG]; exact if_neg (fun q_ => c_10 (by rw [hv1, if_pos q_]))); rw [hG]; exact ⟨zA S_ (r_ 46), zA S_ (r_ 47), zA S_ (r_ 48), by rw [zsA_self, zsA_self, zsA_self]; exact (zsI_self hcc).symm, fun k_ hk => rfl, fun x_ hx => rfl, fun k_ hk => rfl, fun i_ hi_ => absurd hi_ (Nat.not_lt_zero i_)⟩)) dX12_goes_13
  | succ ee =>
    refine lv_iload_n hx hb_ dX12_goes_0 rfl (lv_at hl 1 rfl) ?_
    refine lv_iload_n hx hb_ dX12_goes_1 rfl (lv_at hl 2 rfl) ?_
    refine lv_icmp_ne (tgt := 62) hx hb_ dX12_goes_2 (by decide) (fun c_2 => ?_) (fun c_2 => absurd c_2 (fun q_ => absurd ((nI_eq (by omega) (by omega)).mp q_) (by omega)))
    refine lv_iconst (v := 0) hx hb_ dX12_goes_62 (by decide) ?_
    refine lv_istore (lv' := [(4, .int 0), (0, .ref (r_ 0)), (1, .int (nI pre.length)), (2, .int (nI n_)), (3, .int (nI un))]) hx hb_ dX12_goes_63 hl (by decide) rfl (fun ls hl => ?_)
    have JA : ∀ (nA jA : Nat) (iA : Int32), iA = nI jA → jA ≤ n_ → n_ < jA + nA → ∀ (lf av fo : Nat → Int32) (T : List (List Nat)), T = (List.range jA).flatMap (mGf n_ ee pre) → (∀ k_, k_ < pre.length → lf k_ = nI (pre.getD k_ 0)) → (∀ x_, x_ ∈ pre → av x_ = nI (pre.idxOf x_)) → (∀ k_, k_ < 8 * cn → fo k_ = zA S_ (r_ 48) k_) → (∀ i_, i_ < T.length → ∀ k_, k_ < n_ → fo (8 * (cn + i_) + k_) = nI ((T.getD i_ []).getD k_ 0)) → ∀ (H_ : Heap) (locs_ : List Loc), zPw cD cy A_ s_.heap (zsI (zsA (zsA (zsA S_ (r_ 46) lf) (r_ 47) av) (r_ 48) fo) 1250 (r_ 0) (nI (cn + T.length))) H_ locs_ → ∀ ls : Array Slot, lv_has ls 5 [(0, .ref (r_ 0)), (1, .int (nI pre.length)), (2, .int (nI n_)), (3, .int (nI un)), (4, .int iA)] → W p_ lau e_ ({ frames := 3, cells := 0, slots := 0, locals := 75 } : Room) s_ m_ args_ below_ meth_ c_ H_ locs_ 0 0 (MQ below_ (va_Qv (fun (S1 : zS) => ∃ lf av fo : Nat → Int32, S1 = zsI (zsA (zsA (zsA S_ (r_ 46) lf) (r_ 47) av) (r_ 48) fo) 1250 (r_ 0) (nI (cn + (mG n_ (ee + 1) pre).length)) ∧ (∀ k_, k_ < pre.length → lf k_ = zA S_ (r_ 46) k_) ∧ (∀ x_, x_ ∈ pre → av x_ = zA S_ (r_ 47) x_) ∧ (∀ k_, k_ < 8 * cn → fo k_ = zA S_ (r_ 48) k_) ∧ (∀ i_, i_ < (mG n_ (ee + 1) pre).length → ∀ k_, k_ < n_ → fo (8 * (cn + i_) + k_) = nI (((mG n_ (ee + 1) pre).getD i_ []).getD k_ 0))) (zPost cD cy A_) A_) args_ s_ 0 0 A_) (F0 m_ 65 ls []) := by
      intro nA
      induction nA with
      | zero => intro jA iA _ hjA h_; exact absurd h_ (by omega)
      | succ nA ihA =>
        intro jA iA eiA hjA hmA lf av fo T hT hk1 hk2 hk3 hk4 H_ locs_ hw ls hl
        subst eiA
        have hSh : ShM (zsI (zsA (zsA (zsA S_ (r_ 46) lf) (r_ 47) av) (r_ 48) fo) 1250 (r_ 0) (nI (cn + T.length))) r_ := (sh_IM (sh_AM (sh_AM (sh_AM hSh0))))
        refine lv_iload hx hb_ dX12_goes_65 (lv_at hl 4 rfl) ?_
        refine lv_iload_n hx hb_ dX12_goes_67 rfl (lv_at hl 2 rfl) ?_
        refine lv_icmp_ge (tgt := 120) hx hb_ dX12_goes_68 (by decide) (fun c_68 => ?_) (fun c_68 => ?_)
        · exact z_vret hcf hr hlk hw ((by have hj : jA = n_ := (by have := zn_ge rfl rfl (by omega) c_68; omega); have hTG : T = mG n_ (ee + 1) pre := (by rw [hT, hj]; rfl); exact ⟨lf, av, fo, by rw [hTG], fun k_ hk => (hk1 k_ hk).trans (hlf k_ hk).symm, fun x_ hx => (hk2 x_ hx).trans (hat x_ hx).symm, hk3, by rw [← hTG]; exact hk4⟩)) dX12_goes_120
        · have hlt : jA < n_ := zn_lt rfl rfl (by omega) c_68
          have hle : T.length + (mGf n_ ee pre jA).length ≤ (mG n_ (ee + 1) pre).length := by have := rg_le (mGf n_ ee pre) (show jA + 1 ≤ n_ by omega); rw [rg_fm, List.length_append, ← hT, ← mG_eq] at this; exact this
          refine lv_iload_n hx hb_ dX12_goes_71 rfl (lv_at hl 3 rfl) ?_
          refine lv_iload hx hb_ dX12_goes_72 (lv_at hl 4 rfl) ?_
          refine lv_ishr hx hb_ dX12_goes_74 ?_
          refine lv_iconst (v := 1) hx hb_ dX12_goes_75 (by decide) ?_
          refine lv_iand hx hb_ dX12_goes_76 ?_
          refine lv_iconst (v := 1) hx hb_ dX12_goes_77 (by decide) ?_
          refine lv_icmp_ne (tgt := 84) hx hb_ dX12_goes_78 (by decide) (fun c_78 => ?_) (fun c_78 => ?_)
          · have hnb : nbit un jA = false := by rw [← ub_s jA (by omega) un hu]; exact decide_eq_false c_78
            have hnm : jA ∉ pre := of_decide_eq_false (by rw [← hub jA (by omega)]; exact hnb)
            have hG : mGf n_ ee pre jA = mG n_ ee (pre ++ [jA]) := if_neg hnm
            have hut := ub_t jA (by omega) un hu hnb
            refine lv_aload_n hx hb_ dX12_goes_84 rfl (lv_at hl 0 rfl) ?_
            refine z_get (k := 12) (i := 46) (j := 1246) (v := .ref (r_ 46)) (ref := "FoldedInHalfModel") (C := RX12) (T := TX12) (N := 56) hcf hK_ hw hin12 (mL hSh 0) (mK hSh 0) rfl (by decide) (by decide) rfl rfl (congrArg va_rf (mP hSh 46)) (List.mem_of_getElem? (i := 3) rfl) (fun _ h_ => h_) dX12_goes_85 ?_
            refine lv_iload_n hx hb_ dX12_goes_88 rfl (lv_at hl 1 rfl) ?_
            refine lv_iload hx hb_ dX12_goes_89 (lv_at hl 4 rfl) ?_
            refine z_iast (n := 8) hcf hK_ hw (mL hSh 46) (mK hSh 46) (mN hSh 46) (vp_in_nI (by omega) (by decide)) dX12_goes_91 (fun H_ locs_ hw => ?_)
            obtain ⟨f4, ef4⟩ : ∃ zz, zz = (upd (zA (zsI (zsA (zsA (zsA S_ (r_ 46) lf) (r_ 47) av) (r_ 48) fo) 1250 (r_ 0) (nI (cn + T.length))) (r_ 46)) ((nI pre.length) : Int32).toNatClampNeg (nI jA)) := ⟨_, rfl⟩
            rw [← ef4] at hw
            have hf4 : f4 = upd lf pre.length (nI jA) := by rw [ef4, (nI_clamp (show pre.length < 2 ^ 31 by omega)), show zA (zsI (zsA (zsA (zsA S_ (r_ 46) lf) (r_ 47) av) (r_ 48) fo) 1250 (r_ 0) (nI (cn + T.length))) (r_ 46) = _ from (zA_I.trans ((zA_ne _ _ (mNe hSh (i := 46) (j := 48) (by decide) (by decide) (by decide))).trans ((zA_ne _ _ (mNe hSh (i := 46) (j := 47) (by decide) (by decide) (by decide))).trans (zA_zsA _ _ _))))]
            rw [zsA_zsI, zsA_comm _ _ _ (mNe hSh (i := 48) (j := 46) (by decide) (by decide) (by decide)), zsA_comm _ _ _ (mNe hSh (i := 47) (j := 46) (by decide) (by decide) (by decide)), zsA_zsA] at hw
            have hSh : ShM (zsI (zsA (zsA (zsA S_ (r_ 46) f4) (r_ 47) av) (r_ 48) fo) 1250 (r_ 0) (nI (cn + T.length))) r_ := (sh_IM (sh_AM (sh_AM (sh_AM hSh0))))
            refine lv_aload_n hx hb_ dX12_goes_92 rfl (lv_at hl 0 rfl) ?_
            refine z_get (k := 12) (i := 47) (j := 1247) (v := .ref (r_ 47)) (ref := "FoldedInHalfModel") (C := RX12) (T := TX12) (N := 56) hcf hK_ hw hin12 (mL hSh 0) (mK hSh 0) rfl (by decide) (by decide) rfl rfl (congrArg va_rf (mP hSh 47)) (List.mem_of_getElem? (i := 4) rfl) (fun _ h_ => h_) dX12_goes_93 ?_
            refine lv_iload hx hb_ dX12_goes_96 (lv_at hl 4 rfl) ?_
            refine lv_iload_n hx hb_ dX12_goes_98 rfl (lv_at hl 1 rfl) ?_
            refine z_iast (n := 8) hcf hK_ hw (mL hSh 47) (mK hSh 47) (mN hSh 47) (vp_in_nI (by omega) (by decide)) dX12_goes_99 (fun H_ locs_ hw => ?_)
            obtain ⟨f5, ef5⟩ : ∃ zz, zz = (upd (zA (zsI (zsA (zsA (zsA S_ (r_ 46) f4) (r_ 47) av) (r_ 48) fo) 1250 (r_ 0) (nI (cn + T.length))) (r_ 47)) ((nI jA) : Int32).toNatClampNeg (nI pre.length)) := ⟨_, rfl⟩
            rw [← ef5] at hw
            have hf5 : f5 = upd av jA (nI pre.length) := by rw [ef5, (nI_clamp (show jA < 2 ^ 31 by omega)), show zA (zsI (zsA (zsA (zsA S_ (r_ 46) f4) (r_ 47) av) (r_ 48) fo) 1250 (r_ 0) (nI (cn + T.length))) (r_ 47) = _ from (zA_I.trans ((zA_ne _ _ (mNe hSh (i := 47) (j := 48) (by decide) (by decide) (by decide))).trans (zA_zsA _ _ _)))]
            rw [zsA_zsI, zsA_comm _ _ _ (mNe hSh (i := 48) (j := 47) (by decide) (by decide) (by decide)), zsA_zsA] at hw
            have hSh : ShM (zsI (zsA (zsA (zsA S_ (r_ 46) f4) (r_ 47) f5) (r_ 48) fo) 1250 (r_ 0) (nI (cn + T.length))) r_ := (sh_IM (sh_AM (sh_AM (sh_AM hSh0))))
            refine lv_aload_n hx hb_ dX12_goes_100 rfl (lv_at hl 0 rfl) ?_
            refine lv_iload_n hx hb_ dX12_goes_101 rfl (lv_at hl 1 rfl) ?_
            refine lv_iconst (v := 1) hx hb_ dX12_goes_102 (by decide) ?_
            refine lv_iadd hx hb_ dX12_goes_103 ?_
            refine z_topi (y := (nI (pre ++ [jA]).length)) (by rw [nI_1, List.length_append]; rfl) ?_
            refine lv_iload_n hx hb_ dX12_goes_104 rfl (lv_at hl 2 rfl) ?_
            refine lv_iload_n hx hb_ dX12_goes_105 rfl (lv_at hl 3 rfl) ?_
            refine lv_iconst (v := 1) hx hb_ dX12_goes_106 (by decide) ?_
            refine lv_iload hx hb_ dX12_goes_107 (lv_at hl 4 rfl) ?_
            refine lv_ishl hx hb_ dX12_goes_109 ?_
            refine lv_ior hx hb_ dX12_goes_110 ?_
            refine z_topi (y := (nI (un + 2 ^ jA))) (hut.1) ?_
            refine z_kv hw hA (va_runV (As := [.int (nI (pre ++ [jA]).length), .int (nI n_), .int (nI (un + 2 ^ jA))]) (rest := []) hcf (c_X12_goes_1 lau cD cy _ r_ (zsI (zsA (zsA (zsA S_ (r_ 46) f4) (r_ 47) f5) (r_ 48) fo) 1250 (r_ 0) (nI (cn + T.length))) hSh n_ (cn + T.length) ee (un + 2 ^ jA) (pre ++ [jA]) (by rw [List.length_append, List.length_singleton]; omega) hn (by rw [List.length_append, List.length_singleton]; omega) hut.2.1 (fun k_ hk => by rw [hut.2.2 k_ hk, hub k_ hk]; by_cases q_ : k_ ∈ pre <;> by_cases q2 : k_ = jA <;> simp [q_, q2]) (nd_app hnd hnm) (fun x_ hx => (List.mem_append.mp hx).elim (fun q_ => hb8 x_ q_) (fun q_ => by rw [List.mem_singleton] at q_; omega)) zI_at (by rw [hG] at hle; omega) (fun k_ hk => by rw [congrFun (show zA (zsI (zsA (zsA (zsA S_ (r_ 46) f4) (r_ 47) f5) (r_ 48) fo) 1250 (r_ 0) (nI (cn + T.length))) (r_ 46) = f4 from (zA_I.trans ((zA_ne _ _ (mNe hSh (i := 46) (j := 48) (by decide) (by decide) (by decide))).trans ((zA_ne _ _ (mNe hSh (i := 46) (j := 47) (by decide) (by decide) (by decide))).trans (zA_zsA _ _ _))))) k_, hf4]; rw [List.length_append, List.length_singleton] at hk; exact (Decidable.em (k_ = pre.length)).elim (fun q_ => by rw [q_, upd_at, gd_new]) (fun q_ => by rw [upd_no _ _ q_, hk1 k_ (by omega), gd_app (by omega)])) (fun x_ hx => by rw [congrFun (show zA (zsI (zsA (zsA (zsA S_ (r_ 46) f4) (r_ 47) f5) (r_ 48) fo) 1250 (r_ 0) (nI (cn + T.length))) (r_ 47) = f5 from (zA_I.trans ((zA_ne _ _ (mNe hSh (i := 47) (j := 48) (by decide) (by decide) (by decide))).trans (zA_zsA _ _ _)))) x_, hf5]; exact (Decidable.em (x_ = jA)).elim (fun q_ => by rw [q_, upd_at, ix_new hnm]) (fun q_ => by have hx2 : x_ ∈ pre := ((List.mem_append.mp hx).elim id (fun z_ => absurd (List.mem_singleton.mp z_) q_)); rw [upd_no _ _ q_, hk2 x_ hx2, ix_app hx2]))) (cwV 3 hts gX12_goes_X12_goes rfl rfl rfl (by decide +kernel) ⟨Nat.le_of_ble_eq_true rfl, Nat.le_of_ble_eq_true rfl⟩) (z_preV (k := 12) hK_ hE hw (mL hSh 0) (mK hSh 0) (by decide) rfl) rfl rfl hl.1 rfl (lv_room (Nat.le_of_ble_eq_true rfl)) dX12_goes_111 ⟨Nat.le_of_ble_eq_true rfl, Nat.le_of_ble_eq_true rfl⟩) (fun S7 H_ locs_ hp hw => ?_)
            obtain ⟨lf2, av2, fo2, rfl, g1, g2, g3, g4⟩ := hp
            rw [zsA_zsI, zsA_comm _ _ _ (mNe hSh (i := 48) (j := 46) (by decide) (by decide) (by decide)), zsA_comm _ _ _ (mNe hSh (i := 47) (j := 46) (by decide) (by decide) (by decide)), zsA_zsA] at hw
            rw [zsA_zsI, zsA_comm _ _ _ (mNe hSh (i := 48) (j := 47) (by decide) (by decide) (by decide)), zsA_zsA] at hw
            rw [zsA_zsI, zsA_zsA] at hw
            rw [zsI_zsI] at hw
            have hSh : ShM (zsI (zsA (zsA (zsA S_ (r_ 46) lf2) (r_ 47) av2) (r_ 48) fo2) 1250 (r_ 0) (nI (cn + T.length + (mG n_ ee (pre ++ [jA])).length))) r_ := (sh_IM (sh_AM (sh_AM (sh_AM hSh0))))
            obtain ⟨i2_, ei2⟩ : ∃ y_ : Int32, y_ = (nI jA) + 1 := ⟨_, rfl⟩
            refine lv_iinc (v := i2_) (lv' := [(4, .int i2_), (0, .ref (r_ 0)), (1, .int (nI pre.length)), (2, .int (nI n_)), (3, .int (nI un))]) hx hb_ dX12_goes_114 hl (k := 4) rfl (by rw [ei2]; rfl) (by decide) rfl (fun ls hl => ?_)
            refine lv_goto (tgt := 65) hx hb_ dX12_goes_117 (by decide) ?_
            have ecc : cn + T.length + (mG n_ ee (pre ++ [jA])).length = cn + (T ++ mG n_ ee (pre ++ [jA])).length := by rw [List.length_append]; omega
            rw [ecc] at hw
            refine ihA (jA + 1) i2_ (by rw [ei2]; exact nI_1 jA) (by omega) (by omega) lf2 av2 fo2 (T ++ mG n_ ee (pre ++ [jA])) (by rw [rg_fm, hG, hT]) (fun k_ hk => ?_) (fun x_ hx => ?_) (fun k_ hk => ?_) (fun i_ hi_ k_ hk => ?_) _ _ hw ls (lv_sub hl [1, 2, 3, 4, 0] rfl)
            · rw [g1 k_ (by rw [List.length_append]; omega), congrFun (show zA (zsI (zsA (zsA (zsA S_ (r_ 46) f4) (r_ 47) f5) (r_ 48) fo) 1250 (r_ 0) (nI (cn + T.length))) (r_ 46) = f4 from (zA_I.trans ((zA_ne _ _ (mNe hSh (i := 46) (j := 48) (by decide) (by decide) (by decide))).trans ((zA_ne _ _ (mNe hSh (i := 46) (j := 47) (by decide) (by decide) (by decide))).trans (zA_zsA _ _ _))))) k_, hf4, upd_no _ _ (by omega)]; exact hk1 k_ hk
            · rw [g2 x_ (List.mem_append_left _ hx), congrFun (show zA (zsI (zsA (zsA (zsA S_ (r_ 46) f4) (r_ 47) f5) (r_ 48) fo) 1250 (r_ 0) (nI (cn + T.length))) (r_ 47) = f5 from (zA_I.trans ((zA_ne _ _ (mNe hSh (i := 47) (j := 48) (by decide) (by decide) (by decide))).trans (zA_zsA _ _ _)))) x_, hf5, upd_no _ _ (fun q_ => hnm (by rw [← q_]; exact hx))]; exact hk2 x_ hx
            · rw [g3 k_ (by omega), congrFun (show zA (zsI (zsA (zsA (zsA S_ (r_ 46) f4) (r_ 47) f5) (r_ 48) fo) 1250 (r_ 0) (nI (cn + T.length))) (r_ 48) = fo from (zA_I.trans (zA_zsA _ _ _))) k_]; exact hk3 k_ hk
            · rcases Nat.lt_or_ge i_ T.length with q_ | q_
              · rw [g3 _ (by omega), congrFun (show zA (zsI (zsA (zsA (zsA S_ (r_ 46) f4) (r_ 47) f5) (r_ 48) fo) 1250 (r_ 0) (nI (cn + T.length))) (r_ 48) = fo from (zA_I.trans (zA_zsA _ _ _))) _, hk4 i_ q_ k_ hk, List.getD_eq_getElem?_getD (l := T), List.getD_eq_getElem?_getD (l := T ++ _), List.getElem?_append_left q_]
              · rw [List.length_append] at hi_
                have := g4 (i_ - T.length) (by omega) k_ hk
                rw [show cn + T.length + (i_ - T.length) = cn + i_ by omega] at this
                rw [this, List.getD_eq_getElem?_getD (l := mG n_ ee (pre ++ [jA])), List.getD_eq_getElem?_getD (l := T ++ _), List.getElem?_append_right q_]
          · refine lv_goto (tgt := 114) hx hb_ dX12_goes_81 (by decide) ?_
            obtain ⟨i2_, ei2⟩ : ∃ y_ : Int32, y_ = (nI jA) + 1 := ⟨_, rfl⟩
            refine lv_iinc (v := i2_) (lv' := [(4, .int i2_), (0, .ref (r_ 0)), (1, .int (nI pre.length)), (2, .int (nI n_)), (3, .int (nI un))]) hx hb_ dX12_goes_114 hl (k := 4) rfl (by rw [ei2]; rfl) (by decide) rfl (fun ls hl => ?_)
            refine lv_goto (tgt := 65) hx hb_ dX12_goes_117 (by decide) ?_
            have hin : jA ∈ pre := of_decide_eq_true (by rw [← hub jA (by omega), ← ub_s jA (by omega) un hu]; exact decide_eq_true c_78)
            have hG : mGf n_ ee pre jA = [] := if_pos hin
            exact ihA (jA + 1) i2_ (by rw [ei2]; exact nI_1 jA) (by omega) (by omega) lf av fo T (by rw [rg_fm, hG, List.append_nil]; exact hT) hk1 hk2 hk3 hk4 _ _ hw ls (lv_sub hl [1, 2, 3, 4, 0] rfl)
    exact JA (n_ + 1) 0 0 nI_0.symm (Nat.zero_le _) (by omega) (zA S_ (r_ 46)) (zA S_ (r_ 47)) (zA S_ (r_ 48)) [] rfl hlf hat (fun k_ hk => rfl) (fun i_ hi_ => absurd hi_ (Nat.not_lt_zero i_)) _ _ (by rw [zsA_self, zsA_self, zsA_self, show cn + ([] : List (List Nat)).length = cn from rfl, zsI_self hcc]; exact hw) ls (lv_sub hl [1, 2, 3, 4, 0] rfl)

set_option maxHeartbeats 1000000 in
set_option maxRecDepth 100000 in
theorem c_X12_goes_3 (lau : Launch) (cD : va_G) (cy : Nat → ClassId) (sz_ : Nat) (r_ : Nat → Nat) (S_ : zS) (hSh : ShM S_ r_) (n_ cn ee un : Nat) (pre : List Nat) (hd : pre.length + 3 = 8) (hn : n_ ≤ 8) (hlen : pre.length + ee = n_) (hu : un < 256) (hub : ∀ k_, k_ < 8 → nbit un k_ = decide (k_ ∈ pre)) (hnd : pre.Nodup) (hb8 : ∀ x_, x_ ∈ pre → x_ < n_) (hcc : zI S_ 1250 (r_ 0) = nI cn) (hct : cn + (mG n_ ee pre).length ≤ 1392) (hlf : ∀ k_, k_ < pre.length → zA S_ (r_ 46) k_ = nI (pre.getD k_ 0)) (hat : ∀ x_, x_ ∈ pre → zA S_ (r_ 47) x_ = nI (pre.idxOf x_)) : Met lau yX12_goes wsX12_goes ({ frames := 4, cells := 0, slots := 0, locals := 99 } : Room) (va_Pc [.ref (r_ 0), .int (nI pre.length), .int (nI n_), .int (nI un)] (zPre cD cy S_ sz_)) (va_Qv (fun (S1 : zS) => ∃ lf av fo : Nat → Int32, S1 = zsI (zsA (zsA (zsA S_ (r_ 46) lf) (r_ 47) av) (r_ 48) fo) 1250 (r_ 0) (nI (cn + (mG n_ ee pre).length)) ∧ (∀ k_, k_ < pre.length → lf k_ = zA S_ (r_ 46) k_) ∧ (∀ x_, x_ ∈ pre → av x_ = zA S_ (r_ 47) x_) ∧ (∀ k_, k_ < 8 * cn → fo k_ = zA S_ (r_ 48) k_) ∧ (∀ i_, i_ < (mG n_ ee pre).length → ∀ k_, k_ < n_ → fo (8 * (cn + i_) + k_) = nI (((mG n_ ee pre).getD i_ []).getD k_ 0))) (zPost cD cy (zAd cy S_ sz_)) (zAd cy S_ sz_)) 0 0 (zAd cy S_ sz_) := by
  refine z_ofW (cc := cX12_goes) (maxL := 5) (ret := none) (own := RX12) (QQ := fun A_ => va_Qv (fun (S1 : zS) => ∃ lf av fo : Nat → Int32, S1 = zsI (zsA (zsA (zsA S_ (r_ 46) lf) (r_ 47) av) (r_ 48) fo) 1250 (r_ 0) (nI (cn + (mG n_ ee pre).length)) ∧ (∀ k_, k_ < pre.length → lf k_ = zA S_ (r_ 46) k_) ∧ (∀ x_, x_ ∈ pre → av x_ = zA S_ (r_ 47) x_) ∧ (∀ k_, k_ < 8 * cn → fo k_ = zA S_ (r_ 48) k_) ∧ (∀ i_, i_ < (mG n_ ee pre).length → ∀ k_, k_ < n_ → fo (8 * (cn + i_) + k_) = nI (((mG n_ ee pre).getD i_ []).getD k_ 0))) (zPost cD cy A_) A_) (by decide) rfl rfl (Nat.le_of_ble_eq_true rfl) ?_
  intro p_ e_ s_ m_ args_ below_ meth_ c_ A_ ls hcf hr hlk hnm hK_ hE hw hA hl
  obtain ⟨hx, hb_, hml, hown, hts⟩ := id hcf
  have hin12 : ∀ w_ ∈ wsX120, w_ ∈ wsX12_goes := fun w_ h_ => (List.mem_cons_of_mem _ (List.mem_append_right _ h_))
  have hl : lv_has ls 5 [(0, .ref (r_ 0)), (1, .int (nI pre.length)), (2, .int (nI n_)), (3, .int (nI un))] := hl
  have hSh0 := hSh
  cases ee with
  | zero =>
    have hall : ∀ k_, k_ < n_ → k_ ∈ pre := fun k_ hk => nd_all hnd hb8 (by omega) hk
    refine lv_iload_n hx hb_ dX12_goes_0 rfl (lv_at hl 1 rfl) ?_
    refine lv_iload_n hx hb_ dX12_goes_1 rfl (lv_at hl 2 rfl) ?_
    refine lv_icmp_ne (tgt := 62) hx hb_ dX12_goes_2 (by decide) (fun c_2 => absurd c_2 (fun q_ => q_ (congrArg nI (by omega)))) (fun c_2 => ?_)
    refine lv_aload_n hx hb_ dX12_goes_5 rfl (lv_at hl 0 rfl) ?_
    refine lv_iload_n hx hb_ dX12_goes_6 rfl (lv_at hl 2 rfl) ?_
    refine z_ki hw hA (va_runV (As := [.int (nI n_)]) (rest := []) hcf (c_X12_isCrossed lau cD cy _ r_ S_ hSh n_ pre hn (by omega) hall (fun k_ hk => hat k_ (hall k_ hk))) (cwV 1 hts gX12_goes_X12_isCrossed rfl rfl rfl (by decide +kernel) ⟨Nat.le_of_ble_eq_true rfl, Nat.le_of_ble_eq_true rfl⟩) (z_preV (k := 12) hK_ hE hw (mL hSh 0) (mK hSh 0) (by decide) rfl) rfl rfl hl.1 rfl (lv_room (Nat.le_of_ble_eq_true rfl)) dX12_goes_7 ⟨Nat.le_of_ble_eq_true rfl, Nat.le_of_ble_eq_true rfl⟩) (fun v1 S2 H_ locs_ hp hw => ?_)
    obtain ⟨hv1, rfl⟩ := hp
    refine lv_if_eq (tgt := 14) hx hb_ dX12_goes_10 (by decide) (fun c_10 => ?_) (fun c_10 => ?_)
    · have hG : mG n_ 0 pre = [pre] := by rw [mG]; exact if_pos (Classical.byContradiction fun q_ => absurd c_10 (by rw [hv1, if_neg q_]; decide))
      have hcn : cn + 1 ≤ 1392 := by rw [hG] at hct; exact hct
      refine lv_iconst (v := 0) hx hb_ dX12_goes_14 (by decide) ?_
      refine lv_istore (lv' := [(4, .int 0), (0, .ref (r_ 0)), (1, .int (nI pre.length)), (2, .int (nI n_)), (3, .int (nI un))]) hx hb_ dX12_goes_15 hl (by decide) rfl (fun ls hl => ?_)
      have JD : ∀ (nD jD : Nat) (iD : Int32), iD = nI jD → jD ≤ n_ → n_ < jD + nD → ∀ (fo : Nat → Int32), (∀ k_, k_ < 8 * cn → fo k_ = zA S_ (r_ 48) k_) → (∀ k_, k_ < jD → fo (8 * cn + k_) = nI (pre.getD k_ 0)) → ∀ (H_ : Heap) (locs_ : List Loc), zPw cD cy A_ s_.heap (zsA S_ (r_ 48) fo) H_ locs_ → ∀ ls : Array Slot, lv_has ls 5 [(0, .ref (r_ 0)), (1, .int (nI pre.length)), (2, .int (nI n_)), (3, .int (nI un)), (4, .int iD)] → W p_ lau e_ ({ frames := 4, cells := 0, slots := 0, locals := 99 } : Room) s_ m_ args_ below_ meth_ c_ H_ locs_ 0 0 (MQ below_ (va_Qv (fun (S1 : zS) => ∃ lf av fo : Nat → Int32, S1 = zsI (zsA (zsA (zsA S_ (r_ 46) lf) (r_ 47) av) (r_ 48) fo) 1250 (r_ 0) (nI (cn + (mG n_ 0 pre).length)) ∧ (∀ k_, k_ < pre.length → lf k_ = zA S_ (r_ 46) k_) ∧ (∀ x_, x_ ∈ pre → av x_ = zA S_ (r_ 47) x_) ∧ (∀ k_, k_ < 8 * cn → fo k_ = zA S_ (r_ 48) k_) ∧ (∀ i_, i_ < (mG n_ 0 pre).length → ∀ k_, k_ < n_ → fo (8 * (cn + i_) + k_) = nI (((mG n_ 0 pre).getD i_ []).getD k_ 0))) (zPost cD cy A_) A_) args_ s_ 0 0 A_) (F0 m_ 17 ls []) := by
        intro nD
        induction nD with
        | zero => intro jD iD _ hjD h_; exact absurd h_ (by omega)
        | succ nD ihD =>
          intro jD iD eiD hjD hmD fo hf1 hf2 H_ locs_ hw ls hl
          have hSh : ShM (zsA S_ (r_ 48) fo) r_ := (sh_AM hSh0)
          refine lv_iload hx hb_ dX12_goes_17 (lv_at hl 4 rfl) ?_
          refine lv_iload_n hx hb_ dX12_goes_19 rfl (lv_at hl 2 rfl) ?_
          refine lv_icmp_ge (tgt := 51) hx hb_ dX12_goes_20 (by decide) (fun c_20 => ?_) (fun c_20 => ?_)
          · refine lv_aload_n hx hb_ dX12_goes_51 rfl (lv_at hl 0 rfl) ?_
            refine lv_dup hx hb_ dX12_goes_52 rfl ?_
            refine z_get (k := 12) (i := 50) (j := 1250) (v := .int (nI cn)) (ref := "FoldedInHalfModel") (C := RX12) (T := TX12) (N := 56) hcf hK_ hw hin12 (mL hSh 0) (mK hSh 0) rfl (by decide) (by decide) rfl rfl (congrArg Value.int hcc) (List.mem_of_getElem? (i := 2) rfl) (fun _ h_ => h_) dX12_goes_53 ?_
            refine lv_iconst (v := 1) hx hb_ dX12_goes_56 (by decide) ?_
            refine lv_iadd hx hb_ dX12_goes_57 ?_
            refine z_topi (y := (nI (cn + 1))) (nI_1 cn) ?_
            refine z_putI (k := 12) (i := 50) (j := 1250) (x := (nI (cn + 1))) (v := .int (nI (cn + 1))) (ty := .int) (ref := "FoldedInHalfModel") (C := RX12) (T := TX12) (N := 56) tyX12 hcf hK_ hw hin12 tyX12_ok nmX12 (mL hSh 0) (mK hSh 0) rfl (by decide) (by decide) rfl rfl (List.mem_of_getElem? (i := 2) rfl) (fun _ h_ => h_) rfl rfl (by decide +kernel) rfl rfl dX12_goes_58 (fun H_ locs_ hw => ?_)
            have hSh : ShM (zsI (zsA S_ (r_ 48) fo) 1250 (r_ 0) (nI (cn + 1))) r_ := (sh_IM (sh_AM hSh0))
            exact z_vret hcf hr hlk hw ((by have hj : jD = n_ := (by have := zn_ge eiD rfl (by omega) c_20; omega); rw [hG]; exact ⟨zA S_ (r_ 46), zA S_ (r_ 47), fo, by rw [zsA_self, zsA_self]; rfl, fun k_ hk => rfl, fun x_ hx => rfl, hf1, fun i_ hi_ k_ hk => by have e0 : i_ = 0 := (by simp at hi_; omega); subst e0; exact hf2 k_ (by omega)⟩)) dX12_goes_61
          · have hlt : jD < n_ := zn_lt eiD rfl (by omega) c_20
            refine lv_aload_n hx hb_ dX12_goes_23 rfl (lv_at hl 0 rfl) ?_
            refine z_get (k := 12) (i := 48) (j := 1248) (v := .ref (r_ 48)) (ref := "FoldedInHalfModel") (C := RX12) (T := TX12) (N := 56) hcf hK_ hw hin12 (mL hSh 0) (mK hSh 0) rfl (by decide) (by decide) rfl rfl (congrArg va_rf (mP hSh 48)) (List.mem_of_getElem? (i := 1) rfl) (fun _ h_ => h_) dX12_goes_24 ?_
            refine lv_bipush (v := 8) hx hb_ dX12_goes_27 (by decide) ?_
            refine lv_aload_n hx hb_ dX12_goes_29 rfl (lv_at hl 0 rfl) ?_
            refine z_get (k := 12) (i := 50) (j := 1250) (v := .int (nI cn)) (ref := "FoldedInHalfModel") (C := RX12) (T := TX12) (N := 56) hcf hK_ hw hin12 (mL hSh 0) (mK hSh 0) rfl (by decide) (by decide) rfl rfl (congrArg Value.int hcc) (List.mem_of_getElem? (i := 2) rfl) (fun _ h_ => h_) dX12_goes_30 ?_
            refine lv_imul hx hb_ dX12_goes_33 ?_
            refine lv_iload hx hb_ dX12_goes_34 (lv_at hl 4 rfl) ?_
            refine lv_iadd hx hb_ dX12_goes_36 ?_
            refine z_topi (y := (nI (8 * cn + jD))) (by rw [eiD, show (8 : Int32) * nI cn = nI (8 * cn) from pk_mul 8 cn, nI_add]) ?_
            refine lv_aload_n hx hb_ dX12_goes_37 rfl (lv_at hl 0 rfl) ?_
            refine z_get (k := 12) (i := 46) (j := 1246) (v := .ref (r_ 46)) (ref := "FoldedInHalfModel") (C := RX12) (T := TX12) (N := 56) hcf hK_ hw hin12 (mL hSh 0) (mK hSh 0) rfl (by decide) (by decide) rfl rfl (congrArg va_rf (mP hSh 46)) (List.mem_of_getElem? (i := 3) rfl) (fun _ h_ => h_) dX12_goes_38 ?_
            refine lv_iload hx hb_ dX12_goes_41 (lv_at hl 4 rfl) ?_
            refine z_iald (n := 8) hcf hK_ hw (mL hSh 46) (mK hSh 46) (mN hSh 46) (by rw [eiD]; exact vp_in_nI (by omega) (by decide)) dX12_goes_43 ?_
            refine z_topi (y := (nI (pre.getD jD 0))) (by rw [(show iD.toNatClampNeg = jD by rw [eiD]; exact nI_clamp (by omega))]; exact (congrFun (show zA (zsA S_ (r_ 48) fo) (r_ 46) = (zA S_ (r_ 46)) from (zA_ne _ _ (mNe hSh (i := 46) (j := 48) (by decide) (by decide) (by decide)))) jD).trans (hlf jD (by omega))) ?_
            refine z_iast (n := 11136) hcf hK_ hw (mL hSh 48) (mK hSh 48) (mN hSh 48) (vp_in_nI (by omega) (by decide)) dX12_goes_44 (fun H_ locs_ hw => ?_)
            obtain ⟨f3_, ef3⟩ : ∃ zz, zz = (upd (zA (zsA S_ (r_ 48) fo) (r_ 48)) ((nI (8 * cn + jD)) : Int32).toNatClampNeg (nI (pre.getD jD 0))) := ⟨_, rfl⟩
            rw [← ef3] at hw
            have hf3 : f3_ = upd fo ((8 * cn + jD)) (nI (pre.getD jD 0)) := by rw [ef3, (nI_clamp (show (8 * cn + jD) < 2 ^ 31 by omega)), show zA (zsA S_ (r_ 48) fo) (r_ 48) = _ from (zA_zsA _ _ _)]
            rw [zsA_zsA] at hw
            have hSh : ShM (zsA S_ (r_ 48) f3_) r_ := (sh_AM hSh0)
            obtain ⟨i4, ei4⟩ : ∃ y_ : Int32, y_ = iD + 1 := ⟨_, rfl⟩
            refine lv_iinc (v := i4) (lv' := [(4, .int i4), (0, .ref (r_ 0)), (1, .int (nI pre.length)), (2, .int (nI n_)), (3, .int (nI un))]) hx hb_ dX12_goes_45 hl (k := 4) rfl (by rw [ei4]; rfl) (by decide) rfl (fun ls hl => ?_)
            refine lv_goto (tgt := 17) hx hb_ dX12_goes_48 (by decide) ?_
            exact ihD (jD + 1) i4 (by rw [ei4, eiD]; exact nI_1 jD) hlt (by omega) f3_ (fun k_ hk => by rw [hf3, upd_no _ _ (by omega)]; exact hf1 k_ hk) (fun k_ hk => by rw [hf3]; exact (Nat.lt_or_ge k_ jD).elim (fun q_ => by rw [upd_no _ _ (by omega)]; exact hf2 k_ q_) (fun q_ => by have e_ := (show k_ = jD by omega); subst e_; exact upd_at _ _ _)) _ _ hw ls (lv_sub hl [1, 2, 3, 4, 0] rfl)
      exact JD (n_ + 1) 0 0 nI_0.symm (Nat.zero_le _) (by omega) (zA S_ (r_ 48)) (fun k_ hk => rfl) (fun k_ hk => absurd hk (Nat.not_lt_zero k_)) _ _ (by rw [zsA_self]; exact hw) ls (lv_sub hl [1, 2, 3, 4, 0] rfl)
    · exact z_vret hcf hr hlk hw ((by have hG : mG n_ 0 pre = [] := (by rw [mG]; exact if_neg (fun q_ => c_10 (by rw [hv1, if_pos q_]))); rw [hG]; exact ⟨zA S_ (r_ 46), zA S_ (r_ 47), zA S_ (r_ 48), by rw [zsA_self, zsA_self, zsA_self]; exact (zsI_self hcc).symm, fun k_ hk => rfl, fun x_ hx => rfl, fun k_ hk => rfl, fun i_ hi_ => absurd hi_ (Nat.not_lt_zero i_)⟩)) dX12_goes_13
  | succ ee =>
    refine lv_iload_n hx hb_ dX12_goes_0 rfl (lv_at hl 1 rfl) ?_
    refine lv_iload_n hx hb_ dX12_goes_1 rfl (lv_at hl 2 rfl) ?_
    refine lv_icmp_ne (tgt := 62) hx hb_ dX12_goes_2 (by decide) (fun c_2 => ?_) (fun c_2 => absurd c_2 (fun q_ => absurd ((nI_eq (by omega) (by omega)).mp q_) (by omega)))
    refine lv_iconst (v := 0) hx hb_ dX12_goes_62 (by decide) ?_
    refine lv_istore (lv' := [(4, .int 0), (0, .ref (r_ 0)), (1, .int (nI pre.length)), (2, .int (nI n_)), (3, .int (nI un))]) hx hb_ dX12_goes_63 hl (by decide) rfl (fun ls hl => ?_)
    have JA : ∀ (nA jA : Nat) (iA : Int32), iA = nI jA → jA ≤ n_ → n_ < jA + nA → ∀ (lf av fo : Nat → Int32) (T : List (List Nat)), T = (List.range jA).flatMap (mGf n_ ee pre) → (∀ k_, k_ < pre.length → lf k_ = nI (pre.getD k_ 0)) → (∀ x_, x_ ∈ pre → av x_ = nI (pre.idxOf x_)) → (∀ k_, k_ < 8 * cn → fo k_ = zA S_ (r_ 48) k_) → (∀ i_, i_ < T.length → ∀ k_, k_ < n_ → fo (8 * (cn + i_) + k_) = nI ((T.getD i_ []).getD k_ 0)) → ∀ (H_ : Heap) (locs_ : List Loc), zPw cD cy A_ s_.heap (zsI (zsA (zsA (zsA S_ (r_ 46) lf) (r_ 47) av) (r_ 48) fo) 1250 (r_ 0) (nI (cn + T.length))) H_ locs_ → ∀ ls : Array Slot, lv_has ls 5 [(0, .ref (r_ 0)), (1, .int (nI pre.length)), (2, .int (nI n_)), (3, .int (nI un)), (4, .int iA)] → W p_ lau e_ ({ frames := 4, cells := 0, slots := 0, locals := 99 } : Room) s_ m_ args_ below_ meth_ c_ H_ locs_ 0 0 (MQ below_ (va_Qv (fun (S1 : zS) => ∃ lf av fo : Nat → Int32, S1 = zsI (zsA (zsA (zsA S_ (r_ 46) lf) (r_ 47) av) (r_ 48) fo) 1250 (r_ 0) (nI (cn + (mG n_ (ee + 1) pre).length)) ∧ (∀ k_, k_ < pre.length → lf k_ = zA S_ (r_ 46) k_) ∧ (∀ x_, x_ ∈ pre → av x_ = zA S_ (r_ 47) x_) ∧ (∀ k_, k_ < 8 * cn → fo k_ = zA S_ (r_ 48) k_) ∧ (∀ i_, i_ < (mG n_ (ee + 1) pre).length → ∀ k_, k_ < n_ → fo (8 * (cn + i_) + k_) = nI (((mG n_ (ee + 1) pre).getD i_ []).getD k_ 0))) (zPost cD cy A_) A_) args_ s_ 0 0 A_) (F0 m_ 65 ls []) := by
      intro nA
      induction nA with
      | zero => intro jA iA _ hjA h_; exact absurd h_ (by omega)
      | succ nA ihA =>
        intro jA iA eiA hjA hmA lf av fo T hT hk1 hk2 hk3 hk4 H_ locs_ hw ls hl
        subst eiA
        have hSh : ShM (zsI (zsA (zsA (zsA S_ (r_ 46) lf) (r_ 47) av) (r_ 48) fo) 1250 (r_ 0) (nI (cn + T.length))) r_ := (sh_IM (sh_AM (sh_AM (sh_AM hSh0))))
        refine lv_iload hx hb_ dX12_goes_65 (lv_at hl 4 rfl) ?_
        refine lv_iload_n hx hb_ dX12_goes_67 rfl (lv_at hl 2 rfl) ?_
        refine lv_icmp_ge (tgt := 120) hx hb_ dX12_goes_68 (by decide) (fun c_68 => ?_) (fun c_68 => ?_)
        · exact z_vret hcf hr hlk hw ((by have hj : jA = n_ := (by have := zn_ge rfl rfl (by omega) c_68; omega); have hTG : T = mG n_ (ee + 1) pre := (by rw [hT, hj]; rfl); exact ⟨lf, av, fo, by rw [hTG], fun k_ hk => (hk1 k_ hk).trans (hlf k_ hk).symm, fun x_ hx => (hk2 x_ hx).trans (hat x_ hx).symm, hk3, by rw [← hTG]; exact hk4⟩)) dX12_goes_120
        · have hlt : jA < n_ := zn_lt rfl rfl (by omega) c_68
          have hle : T.length + (mGf n_ ee pre jA).length ≤ (mG n_ (ee + 1) pre).length := by have := rg_le (mGf n_ ee pre) (show jA + 1 ≤ n_ by omega); rw [rg_fm, List.length_append, ← hT, ← mG_eq] at this; exact this
          refine lv_iload_n hx hb_ dX12_goes_71 rfl (lv_at hl 3 rfl) ?_
          refine lv_iload hx hb_ dX12_goes_72 (lv_at hl 4 rfl) ?_
          refine lv_ishr hx hb_ dX12_goes_74 ?_
          refine lv_iconst (v := 1) hx hb_ dX12_goes_75 (by decide) ?_
          refine lv_iand hx hb_ dX12_goes_76 ?_
          refine lv_iconst (v := 1) hx hb_ dX12_goes_77 (by decide) ?_
          refine lv_icmp_ne (tgt := 84) hx hb_ dX12_goes_78 (by decide) (fun c_78 => ?_) (fun c_78 => ?_)
          · have hnb : nbit un jA = false := by rw [← ub_s jA (by omega) un hu]; exact decide_eq_false c_78
            have hnm : jA ∉ pre := of_decide_eq_false (by rw [← hub jA (by omega)]; exact hnb)
            have hG : mGf n_ ee pre jA = mG n_ ee (pre ++ [jA]) := if_neg hnm
            have hut := ub_t jA (by omega) un hu hnb
            refine lv_aload_n hx hb_ dX12_goes_84 rfl (lv_at hl 0 rfl) ?_
            refine z_get (k := 12) (i := 46) (j := 1246) (v := .ref (r_ 46)) (ref := "FoldedInHalfModel") (C := RX12) (T := TX12) (N := 56) hcf hK_ hw hin12 (mL hSh 0) (mK hSh 0) rfl (by decide) (by decide) rfl rfl (congrArg va_rf (mP hSh 46)) (List.mem_of_getElem? (i := 3) rfl) (fun _ h_ => h_) dX12_goes_85 ?_
            refine lv_iload_n hx hb_ dX12_goes_88 rfl (lv_at hl 1 rfl) ?_
            refine lv_iload hx hb_ dX12_goes_89 (lv_at hl 4 rfl) ?_
            refine z_iast (n := 8) hcf hK_ hw (mL hSh 46) (mK hSh 46) (mN hSh 46) (vp_in_nI (by omega) (by decide)) dX12_goes_91 (fun H_ locs_ hw => ?_)
            obtain ⟨f4, ef4⟩ : ∃ zz, zz = (upd (zA (zsI (zsA (zsA (zsA S_ (r_ 46) lf) (r_ 47) av) (r_ 48) fo) 1250 (r_ 0) (nI (cn + T.length))) (r_ 46)) ((nI pre.length) : Int32).toNatClampNeg (nI jA)) := ⟨_, rfl⟩
            rw [← ef4] at hw
            have hf4 : f4 = upd lf pre.length (nI jA) := by rw [ef4, (nI_clamp (show pre.length < 2 ^ 31 by omega)), show zA (zsI (zsA (zsA (zsA S_ (r_ 46) lf) (r_ 47) av) (r_ 48) fo) 1250 (r_ 0) (nI (cn + T.length))) (r_ 46) = _ from (zA_I.trans ((zA_ne _ _ (mNe hSh (i := 46) (j := 48) (by decide) (by decide) (by decide))).trans ((zA_ne _ _ (mNe hSh (i := 46) (j := 47) (by decide) (by decide) (by decide))).trans (zA_zsA _ _ _))))]
            rw [zsA_zsI, zsA_comm _ _ _ (mNe hSh (i := 48) (j := 46) (by decide) (by decide) (by decide)), zsA_comm _ _ _ (mNe hSh (i := 47) (j := 46) (by decide) (by decide) (by decide)), zsA_zsA] at hw
            have hSh : ShM (zsI (zsA (zsA (zsA S_ (r_ 46) f4) (r_ 47) av) (r_ 48) fo) 1250 (r_ 0) (nI (cn + T.length))) r_ := (sh_IM (sh_AM (sh_AM (sh_AM hSh0))))
            refine lv_aload_n hx hb_ dX12_goes_92 rfl (lv_at hl 0 rfl) ?_
            refine z_get (k := 12) (i := 47) (j := 1247) (v := .ref (r_ 47)) (ref := "FoldedInHalfModel") (C := RX12) (T := TX12) (N := 56) hcf hK_ hw hin12 (mL hSh 0) (mK hSh 0) rfl (by decide) (by decide) rfl rfl (congrArg va_rf (mP hSh 47)) (List.mem_of_getElem? (i := 4) rfl) (fun _ h_ => h_) dX12_goes_93 ?_
            refine lv_iload hx hb_ dX12_goes_96 (lv_at hl 4 rfl) ?_
            refine lv_iload_n hx hb_ dX12_goes_98 rfl (lv_at hl 1 rfl) ?_
            refine z_iast (n := 8) hcf hK_ hw (mL hSh 47) (mK hSh 47) (mN hSh 47) (vp_in_nI (by omega) (by decide)) dX12_goes_99 (fun H_ locs_ hw => ?_)
            obtain ⟨f5, ef5⟩ : ∃ zz, zz = (upd (zA (zsI (zsA (zsA (zsA S_ (r_ 46) f4) (r_ 47) av) (r_ 48) fo) 1250 (r_ 0) (nI (cn + T.length))) (r_ 47)) ((nI jA) : Int32).toNatClampNeg (nI pre.length)) := ⟨_, rfl⟩
            rw [← ef5] at hw
            have hf5 : f5 = upd av jA (nI pre.length) := by rw [ef5, (nI_clamp (show jA < 2 ^ 31 by omega)), show zA (zsI (zsA (zsA (zsA S_ (r_ 46) f4) (r_ 47) av) (r_ 48) fo) 1250 (r_ 0) (nI (cn + T.length))) (r_ 47) = _ from (zA_I.trans ((zA_ne _ _ (mNe hSh (i := 47) (j := 48) (by decide) (by decide) (by decide))).trans (zA_zsA _ _ _)))]
            rw [zsA_zsI, zsA_comm _ _ _ (mNe hSh (i := 48) (j := 47) (by decide) (by decide) (by decide)), zsA_zsA] at hw
            have hSh : ShM (zsI (zsA (zsA (zsA S_ (r_ 46) f4) (r_ 47) f5) (r_ 48) fo) 1250 (r_ 0) (nI (cn + T.length))) r_ := (sh_IM (sh_AM (sh_AM (sh_AM hSh0))))
            refine lv_aload_n hx hb_ dX12_goes_100 rfl (lv_at hl 0 rfl) ?_
            refine lv_iload_n hx hb_ dX12_goes_101 rfl (lv_at hl 1 rfl) ?_
            refine lv_iconst (v := 1) hx hb_ dX12_goes_102 (by decide) ?_
            refine lv_iadd hx hb_ dX12_goes_103 ?_
            refine z_topi (y := (nI (pre ++ [jA]).length)) (by rw [nI_1, List.length_append]; rfl) ?_
            refine lv_iload_n hx hb_ dX12_goes_104 rfl (lv_at hl 2 rfl) ?_
            refine lv_iload_n hx hb_ dX12_goes_105 rfl (lv_at hl 3 rfl) ?_
            refine lv_iconst (v := 1) hx hb_ dX12_goes_106 (by decide) ?_
            refine lv_iload hx hb_ dX12_goes_107 (lv_at hl 4 rfl) ?_
            refine lv_ishl hx hb_ dX12_goes_109 ?_
            refine lv_ior hx hb_ dX12_goes_110 ?_
            refine z_topi (y := (nI (un + 2 ^ jA))) (hut.1) ?_
            refine z_kv hw hA (va_runV (As := [.int (nI (pre ++ [jA]).length), .int (nI n_), .int (nI (un + 2 ^ jA))]) (rest := []) hcf (c_X12_goes_2 lau cD cy _ r_ (zsI (zsA (zsA (zsA S_ (r_ 46) f4) (r_ 47) f5) (r_ 48) fo) 1250 (r_ 0) (nI (cn + T.length))) hSh n_ (cn + T.length) ee (un + 2 ^ jA) (pre ++ [jA]) (by rw [List.length_append, List.length_singleton]; omega) hn (by rw [List.length_append, List.length_singleton]; omega) hut.2.1 (fun k_ hk => by rw [hut.2.2 k_ hk, hub k_ hk]; by_cases q_ : k_ ∈ pre <;> by_cases q2 : k_ = jA <;> simp [q_, q2]) (nd_app hnd hnm) (fun x_ hx => (List.mem_append.mp hx).elim (fun q_ => hb8 x_ q_) (fun q_ => by rw [List.mem_singleton] at q_; omega)) zI_at (by rw [hG] at hle; omega) (fun k_ hk => by rw [congrFun (show zA (zsI (zsA (zsA (zsA S_ (r_ 46) f4) (r_ 47) f5) (r_ 48) fo) 1250 (r_ 0) (nI (cn + T.length))) (r_ 46) = f4 from (zA_I.trans ((zA_ne _ _ (mNe hSh (i := 46) (j := 48) (by decide) (by decide) (by decide))).trans ((zA_ne _ _ (mNe hSh (i := 46) (j := 47) (by decide) (by decide) (by decide))).trans (zA_zsA _ _ _))))) k_, hf4]; rw [List.length_append, List.length_singleton] at hk; exact (Decidable.em (k_ = pre.length)).elim (fun q_ => by rw [q_, upd_at, gd_new]) (fun q_ => by rw [upd_no _ _ q_, hk1 k_ (by omega), gd_app (by omega)])) (fun x_ hx => by rw [congrFun (show zA (zsI (zsA (zsA (zsA S_ (r_ 46) f4) (r_ 47) f5) (r_ 48) fo) 1250 (r_ 0) (nI (cn + T.length))) (r_ 47) = f5 from (zA_I.trans ((zA_ne _ _ (mNe hSh (i := 47) (j := 48) (by decide) (by decide) (by decide))).trans (zA_zsA _ _ _)))) x_, hf5]; exact (Decidable.em (x_ = jA)).elim (fun q_ => by rw [q_, upd_at, ix_new hnm]) (fun q_ => by have hx2 : x_ ∈ pre := ((List.mem_append.mp hx).elim id (fun z_ => absurd (List.mem_singleton.mp z_) q_)); rw [upd_no _ _ q_, hk2 x_ hx2, ix_app hx2]))) (cwV 3 hts gX12_goes_X12_goes rfl rfl rfl (by decide +kernel) ⟨Nat.le_of_ble_eq_true rfl, Nat.le_of_ble_eq_true rfl⟩) (z_preV (k := 12) hK_ hE hw (mL hSh 0) (mK hSh 0) (by decide) rfl) rfl rfl hl.1 rfl (lv_room (Nat.le_of_ble_eq_true rfl)) dX12_goes_111 ⟨Nat.le_of_ble_eq_true rfl, Nat.le_of_ble_eq_true rfl⟩) (fun S7 H_ locs_ hp hw => ?_)
            obtain ⟨lf2, av2, fo2, rfl, g1, g2, g3, g4⟩ := hp
            rw [zsA_zsI, zsA_comm _ _ _ (mNe hSh (i := 48) (j := 46) (by decide) (by decide) (by decide)), zsA_comm _ _ _ (mNe hSh (i := 47) (j := 46) (by decide) (by decide) (by decide)), zsA_zsA] at hw
            rw [zsA_zsI, zsA_comm _ _ _ (mNe hSh (i := 48) (j := 47) (by decide) (by decide) (by decide)), zsA_zsA] at hw
            rw [zsA_zsI, zsA_zsA] at hw
            rw [zsI_zsI] at hw
            have hSh : ShM (zsI (zsA (zsA (zsA S_ (r_ 46) lf2) (r_ 47) av2) (r_ 48) fo2) 1250 (r_ 0) (nI (cn + T.length + (mG n_ ee (pre ++ [jA])).length))) r_ := (sh_IM (sh_AM (sh_AM (sh_AM hSh0))))
            obtain ⟨i2_, ei2⟩ : ∃ y_ : Int32, y_ = (nI jA) + 1 := ⟨_, rfl⟩
            refine lv_iinc (v := i2_) (lv' := [(4, .int i2_), (0, .ref (r_ 0)), (1, .int (nI pre.length)), (2, .int (nI n_)), (3, .int (nI un))]) hx hb_ dX12_goes_114 hl (k := 4) rfl (by rw [ei2]; rfl) (by decide) rfl (fun ls hl => ?_)
            refine lv_goto (tgt := 65) hx hb_ dX12_goes_117 (by decide) ?_
            have ecc : cn + T.length + (mG n_ ee (pre ++ [jA])).length = cn + (T ++ mG n_ ee (pre ++ [jA])).length := by rw [List.length_append]; omega
            rw [ecc] at hw
            refine ihA (jA + 1) i2_ (by rw [ei2]; exact nI_1 jA) (by omega) (by omega) lf2 av2 fo2 (T ++ mG n_ ee (pre ++ [jA])) (by rw [rg_fm, hG, hT]) (fun k_ hk => ?_) (fun x_ hx => ?_) (fun k_ hk => ?_) (fun i_ hi_ k_ hk => ?_) _ _ hw ls (lv_sub hl [1, 2, 3, 4, 0] rfl)
            · rw [g1 k_ (by rw [List.length_append]; omega), congrFun (show zA (zsI (zsA (zsA (zsA S_ (r_ 46) f4) (r_ 47) f5) (r_ 48) fo) 1250 (r_ 0) (nI (cn + T.length))) (r_ 46) = f4 from (zA_I.trans ((zA_ne _ _ (mNe hSh (i := 46) (j := 48) (by decide) (by decide) (by decide))).trans ((zA_ne _ _ (mNe hSh (i := 46) (j := 47) (by decide) (by decide) (by decide))).trans (zA_zsA _ _ _))))) k_, hf4, upd_no _ _ (by omega)]; exact hk1 k_ hk
            · rw [g2 x_ (List.mem_append_left _ hx), congrFun (show zA (zsI (zsA (zsA (zsA S_ (r_ 46) f4) (r_ 47) f5) (r_ 48) fo) 1250 (r_ 0) (nI (cn + T.length))) (r_ 47) = f5 from (zA_I.trans ((zA_ne _ _ (mNe hSh (i := 47) (j := 48) (by decide) (by decide) (by decide))).trans (zA_zsA _ _ _)))) x_, hf5, upd_no _ _ (fun q_ => hnm (by rw [← q_]; exact hx))]; exact hk2 x_ hx
            · rw [g3 k_ (by omega), congrFun (show zA (zsI (zsA (zsA (zsA S_ (r_ 46) f4) (r_ 47) f5) (r_ 48) fo) 1250 (r_ 0) (nI (cn + T.length))) (r_ 48) = fo from (zA_I.trans (zA_zsA _ _ _))) k_]; exact hk3 k_ hk
            · rcases Nat.lt_or_ge i_ T.length with q_ | q_
              · rw [g3 _ (by omega), congrFun (show zA (zsI (zsA (zsA (zsA S_ (r_ 46) f4) (r_ 47) f5) (r_ 48) fo) 1250 (r_ 0) (nI (cn + T.length))) (r_ 48) = fo from (zA_I.trans (zA_zsA _ _ _))) _, hk4 i_ q_ k_ hk, List.getD_eq_getElem?_getD (l := T), List.getD_eq_getElem?_getD (l := T ++ _), List.getElem?_append_left q_]
              · rw [List.length_append] at hi_
                have := g4 (i_ - T.length) (by omega) k_ hk
                rw [show cn + T.length + (i_ - T.length) = cn + i_ by omega] at this
                rw [this, List.getD_eq_getElem?_getD (l := mG n_ ee (pre ++ [jA])), List.getD_eq_getElem?_getD (l := T ++ _), List.getElem?_append_right q_]
          · refine lv_goto (tgt := 114) hx hb_ dX12_goes_81 (by decide) ?_
            obtain ⟨i2_, ei2⟩ : ∃ y_ : Int32, y_ = (nI jA) + 1 := ⟨_, rfl⟩
            refine lv_iinc (v := i2_) (lv' := [(4, .int i2_), (0, .ref (r_ 0)), (1, .int (nI pre.length)), (2, .int (nI n_)), (3, .int (nI un))]) hx hb_ dX12_goes_114 hl (k := 4) rfl (by rw [ei2]; rfl) (by decide) rfl (fun ls hl => ?_)
            refine lv_goto (tgt := 65) hx hb_ dX12_goes_117 (by decide) ?_
            have hin : jA ∈ pre := of_decide_eq_true (by rw [← hub jA (by omega), ← ub_s jA (by omega) un hu]; exact decide_eq_true c_78)
            have hG : mGf n_ ee pre jA = [] := if_pos hin
            exact ihA (jA + 1) i2_ (by rw [ei2]; exact nI_1 jA) (by omega) (by omega) lf av fo T (by rw [rg_fm, hG, List.append_nil]; exact hT) hk1 hk2 hk3 hk4 _ _ hw ls (lv_sub hl [1, 2, 3, 4, 0] rfl)
    exact JA (n_ + 1) 0 0 nI_0.symm (Nat.zero_le _) (by omega) (zA S_ (r_ 46)) (zA S_ (r_ 47)) (zA S_ (r_ 48)) [] rfl hlf hat (fun k_ hk => rfl) (fun i_ hi_ => absurd hi_ (Nat.not_lt_zero i_)) _ _ (by rw [zsA_self, zsA_self, zsA_self, show cn + ([] : List (List Nat)).length = cn from rfl, zsI_self hcc]; exact hw) ls (lv_sub hl [1, 2, 3, 4, 0] rfl)

set_option maxHeartbeats 1000000 in
set_option maxRecDepth 100000 in
theorem c_X12_goes_4 (lau : Launch) (cD : va_G) (cy : Nat → ClassId) (sz_ : Nat) (r_ : Nat → Nat) (S_ : zS) (hSh : ShM S_ r_) (n_ cn ee un : Nat) (pre : List Nat) (hd : pre.length + 4 = 8) (hn : n_ ≤ 8) (hlen : pre.length + ee = n_) (hu : un < 256) (hub : ∀ k_, k_ < 8 → nbit un k_ = decide (k_ ∈ pre)) (hnd : pre.Nodup) (hb8 : ∀ x_, x_ ∈ pre → x_ < n_) (hcc : zI S_ 1250 (r_ 0) = nI cn) (hct : cn + (mG n_ ee pre).length ≤ 1392) (hlf : ∀ k_, k_ < pre.length → zA S_ (r_ 46) k_ = nI (pre.getD k_ 0)) (hat : ∀ x_, x_ ∈ pre → zA S_ (r_ 47) x_ = nI (pre.idxOf x_)) : Met lau yX12_goes wsX12_goes ({ frames := 5, cells := 0, slots := 0, locals := 123 } : Room) (va_Pc [.ref (r_ 0), .int (nI pre.length), .int (nI n_), .int (nI un)] (zPre cD cy S_ sz_)) (va_Qv (fun (S1 : zS) => ∃ lf av fo : Nat → Int32, S1 = zsI (zsA (zsA (zsA S_ (r_ 46) lf) (r_ 47) av) (r_ 48) fo) 1250 (r_ 0) (nI (cn + (mG n_ ee pre).length)) ∧ (∀ k_, k_ < pre.length → lf k_ = zA S_ (r_ 46) k_) ∧ (∀ x_, x_ ∈ pre → av x_ = zA S_ (r_ 47) x_) ∧ (∀ k_, k_ < 8 * cn → fo k_ = zA S_ (r_ 48) k_) ∧ (∀ i_, i_ < (mG n_ ee pre).length → ∀ k_, k_ < n_ → fo (8 * (cn + i_) + k_) = nI (((mG n_ ee pre).getD i_ []).getD k_ 0))) (zPost cD cy (zAd cy S_ sz_)) (zAd cy S_ sz_)) 0 0 (zAd cy S_ sz_) := by
  refine z_ofW (cc := cX12_goes) (maxL := 5) (ret := none) (own := RX12) (QQ := fun A_ => va_Qv (fun (S1 : zS) => ∃ lf av fo : Nat → Int32, S1 = zsI (zsA (zsA (zsA S_ (r_ 46) lf) (r_ 47) av) (r_ 48) fo) 1250 (r_ 0) (nI (cn + (mG n_ ee pre).length)) ∧ (∀ k_, k_ < pre.length → lf k_ = zA S_ (r_ 46) k_) ∧ (∀ x_, x_ ∈ pre → av x_ = zA S_ (r_ 47) x_) ∧ (∀ k_, k_ < 8 * cn → fo k_ = zA S_ (r_ 48) k_) ∧ (∀ i_, i_ < (mG n_ ee pre).length → ∀ k_, k_ < n_ → fo (8 * (cn + i_) + k_) = nI (((mG n_ ee pre).getD i_ []).getD k_ 0))) (zPost cD cy A_) A_) (by decide) rfl rfl (Nat.le_of_ble_eq_true rfl) ?_
  intro p_ e_ s_ m_ args_ below_ meth_ c_ A_ ls hcf hr hlk hnm hK_ hE hw hA hl
  obtain ⟨hx, hb_, hml, hown, hts⟩ := id hcf
  have hin12 : ∀ w_ ∈ wsX120, w_ ∈ wsX12_goes := fun w_ h_ => (List.mem_cons_of_mem _ (List.mem_append_right _ h_))
  have hl : lv_has ls 5 [(0, .ref (r_ 0)), (1, .int (nI pre.length)), (2, .int (nI n_)), (3, .int (nI un))] := hl
  have hSh0 := hSh
  cases ee with
  | zero =>
    have hall : ∀ k_, k_ < n_ → k_ ∈ pre := fun k_ hk => nd_all hnd hb8 (by omega) hk
    refine lv_iload_n hx hb_ dX12_goes_0 rfl (lv_at hl 1 rfl) ?_
    refine lv_iload_n hx hb_ dX12_goes_1 rfl (lv_at hl 2 rfl) ?_
    refine lv_icmp_ne (tgt := 62) hx hb_ dX12_goes_2 (by decide) (fun c_2 => absurd c_2 (fun q_ => q_ (congrArg nI (by omega)))) (fun c_2 => ?_)
    refine lv_aload_n hx hb_ dX12_goes_5 rfl (lv_at hl 0 rfl) ?_
    refine lv_iload_n hx hb_ dX12_goes_6 rfl (lv_at hl 2 rfl) ?_
    refine z_ki hw hA (va_runV (As := [.int (nI n_)]) (rest := []) hcf (c_X12_isCrossed lau cD cy _ r_ S_ hSh n_ pre hn (by omega) hall (fun k_ hk => hat k_ (hall k_ hk))) (cwV 1 hts gX12_goes_X12_isCrossed rfl rfl rfl (by decide +kernel) ⟨Nat.le_of_ble_eq_true rfl, Nat.le_of_ble_eq_true rfl⟩) (z_preV (k := 12) hK_ hE hw (mL hSh 0) (mK hSh 0) (by decide) rfl) rfl rfl hl.1 rfl (lv_room (Nat.le_of_ble_eq_true rfl)) dX12_goes_7 ⟨Nat.le_of_ble_eq_true rfl, Nat.le_of_ble_eq_true rfl⟩) (fun v1 S2 H_ locs_ hp hw => ?_)
    obtain ⟨hv1, rfl⟩ := hp
    refine lv_if_eq (tgt := 14) hx hb_ dX12_goes_10 (by decide) (fun c_10 => ?_) (fun c_10 => ?_)
    · have hG : mG n_ 0 pre = [pre] := by rw [mG]; exact if_pos (Classical.byContradiction fun q_ => absurd c_10 (by rw [hv1, if_neg q_]; decide))
      have hcn : cn + 1 ≤ 1392 := by rw [hG] at hct; exact hct
      refine lv_iconst (v := 0) hx hb_ dX12_goes_14 (by decide) ?_
      refine lv_istore (lv' := [(4, .int 0), (0, .ref (r_ 0)), (1, .int (nI pre.length)), (2, .int (nI n_)), (3, .int (nI un))]) hx hb_ dX12_goes_15 hl (by decide) rfl (fun ls hl => ?_)
      have JD : ∀ (nD jD : Nat) (iD : Int32), iD = nI jD → jD ≤ n_ → n_ < jD + nD → ∀ (fo : Nat → Int32), (∀ k_, k_ < 8 * cn → fo k_ = zA S_ (r_ 48) k_) → (∀ k_, k_ < jD → fo (8 * cn + k_) = nI (pre.getD k_ 0)) → ∀ (H_ : Heap) (locs_ : List Loc), zPw cD cy A_ s_.heap (zsA S_ (r_ 48) fo) H_ locs_ → ∀ ls : Array Slot, lv_has ls 5 [(0, .ref (r_ 0)), (1, .int (nI pre.length)), (2, .int (nI n_)), (3, .int (nI un)), (4, .int iD)] → W p_ lau e_ ({ frames := 5, cells := 0, slots := 0, locals := 123 } : Room) s_ m_ args_ below_ meth_ c_ H_ locs_ 0 0 (MQ below_ (va_Qv (fun (S1 : zS) => ∃ lf av fo : Nat → Int32, S1 = zsI (zsA (zsA (zsA S_ (r_ 46) lf) (r_ 47) av) (r_ 48) fo) 1250 (r_ 0) (nI (cn + (mG n_ 0 pre).length)) ∧ (∀ k_, k_ < pre.length → lf k_ = zA S_ (r_ 46) k_) ∧ (∀ x_, x_ ∈ pre → av x_ = zA S_ (r_ 47) x_) ∧ (∀ k_, k_ < 8 * cn → fo k_ = zA S_ (r_ 48) k_) ∧ (∀ i_, i_ < (mG n_ 0 pre).length → ∀ k_, k_ < n_ → fo (8 * (cn + i_) + k_) = nI (((mG n_ 0 pre).getD i_ []).getD k_ 0))) (zPost cD cy A_) A_) args_ s_ 0 0 A_) (F0 m_ 17 ls []) := by
        intro nD
        induction nD with
        | zero => intro jD iD _ hjD h_; exact absurd h_ (by omega)
        | succ nD ihD =>
          intro jD iD eiD hjD hmD fo hf1 hf2 H_ locs_ hw ls hl
          have hSh : ShM (zsA S_ (r_ 48) fo) r_ := (sh_AM hSh0)
          refine lv_iload hx hb_ dX12_goes_17 (lv_at hl 4 rfl) ?_
          refine lv_iload_n hx hb_ dX12_goes_19 rfl (lv_at hl 2 rfl) ?_
          refine lv_icmp_ge (tgt := 51) hx hb_ dX12_goes_20 (by decide) (fun c_20 => ?_) (fun c_20 => ?_)
          · refine lv_aload_n hx hb_ dX12_goes_51 rfl (lv_at hl 0 rfl) ?_
            refine lv_dup hx hb_ dX12_goes_52 rfl ?_
            refine z_get (k := 12) (i := 50) (j := 1250) (v := .int (nI cn)) (ref := "FoldedInHalfModel") (C := RX12) (T := TX12) (N := 56) hcf hK_ hw hin12 (mL hSh 0) (mK hSh 0) rfl (by decide) (by decide) rfl rfl (congrArg Value.int hcc) (List.mem_of_getElem? (i := 2) rfl) (fun _ h_ => h_) dX12_goes_53 ?_
            refine lv_iconst (v := 1) hx hb_ dX12_goes_56 (by decide) ?_
            refine lv_iadd hx hb_ dX12_goes_57 ?_
            refine z_topi (y := (nI (cn + 1))) (nI_1 cn) ?_
            refine z_putI (k := 12) (i := 50) (j := 1250) (x := (nI (cn + 1))) (v := .int (nI (cn + 1))) (ty := .int) (ref := "FoldedInHalfModel") (C := RX12) (T := TX12) (N := 56) tyX12 hcf hK_ hw hin12 tyX12_ok nmX12 (mL hSh 0) (mK hSh 0) rfl (by decide) (by decide) rfl rfl (List.mem_of_getElem? (i := 2) rfl) (fun _ h_ => h_) rfl rfl (by decide +kernel) rfl rfl dX12_goes_58 (fun H_ locs_ hw => ?_)
            have hSh : ShM (zsI (zsA S_ (r_ 48) fo) 1250 (r_ 0) (nI (cn + 1))) r_ := (sh_IM (sh_AM hSh0))
            exact z_vret hcf hr hlk hw ((by have hj : jD = n_ := (by have := zn_ge eiD rfl (by omega) c_20; omega); rw [hG]; exact ⟨zA S_ (r_ 46), zA S_ (r_ 47), fo, by rw [zsA_self, zsA_self]; rfl, fun k_ hk => rfl, fun x_ hx => rfl, hf1, fun i_ hi_ k_ hk => by have e0 : i_ = 0 := (by simp at hi_; omega); subst e0; exact hf2 k_ (by omega)⟩)) dX12_goes_61
          · have hlt : jD < n_ := zn_lt eiD rfl (by omega) c_20
            refine lv_aload_n hx hb_ dX12_goes_23 rfl (lv_at hl 0 rfl) ?_
            refine z_get (k := 12) (i := 48) (j := 1248) (v := .ref (r_ 48)) (ref := "FoldedInHalfModel") (C := RX12) (T := TX12) (N := 56) hcf hK_ hw hin12 (mL hSh 0) (mK hSh 0) rfl (by decide) (by decide) rfl rfl (congrArg va_rf (mP hSh 48)) (List.mem_of_getElem? (i := 1) rfl) (fun _ h_ => h_) dX12_goes_24 ?_
            refine lv_bipush (v := 8) hx hb_ dX12_goes_27 (by decide) ?_
            refine lv_aload_n hx hb_ dX12_goes_29 rfl (lv_at hl 0 rfl) ?_
            refine z_get (k := 12) (i := 50) (j := 1250) (v := .int (nI cn)) (ref := "FoldedInHalfModel") (C := RX12) (T := TX12) (N := 56) hcf hK_ hw hin12 (mL hSh 0) (mK hSh 0) rfl (by decide) (by decide) rfl rfl (congrArg Value.int hcc) (List.mem_of_getElem? (i := 2) rfl) (fun _ h_ => h_) dX12_goes_30 ?_
            refine lv_imul hx hb_ dX12_goes_33 ?_
            refine lv_iload hx hb_ dX12_goes_34 (lv_at hl 4 rfl) ?_
            refine lv_iadd hx hb_ dX12_goes_36 ?_
            refine z_topi (y := (nI (8 * cn + jD))) (by rw [eiD, show (8 : Int32) * nI cn = nI (8 * cn) from pk_mul 8 cn, nI_add]) ?_
            refine lv_aload_n hx hb_ dX12_goes_37 rfl (lv_at hl 0 rfl) ?_
            refine z_get (k := 12) (i := 46) (j := 1246) (v := .ref (r_ 46)) (ref := "FoldedInHalfModel") (C := RX12) (T := TX12) (N := 56) hcf hK_ hw hin12 (mL hSh 0) (mK hSh 0) rfl (by decide) (by decide) rfl rfl (congrArg va_rf (mP hSh 46)) (List.mem_of_getElem? (i := 3) rfl) (fun _ h_ => h_) dX12_goes_38 ?_
            refine lv_iload hx hb_ dX12_goes_41 (lv_at hl 4 rfl) ?_
            refine z_iald (n := 8) hcf hK_ hw (mL hSh 46) (mK hSh 46) (mN hSh 46) (by rw [eiD]; exact vp_in_nI (by omega) (by decide)) dX12_goes_43 ?_
            refine z_topi (y := (nI (pre.getD jD 0))) (by rw [(show iD.toNatClampNeg = jD by rw [eiD]; exact nI_clamp (by omega))]; exact (congrFun (show zA (zsA S_ (r_ 48) fo) (r_ 46) = (zA S_ (r_ 46)) from (zA_ne _ _ (mNe hSh (i := 46) (j := 48) (by decide) (by decide) (by decide)))) jD).trans (hlf jD (by omega))) ?_
            refine z_iast (n := 11136) hcf hK_ hw (mL hSh 48) (mK hSh 48) (mN hSh 48) (vp_in_nI (by omega) (by decide)) dX12_goes_44 (fun H_ locs_ hw => ?_)
            obtain ⟨f3_, ef3⟩ : ∃ zz, zz = (upd (zA (zsA S_ (r_ 48) fo) (r_ 48)) ((nI (8 * cn + jD)) : Int32).toNatClampNeg (nI (pre.getD jD 0))) := ⟨_, rfl⟩
            rw [← ef3] at hw
            have hf3 : f3_ = upd fo ((8 * cn + jD)) (nI (pre.getD jD 0)) := by rw [ef3, (nI_clamp (show (8 * cn + jD) < 2 ^ 31 by omega)), show zA (zsA S_ (r_ 48) fo) (r_ 48) = _ from (zA_zsA _ _ _)]
            rw [zsA_zsA] at hw
            have hSh : ShM (zsA S_ (r_ 48) f3_) r_ := (sh_AM hSh0)
            obtain ⟨i4, ei4⟩ : ∃ y_ : Int32, y_ = iD + 1 := ⟨_, rfl⟩
            refine lv_iinc (v := i4) (lv' := [(4, .int i4), (0, .ref (r_ 0)), (1, .int (nI pre.length)), (2, .int (nI n_)), (3, .int (nI un))]) hx hb_ dX12_goes_45 hl (k := 4) rfl (by rw [ei4]; rfl) (by decide) rfl (fun ls hl => ?_)
            refine lv_goto (tgt := 17) hx hb_ dX12_goes_48 (by decide) ?_
            exact ihD (jD + 1) i4 (by rw [ei4, eiD]; exact nI_1 jD) hlt (by omega) f3_ (fun k_ hk => by rw [hf3, upd_no _ _ (by omega)]; exact hf1 k_ hk) (fun k_ hk => by rw [hf3]; exact (Nat.lt_or_ge k_ jD).elim (fun q_ => by rw [upd_no _ _ (by omega)]; exact hf2 k_ q_) (fun q_ => by have e_ := (show k_ = jD by omega); subst e_; exact upd_at _ _ _)) _ _ hw ls (lv_sub hl [1, 2, 3, 4, 0] rfl)
      exact JD (n_ + 1) 0 0 nI_0.symm (Nat.zero_le _) (by omega) (zA S_ (r_ 48)) (fun k_ hk => rfl) (fun k_ hk => absurd hk (Nat.not_lt_zero k_)) _ _ (by rw [zsA_self]; exact hw) ls (lv_sub hl [1, 2, 3, 4, 0] rfl)
    · exact z_vret hcf hr hlk hw ((by have hG : mG n_ 0 pre = [] := (by rw [mG]; exact if_neg (fun q_ => c_10 (by rw [hv1, if_pos q_]))); rw [hG]; exact ⟨zA S_ (r_ 46), zA S_ (r_ 47), zA S_ (r_ 48), by rw [zsA_self, zsA_self, zsA_self]; exact (zsI_self hcc).symm, fun k_ hk => rfl, fun x_ hx => rfl, fun k_ hk => rfl, fun i_ hi_ => absurd hi_ (Nat.not_lt_zero i_)⟩)) dX12_goes_13
  | succ ee =>
    refine lv_iload_n hx hb_ dX12_goes_0 rfl (lv_at hl 1 rfl) ?_
    refine lv_iload_n hx hb_ dX12_goes_1 rfl (lv_at hl 2 rfl) ?_
    refine lv_icmp_ne (tgt := 62) hx hb_ dX12_goes_2 (by decide) (fun c_2 => ?_) (fun c_2 => absurd c_2 (fun q_ => absurd ((nI_eq (by omega) (by omega)).mp q_) (by omega)))
    refine lv_iconst (v := 0) hx hb_ dX12_goes_62 (by decide) ?_
    refine lv_istore (lv' := [(4, .int 0), (0, .ref (r_ 0)), (1, .int (nI pre.length)), (2, .int (nI n_)), (3, .int (nI un))]) hx hb_ dX12_goes_63 hl (by decide) rfl (fun ls hl => ?_)
    have JA : ∀ (nA jA : Nat) (iA : Int32), iA = nI jA → jA ≤ n_ → n_ < jA + nA → ∀ (lf av fo : Nat → Int32) (T : List (List Nat)), T = (List.range jA).flatMap (mGf n_ ee pre) → (∀ k_, k_ < pre.length → lf k_ = nI (pre.getD k_ 0)) → (∀ x_, x_ ∈ pre → av x_ = nI (pre.idxOf x_)) → (∀ k_, k_ < 8 * cn → fo k_ = zA S_ (r_ 48) k_) → (∀ i_, i_ < T.length → ∀ k_, k_ < n_ → fo (8 * (cn + i_) + k_) = nI ((T.getD i_ []).getD k_ 0)) → ∀ (H_ : Heap) (locs_ : List Loc), zPw cD cy A_ s_.heap (zsI (zsA (zsA (zsA S_ (r_ 46) lf) (r_ 47) av) (r_ 48) fo) 1250 (r_ 0) (nI (cn + T.length))) H_ locs_ → ∀ ls : Array Slot, lv_has ls 5 [(0, .ref (r_ 0)), (1, .int (nI pre.length)), (2, .int (nI n_)), (3, .int (nI un)), (4, .int iA)] → W p_ lau e_ ({ frames := 5, cells := 0, slots := 0, locals := 123 } : Room) s_ m_ args_ below_ meth_ c_ H_ locs_ 0 0 (MQ below_ (va_Qv (fun (S1 : zS) => ∃ lf av fo : Nat → Int32, S1 = zsI (zsA (zsA (zsA S_ (r_ 46) lf) (r_ 47) av) (r_ 48) fo) 1250 (r_ 0) (nI (cn + (mG n_ (ee + 1) pre).length)) ∧ (∀ k_, k_ < pre.length → lf k_ = zA S_ (r_ 46) k_) ∧ (∀ x_, x_ ∈ pre → av x_ = zA S_ (r_ 47) x_) ∧ (∀ k_, k_ < 8 * cn → fo k_ = zA S_ (r_ 48) k_) ∧ (∀ i_, i_ < (mG n_ (ee + 1) pre).length → ∀ k_, k_ < n_ → fo (8 * (cn + i_) + k_) = nI (((mG n_ (ee + 1) pre).getD i_ []).getD k_ 0))) (zPost cD cy A_) A_) args_ s_ 0 0 A_) (F0 m_ 65 ls []) := by
      intro nA
      induction nA with
      | zero => intro jA iA _ hjA h_; exact absurd h_ (by omega)
      | succ nA ihA =>
        intro jA iA eiA hjA hmA lf av fo T hT hk1 hk2 hk3 hk4 H_ locs_ hw ls hl
        subst eiA
        have hSh : ShM (zsI (zsA (zsA (zsA S_ (r_ 46) lf) (r_ 47) av) (r_ 48) fo) 1250 (r_ 0) (nI (cn + T.length))) r_ := (sh_IM (sh_AM (sh_AM (sh_AM hSh0))))
        refine lv_iload hx hb_ dX12_goes_65 (lv_at hl 4 rfl) ?_
        refine lv_iload_n hx hb_ dX12_goes_67 rfl (lv_at hl 2 rfl) ?_
        refine lv_icmp_ge (tgt := 120) hx hb_ dX12_goes_68 (by decide) (fun c_68 => ?_) (fun c_68 => ?_)
        · exact z_vret hcf hr hlk hw ((by have hj : jA = n_ := (by have := zn_ge rfl rfl (by omega) c_68; omega); have hTG : T = mG n_ (ee + 1) pre := (by rw [hT, hj]; rfl); exact ⟨lf, av, fo, by rw [hTG], fun k_ hk => (hk1 k_ hk).trans (hlf k_ hk).symm, fun x_ hx => (hk2 x_ hx).trans (hat x_ hx).symm, hk3, by rw [← hTG]; exact hk4⟩)) dX12_goes_120
        · have hlt : jA < n_ := zn_lt rfl rfl (by omega) c_68
          have hle : T.length + (mGf n_ ee pre jA).length ≤ (mG n_ (ee + 1) pre).length := by have := rg_le (mGf n_ ee pre) (show jA + 1 ≤ n_ by omega); rw [rg_fm, List.length_append, ← hT, ← mG_eq] at this; exact this
          refine lv_iload_n hx hb_ dX12_goes_71 rfl (lv_at hl 3 rfl) ?_
          refine lv_iload hx hb_ dX12_goes_72 (lv_at hl 4 rfl) ?_
          refine lv_ishr hx hb_ dX12_goes_74 ?_
          refine lv_iconst (v := 1) hx hb_ dX12_goes_75 (by decide) ?_
          refine lv_iand hx hb_ dX12_goes_76 ?_
          refine lv_iconst (v := 1) hx hb_ dX12_goes_77 (by decide) ?_
          refine lv_icmp_ne (tgt := 84) hx hb_ dX12_goes_78 (by decide) (fun c_78 => ?_) (fun c_78 => ?_)
          · have hnb : nbit un jA = false := by rw [← ub_s jA (by omega) un hu]; exact decide_eq_false c_78
            have hnm : jA ∉ pre := of_decide_eq_false (by rw [← hub jA (by omega)]; exact hnb)
            have hG : mGf n_ ee pre jA = mG n_ ee (pre ++ [jA]) := if_neg hnm
            have hut := ub_t jA (by omega) un hu hnb
            refine lv_aload_n hx hb_ dX12_goes_84 rfl (lv_at hl 0 rfl) ?_
            refine z_get (k := 12) (i := 46) (j := 1246) (v := .ref (r_ 46)) (ref := "FoldedInHalfModel") (C := RX12) (T := TX12) (N := 56) hcf hK_ hw hin12 (mL hSh 0) (mK hSh 0) rfl (by decide) (by decide) rfl rfl (congrArg va_rf (mP hSh 46)) (List.mem_of_getElem? (i := 3) rfl) (fun _ h_ => h_) dX12_goes_85 ?_
            refine lv_iload_n hx hb_ dX12_goes_88 rfl (lv_at hl 1 rfl) ?_
            refine lv_iload hx hb_ dX12_goes_89 (lv_at hl 4 rfl) ?_
            refine z_iast (n := 8) hcf hK_ hw (mL hSh 46) (mK hSh 46) (mN hSh 46) (vp_in_nI (by omega) (by decide)) dX12_goes_91 (fun H_ locs_ hw => ?_)
            obtain ⟨f4, ef4⟩ : ∃ zz, zz = (upd (zA (zsI (zsA (zsA (zsA S_ (r_ 46) lf) (r_ 47) av) (r_ 48) fo) 1250 (r_ 0) (nI (cn + T.length))) (r_ 46)) ((nI pre.length) : Int32).toNatClampNeg (nI jA)) := ⟨_, rfl⟩
            rw [← ef4] at hw
            have hf4 : f4 = upd lf pre.length (nI jA) := by rw [ef4, (nI_clamp (show pre.length < 2 ^ 31 by omega)), show zA (zsI (zsA (zsA (zsA S_ (r_ 46) lf) (r_ 47) av) (r_ 48) fo) 1250 (r_ 0) (nI (cn + T.length))) (r_ 46) = _ from (zA_I.trans ((zA_ne _ _ (mNe hSh (i := 46) (j := 48) (by decide) (by decide) (by decide))).trans ((zA_ne _ _ (mNe hSh (i := 46) (j := 47) (by decide) (by decide) (by decide))).trans (zA_zsA _ _ _))))]
            rw [zsA_zsI, zsA_comm _ _ _ (mNe hSh (i := 48) (j := 46) (by decide) (by decide) (by decide)), zsA_comm _ _ _ (mNe hSh (i := 47) (j := 46) (by decide) (by decide) (by decide)), zsA_zsA] at hw
            have hSh : ShM (zsI (zsA (zsA (zsA S_ (r_ 46) f4) (r_ 47) av) (r_ 48) fo) 1250 (r_ 0) (nI (cn + T.length))) r_ := (sh_IM (sh_AM (sh_AM (sh_AM hSh0))))
            refine lv_aload_n hx hb_ dX12_goes_92 rfl (lv_at hl 0 rfl) ?_
            refine z_get (k := 12) (i := 47) (j := 1247) (v := .ref (r_ 47)) (ref := "FoldedInHalfModel") (C := RX12) (T := TX12) (N := 56) hcf hK_ hw hin12 (mL hSh 0) (mK hSh 0) rfl (by decide) (by decide) rfl rfl (congrArg va_rf (mP hSh 47)) (List.mem_of_getElem? (i := 4) rfl) (fun _ h_ => h_) dX12_goes_93 ?_
            refine lv_iload hx hb_ dX12_goes_96 (lv_at hl 4 rfl) ?_
            refine lv_iload_n hx hb_ dX12_goes_98 rfl (lv_at hl 1 rfl) ?_
            refine z_iast (n := 8) hcf hK_ hw (mL hSh 47) (mK hSh 47) (mN hSh 47) (vp_in_nI (by omega) (by decide)) dX12_goes_99 (fun H_ locs_ hw => ?_)
            obtain ⟨f5, ef5⟩ : ∃ zz, zz = (upd (zA (zsI (zsA (zsA (zsA S_ (r_ 46) f4) (r_ 47) av) (r_ 48) fo) 1250 (r_ 0) (nI (cn + T.length))) (r_ 47)) ((nI jA) : Int32).toNatClampNeg (nI pre.length)) := ⟨_, rfl⟩
            rw [← ef5] at hw
            have hf5 : f5 = upd av jA (nI pre.length) := by rw [ef5, (nI_clamp (show jA < 2 ^ 31 by omega)), show zA (zsI (zsA (zsA (zsA S_ (r_ 46) f4) (r_ 47) av) (r_ 48) fo) 1250 (r_ 0) (nI (cn + T.length))) (r_ 47) = _ from (zA_I.trans ((zA_ne _ _ (mNe hSh (i := 47) (j := 48) (by decide) (by decide) (by decide))).trans (zA_zsA _ _ _)))]
            rw [zsA_zsI, zsA_comm _ _ _ (mNe hSh (i := 48) (j := 47) (by decide) (by decide) (by decide)), zsA_zsA] at hw
            have hSh : ShM (zsI (zsA (zsA (zsA S_ (r_ 46) f4) (r_ 47) f5) (r_ 48) fo) 1250 (r_ 0) (nI (cn + T.length))) r_ := (sh_IM (sh_AM (sh_AM (sh_AM hSh0))))
            refine lv_aload_n hx hb_ dX12_goes_100 rfl (lv_at hl 0 rfl) ?_
            refine lv_iload_n hx hb_ dX12_goes_101 rfl (lv_at hl 1 rfl) ?_
            refine lv_iconst (v := 1) hx hb_ dX12_goes_102 (by decide) ?_
            refine lv_iadd hx hb_ dX12_goes_103 ?_
            refine z_topi (y := (nI (pre ++ [jA]).length)) (by rw [nI_1, List.length_append]; rfl) ?_
            refine lv_iload_n hx hb_ dX12_goes_104 rfl (lv_at hl 2 rfl) ?_
            refine lv_iload_n hx hb_ dX12_goes_105 rfl (lv_at hl 3 rfl) ?_
            refine lv_iconst (v := 1) hx hb_ dX12_goes_106 (by decide) ?_
            refine lv_iload hx hb_ dX12_goes_107 (lv_at hl 4 rfl) ?_
            refine lv_ishl hx hb_ dX12_goes_109 ?_
            refine lv_ior hx hb_ dX12_goes_110 ?_
            refine z_topi (y := (nI (un + 2 ^ jA))) (hut.1) ?_
            refine z_kv hw hA (va_runV (As := [.int (nI (pre ++ [jA]).length), .int (nI n_), .int (nI (un + 2 ^ jA))]) (rest := []) hcf (c_X12_goes_3 lau cD cy _ r_ (zsI (zsA (zsA (zsA S_ (r_ 46) f4) (r_ 47) f5) (r_ 48) fo) 1250 (r_ 0) (nI (cn + T.length))) hSh n_ (cn + T.length) ee (un + 2 ^ jA) (pre ++ [jA]) (by rw [List.length_append, List.length_singleton]; omega) hn (by rw [List.length_append, List.length_singleton]; omega) hut.2.1 (fun k_ hk => by rw [hut.2.2 k_ hk, hub k_ hk]; by_cases q_ : k_ ∈ pre <;> by_cases q2 : k_ = jA <;> simp [q_, q2]) (nd_app hnd hnm) (fun x_ hx => (List.mem_append.mp hx).elim (fun q_ => hb8 x_ q_) (fun q_ => by rw [List.mem_singleton] at q_; omega)) zI_at (by rw [hG] at hle; omega) (fun k_ hk => by rw [congrFun (show zA (zsI (zsA (zsA (zsA S_ (r_ 46) f4) (r_ 47) f5) (r_ 48) fo) 1250 (r_ 0) (nI (cn + T.length))) (r_ 46) = f4 from (zA_I.trans ((zA_ne _ _ (mNe hSh (i := 46) (j := 48) (by decide) (by decide) (by decide))).trans ((zA_ne _ _ (mNe hSh (i := 46) (j := 47) (by decide) (by decide) (by decide))).trans (zA_zsA _ _ _))))) k_, hf4]; rw [List.length_append, List.length_singleton] at hk; exact (Decidable.em (k_ = pre.length)).elim (fun q_ => by rw [q_, upd_at, gd_new]) (fun q_ => by rw [upd_no _ _ q_, hk1 k_ (by omega), gd_app (by omega)])) (fun x_ hx => by rw [congrFun (show zA (zsI (zsA (zsA (zsA S_ (r_ 46) f4) (r_ 47) f5) (r_ 48) fo) 1250 (r_ 0) (nI (cn + T.length))) (r_ 47) = f5 from (zA_I.trans ((zA_ne _ _ (mNe hSh (i := 47) (j := 48) (by decide) (by decide) (by decide))).trans (zA_zsA _ _ _)))) x_, hf5]; exact (Decidable.em (x_ = jA)).elim (fun q_ => by rw [q_, upd_at, ix_new hnm]) (fun q_ => by have hx2 : x_ ∈ pre := ((List.mem_append.mp hx).elim id (fun z_ => absurd (List.mem_singleton.mp z_) q_)); rw [upd_no _ _ q_, hk2 x_ hx2, ix_app hx2]))) (cwV 3 hts gX12_goes_X12_goes rfl rfl rfl (by decide +kernel) ⟨Nat.le_of_ble_eq_true rfl, Nat.le_of_ble_eq_true rfl⟩) (z_preV (k := 12) hK_ hE hw (mL hSh 0) (mK hSh 0) (by decide) rfl) rfl rfl hl.1 rfl (lv_room (Nat.le_of_ble_eq_true rfl)) dX12_goes_111 ⟨Nat.le_of_ble_eq_true rfl, Nat.le_of_ble_eq_true rfl⟩) (fun S7 H_ locs_ hp hw => ?_)
            obtain ⟨lf2, av2, fo2, rfl, g1, g2, g3, g4⟩ := hp
            rw [zsA_zsI, zsA_comm _ _ _ (mNe hSh (i := 48) (j := 46) (by decide) (by decide) (by decide)), zsA_comm _ _ _ (mNe hSh (i := 47) (j := 46) (by decide) (by decide) (by decide)), zsA_zsA] at hw
            rw [zsA_zsI, zsA_comm _ _ _ (mNe hSh (i := 48) (j := 47) (by decide) (by decide) (by decide)), zsA_zsA] at hw
            rw [zsA_zsI, zsA_zsA] at hw
            rw [zsI_zsI] at hw
            have hSh : ShM (zsI (zsA (zsA (zsA S_ (r_ 46) lf2) (r_ 47) av2) (r_ 48) fo2) 1250 (r_ 0) (nI (cn + T.length + (mG n_ ee (pre ++ [jA])).length))) r_ := (sh_IM (sh_AM (sh_AM (sh_AM hSh0))))
            obtain ⟨i2_, ei2⟩ : ∃ y_ : Int32, y_ = (nI jA) + 1 := ⟨_, rfl⟩
            refine lv_iinc (v := i2_) (lv' := [(4, .int i2_), (0, .ref (r_ 0)), (1, .int (nI pre.length)), (2, .int (nI n_)), (3, .int (nI un))]) hx hb_ dX12_goes_114 hl (k := 4) rfl (by rw [ei2]; rfl) (by decide) rfl (fun ls hl => ?_)
            refine lv_goto (tgt := 65) hx hb_ dX12_goes_117 (by decide) ?_
            have ecc : cn + T.length + (mG n_ ee (pre ++ [jA])).length = cn + (T ++ mG n_ ee (pre ++ [jA])).length := by rw [List.length_append]; omega
            rw [ecc] at hw
            refine ihA (jA + 1) i2_ (by rw [ei2]; exact nI_1 jA) (by omega) (by omega) lf2 av2 fo2 (T ++ mG n_ ee (pre ++ [jA])) (by rw [rg_fm, hG, hT]) (fun k_ hk => ?_) (fun x_ hx => ?_) (fun k_ hk => ?_) (fun i_ hi_ k_ hk => ?_) _ _ hw ls (lv_sub hl [1, 2, 3, 4, 0] rfl)
            · rw [g1 k_ (by rw [List.length_append]; omega), congrFun (show zA (zsI (zsA (zsA (zsA S_ (r_ 46) f4) (r_ 47) f5) (r_ 48) fo) 1250 (r_ 0) (nI (cn + T.length))) (r_ 46) = f4 from (zA_I.trans ((zA_ne _ _ (mNe hSh (i := 46) (j := 48) (by decide) (by decide) (by decide))).trans ((zA_ne _ _ (mNe hSh (i := 46) (j := 47) (by decide) (by decide) (by decide))).trans (zA_zsA _ _ _))))) k_, hf4, upd_no _ _ (by omega)]; exact hk1 k_ hk
            · rw [g2 x_ (List.mem_append_left _ hx), congrFun (show zA (zsI (zsA (zsA (zsA S_ (r_ 46) f4) (r_ 47) f5) (r_ 48) fo) 1250 (r_ 0) (nI (cn + T.length))) (r_ 47) = f5 from (zA_I.trans ((zA_ne _ _ (mNe hSh (i := 47) (j := 48) (by decide) (by decide) (by decide))).trans (zA_zsA _ _ _)))) x_, hf5, upd_no _ _ (fun q_ => hnm (by rw [← q_]; exact hx))]; exact hk2 x_ hx
            · rw [g3 k_ (by omega), congrFun (show zA (zsI (zsA (zsA (zsA S_ (r_ 46) f4) (r_ 47) f5) (r_ 48) fo) 1250 (r_ 0) (nI (cn + T.length))) (r_ 48) = fo from (zA_I.trans (zA_zsA _ _ _))) k_]; exact hk3 k_ hk
            · rcases Nat.lt_or_ge i_ T.length with q_ | q_
              · rw [g3 _ (by omega), congrFun (show zA (zsI (zsA (zsA (zsA S_ (r_ 46) f4) (r_ 47) f5) (r_ 48) fo) 1250 (r_ 0) (nI (cn + T.length))) (r_ 48) = fo from (zA_I.trans (zA_zsA _ _ _))) _, hk4 i_ q_ k_ hk, List.getD_eq_getElem?_getD (l := T), List.getD_eq_getElem?_getD (l := T ++ _), List.getElem?_append_left q_]
              · rw [List.length_append] at hi_
                have := g4 (i_ - T.length) (by omega) k_ hk
                rw [show cn + T.length + (i_ - T.length) = cn + i_ by omega] at this
                rw [this, List.getD_eq_getElem?_getD (l := mG n_ ee (pre ++ [jA])), List.getD_eq_getElem?_getD (l := T ++ _), List.getElem?_append_right q_]
          · refine lv_goto (tgt := 114) hx hb_ dX12_goes_81 (by decide) ?_
            obtain ⟨i2_, ei2⟩ : ∃ y_ : Int32, y_ = (nI jA) + 1 := ⟨_, rfl⟩
            refine lv_iinc (v := i2_) (lv' := [(4, .int i2_), (0, .ref (r_ 0)), (1, .int (nI pre.length)), (2, .int (nI n_)), (3, .int (nI un))]) hx hb_ dX12_goes_114 hl (k := 4) rfl (by rw [ei2]; rfl) (by decide) rfl (fun ls hl => ?_)
            refine lv_goto (tgt := 65) hx hb_ dX12_goes_117 (by decide) ?_
            have hin : jA ∈ pre := of_decide_eq_true (by rw [← hub jA (by omega), ← ub_s jA (by omega) un hu]; exact decide_eq_true c_78)
            have hG : mGf n_ ee pre jA = [] := if_pos hin
            exact ihA (jA + 1) i2_ (by rw [ei2]; exact nI_1 jA) (by omega) (by omega) lf av fo T (by rw [rg_fm, hG, List.append_nil]; exact hT) hk1 hk2 hk3 hk4 _ _ hw ls (lv_sub hl [1, 2, 3, 4, 0] rfl)
    exact JA (n_ + 1) 0 0 nI_0.symm (Nat.zero_le _) (by omega) (zA S_ (r_ 46)) (zA S_ (r_ 47)) (zA S_ (r_ 48)) [] rfl hlf hat (fun k_ hk => rfl) (fun i_ hi_ => absurd hi_ (Nat.not_lt_zero i_)) _ _ (by rw [zsA_self, zsA_self, zsA_self, show cn + ([] : List (List Nat)).length = cn from rfl, zsI_self hcc]; exact hw) ls (lv_sub hl [1, 2, 3, 4, 0] rfl)

set_option maxHeartbeats 1000000 in
set_option maxRecDepth 100000 in
theorem c_X12_goes_5 (lau : Launch) (cD : va_G) (cy : Nat → ClassId) (sz_ : Nat) (r_ : Nat → Nat) (S_ : zS) (hSh : ShM S_ r_) (n_ cn ee un : Nat) (pre : List Nat) (hd : pre.length + 5 = 8) (hn : n_ ≤ 8) (hlen : pre.length + ee = n_) (hu : un < 256) (hub : ∀ k_, k_ < 8 → nbit un k_ = decide (k_ ∈ pre)) (hnd : pre.Nodup) (hb8 : ∀ x_, x_ ∈ pre → x_ < n_) (hcc : zI S_ 1250 (r_ 0) = nI cn) (hct : cn + (mG n_ ee pre).length ≤ 1392) (hlf : ∀ k_, k_ < pre.length → zA S_ (r_ 46) k_ = nI (pre.getD k_ 0)) (hat : ∀ x_, x_ ∈ pre → zA S_ (r_ 47) x_ = nI (pre.idxOf x_)) : Met lau yX12_goes wsX12_goes ({ frames := 6, cells := 0, slots := 0, locals := 147 } : Room) (va_Pc [.ref (r_ 0), .int (nI pre.length), .int (nI n_), .int (nI un)] (zPre cD cy S_ sz_)) (va_Qv (fun (S1 : zS) => ∃ lf av fo : Nat → Int32, S1 = zsI (zsA (zsA (zsA S_ (r_ 46) lf) (r_ 47) av) (r_ 48) fo) 1250 (r_ 0) (nI (cn + (mG n_ ee pre).length)) ∧ (∀ k_, k_ < pre.length → lf k_ = zA S_ (r_ 46) k_) ∧ (∀ x_, x_ ∈ pre → av x_ = zA S_ (r_ 47) x_) ∧ (∀ k_, k_ < 8 * cn → fo k_ = zA S_ (r_ 48) k_) ∧ (∀ i_, i_ < (mG n_ ee pre).length → ∀ k_, k_ < n_ → fo (8 * (cn + i_) + k_) = nI (((mG n_ ee pre).getD i_ []).getD k_ 0))) (zPost cD cy (zAd cy S_ sz_)) (zAd cy S_ sz_)) 0 0 (zAd cy S_ sz_) := by
  refine z_ofW (cc := cX12_goes) (maxL := 5) (ret := none) (own := RX12) (QQ := fun A_ => va_Qv (fun (S1 : zS) => ∃ lf av fo : Nat → Int32, S1 = zsI (zsA (zsA (zsA S_ (r_ 46) lf) (r_ 47) av) (r_ 48) fo) 1250 (r_ 0) (nI (cn + (mG n_ ee pre).length)) ∧ (∀ k_, k_ < pre.length → lf k_ = zA S_ (r_ 46) k_) ∧ (∀ x_, x_ ∈ pre → av x_ = zA S_ (r_ 47) x_) ∧ (∀ k_, k_ < 8 * cn → fo k_ = zA S_ (r_ 48) k_) ∧ (∀ i_, i_ < (mG n_ ee pre).length → ∀ k_, k_ < n_ → fo (8 * (cn + i_) + k_) = nI (((mG n_ ee pre).getD i_ []).getD k_ 0))) (zPost cD cy A_) A_) (by decide) rfl rfl (Nat.le_of_ble_eq_true rfl) ?_
  intro p_ e_ s_ m_ args_ below_ meth_ c_ A_ ls hcf hr hlk hnm hK_ hE hw hA hl
  obtain ⟨hx, hb_, hml, hown, hts⟩ := id hcf
  have hin12 : ∀ w_ ∈ wsX120, w_ ∈ wsX12_goes := fun w_ h_ => (List.mem_cons_of_mem _ (List.mem_append_right _ h_))
  have hl : lv_has ls 5 [(0, .ref (r_ 0)), (1, .int (nI pre.length)), (2, .int (nI n_)), (3, .int (nI un))] := hl
  have hSh0 := hSh
  cases ee with
  | zero =>
    have hall : ∀ k_, k_ < n_ → k_ ∈ pre := fun k_ hk => nd_all hnd hb8 (by omega) hk
    refine lv_iload_n hx hb_ dX12_goes_0 rfl (lv_at hl 1 rfl) ?_
    refine lv_iload_n hx hb_ dX12_goes_1 rfl (lv_at hl 2 rfl) ?_
    refine lv_icmp_ne (tgt := 62) hx hb_ dX12_goes_2 (by decide) (fun c_2 => absurd c_2 (fun q_ => q_ (congrArg nI (by omega)))) (fun c_2 => ?_)
    refine lv_aload_n hx hb_ dX12_goes_5 rfl (lv_at hl 0 rfl) ?_
    refine lv_iload_n hx hb_ dX12_goes_6 rfl (lv_at hl 2 rfl) ?_
    refine z_ki hw hA (va_runV (As := [.int (nI n_)]) (rest := []) hcf (c_X12_isCrossed lau cD cy _ r_ S_ hSh n_ pre hn (by omega) hall (fun k_ hk => hat k_ (hall k_ hk))) (cwV 1 hts gX12_goes_X12_isCrossed rfl rfl rfl (by decide +kernel) ⟨Nat.le_of_ble_eq_true rfl, Nat.le_of_ble_eq_true rfl⟩) (z_preV (k := 12) hK_ hE hw (mL hSh 0) (mK hSh 0) (by decide) rfl) rfl rfl hl.1 rfl (lv_room (Nat.le_of_ble_eq_true rfl)) dX12_goes_7 ⟨Nat.le_of_ble_eq_true rfl, Nat.le_of_ble_eq_true rfl⟩) (fun v1 S2 H_ locs_ hp hw => ?_)
    obtain ⟨hv1, rfl⟩ := hp
    refine lv_if_eq (tgt := 14) hx hb_ dX12_goes_10 (by decide) (fun c_10 => ?_) (fun c_10 => ?_)
    · have hG : mG n_ 0 pre = [pre] := by rw [mG]; exact if_pos (Classical.byContradiction fun q_ => absurd c_10 (by rw [hv1, if_neg q_]; decide))
      have hcn : cn + 1 ≤ 1392 := by rw [hG] at hct; exact hct
      refine lv_iconst (v := 0) hx hb_ dX12_goes_14 (by decide) ?_
      refine lv_istore (lv' := [(4, .int 0), (0, .ref (r_ 0)), (1, .int (nI pre.length)), (2, .int (nI n_)), (3, .int (nI un))]) hx hb_ dX12_goes_15 hl (by decide) rfl (fun ls hl => ?_)
      have JD : ∀ (nD jD : Nat) (iD : Int32), iD = nI jD → jD ≤ n_ → n_ < jD + nD → ∀ (fo : Nat → Int32), (∀ k_, k_ < 8 * cn → fo k_ = zA S_ (r_ 48) k_) → (∀ k_, k_ < jD → fo (8 * cn + k_) = nI (pre.getD k_ 0)) → ∀ (H_ : Heap) (locs_ : List Loc), zPw cD cy A_ s_.heap (zsA S_ (r_ 48) fo) H_ locs_ → ∀ ls : Array Slot, lv_has ls 5 [(0, .ref (r_ 0)), (1, .int (nI pre.length)), (2, .int (nI n_)), (3, .int (nI un)), (4, .int iD)] → W p_ lau e_ ({ frames := 6, cells := 0, slots := 0, locals := 147 } : Room) s_ m_ args_ below_ meth_ c_ H_ locs_ 0 0 (MQ below_ (va_Qv (fun (S1 : zS) => ∃ lf av fo : Nat → Int32, S1 = zsI (zsA (zsA (zsA S_ (r_ 46) lf) (r_ 47) av) (r_ 48) fo) 1250 (r_ 0) (nI (cn + (mG n_ 0 pre).length)) ∧ (∀ k_, k_ < pre.length → lf k_ = zA S_ (r_ 46) k_) ∧ (∀ x_, x_ ∈ pre → av x_ = zA S_ (r_ 47) x_) ∧ (∀ k_, k_ < 8 * cn → fo k_ = zA S_ (r_ 48) k_) ∧ (∀ i_, i_ < (mG n_ 0 pre).length → ∀ k_, k_ < n_ → fo (8 * (cn + i_) + k_) = nI (((mG n_ 0 pre).getD i_ []).getD k_ 0))) (zPost cD cy A_) A_) args_ s_ 0 0 A_) (F0 m_ 17 ls []) := by
        intro nD
        induction nD with
        | zero => intro jD iD _ hjD h_; exact absurd h_ (by omega)
        | succ nD ihD =>
          intro jD iD eiD hjD hmD fo hf1 hf2 H_ locs_ hw ls hl
          have hSh : ShM (zsA S_ (r_ 48) fo) r_ := (sh_AM hSh0)
          refine lv_iload hx hb_ dX12_goes_17 (lv_at hl 4 rfl) ?_
          refine lv_iload_n hx hb_ dX12_goes_19 rfl (lv_at hl 2 rfl) ?_
          refine lv_icmp_ge (tgt := 51) hx hb_ dX12_goes_20 (by decide) (fun c_20 => ?_) (fun c_20 => ?_)
          · refine lv_aload_n hx hb_ dX12_goes_51 rfl (lv_at hl 0 rfl) ?_
            refine lv_dup hx hb_ dX12_goes_52 rfl ?_
            refine z_get (k := 12) (i := 50) (j := 1250) (v := .int (nI cn)) (ref := "FoldedInHalfModel") (C := RX12) (T := TX12) (N := 56) hcf hK_ hw hin12 (mL hSh 0) (mK hSh 0) rfl (by decide) (by decide) rfl rfl (congrArg Value.int hcc) (List.mem_of_getElem? (i := 2) rfl) (fun _ h_ => h_) dX12_goes_53 ?_
            refine lv_iconst (v := 1) hx hb_ dX12_goes_56 (by decide) ?_
            refine lv_iadd hx hb_ dX12_goes_57 ?_
            refine z_topi (y := (nI (cn + 1))) (nI_1 cn) ?_
            refine z_putI (k := 12) (i := 50) (j := 1250) (x := (nI (cn + 1))) (v := .int (nI (cn + 1))) (ty := .int) (ref := "FoldedInHalfModel") (C := RX12) (T := TX12) (N := 56) tyX12 hcf hK_ hw hin12 tyX12_ok nmX12 (mL hSh 0) (mK hSh 0) rfl (by decide) (by decide) rfl rfl (List.mem_of_getElem? (i := 2) rfl) (fun _ h_ => h_) rfl rfl (by decide +kernel) rfl rfl dX12_goes_58 (fun H_ locs_ hw => ?_)
            have hSh : ShM (zsI (zsA S_ (r_ 48) fo) 1250 (r_ 0) (nI (cn + 1))) r_ := (sh_IM (sh_AM hSh0))
            exact z_vret hcf hr hlk hw ((by have hj : jD = n_ := (by have := zn_ge eiD rfl (by omega) c_20; omega); rw [hG]; exact ⟨zA S_ (r_ 46), zA S_ (r_ 47), fo, by rw [zsA_self, zsA_self]; rfl, fun k_ hk => rfl, fun x_ hx => rfl, hf1, fun i_ hi_ k_ hk => by have e0 : i_ = 0 := (by simp at hi_; omega); subst e0; exact hf2 k_ (by omega)⟩)) dX12_goes_61
          · have hlt : jD < n_ := zn_lt eiD rfl (by omega) c_20
            refine lv_aload_n hx hb_ dX12_goes_23 rfl (lv_at hl 0 rfl) ?_
            refine z_get (k := 12) (i := 48) (j := 1248) (v := .ref (r_ 48)) (ref := "FoldedInHalfModel") (C := RX12) (T := TX12) (N := 56) hcf hK_ hw hin12 (mL hSh 0) (mK hSh 0) rfl (by decide) (by decide) rfl rfl (congrArg va_rf (mP hSh 48)) (List.mem_of_getElem? (i := 1) rfl) (fun _ h_ => h_) dX12_goes_24 ?_
            refine lv_bipush (v := 8) hx hb_ dX12_goes_27 (by decide) ?_
            refine lv_aload_n hx hb_ dX12_goes_29 rfl (lv_at hl 0 rfl) ?_
            refine z_get (k := 12) (i := 50) (j := 1250) (v := .int (nI cn)) (ref := "FoldedInHalfModel") (C := RX12) (T := TX12) (N := 56) hcf hK_ hw hin12 (mL hSh 0) (mK hSh 0) rfl (by decide) (by decide) rfl rfl (congrArg Value.int hcc) (List.mem_of_getElem? (i := 2) rfl) (fun _ h_ => h_) dX12_goes_30 ?_
            refine lv_imul hx hb_ dX12_goes_33 ?_
            refine lv_iload hx hb_ dX12_goes_34 (lv_at hl 4 rfl) ?_
            refine lv_iadd hx hb_ dX12_goes_36 ?_
            refine z_topi (y := (nI (8 * cn + jD))) (by rw [eiD, show (8 : Int32) * nI cn = nI (8 * cn) from pk_mul 8 cn, nI_add]) ?_
            refine lv_aload_n hx hb_ dX12_goes_37 rfl (lv_at hl 0 rfl) ?_
            refine z_get (k := 12) (i := 46) (j := 1246) (v := .ref (r_ 46)) (ref := "FoldedInHalfModel") (C := RX12) (T := TX12) (N := 56) hcf hK_ hw hin12 (mL hSh 0) (mK hSh 0) rfl (by decide) (by decide) rfl rfl (congrArg va_rf (mP hSh 46)) (List.mem_of_getElem? (i := 3) rfl) (fun _ h_ => h_) dX12_goes_38 ?_
            refine lv_iload hx hb_ dX12_goes_41 (lv_at hl 4 rfl) ?_
            refine z_iald (n := 8) hcf hK_ hw (mL hSh 46) (mK hSh 46) (mN hSh 46) (by rw [eiD]; exact vp_in_nI (by omega) (by decide)) dX12_goes_43 ?_
            refine z_topi (y := (nI (pre.getD jD 0))) (by rw [(show iD.toNatClampNeg = jD by rw [eiD]; exact nI_clamp (by omega))]; exact (congrFun (show zA (zsA S_ (r_ 48) fo) (r_ 46) = (zA S_ (r_ 46)) from (zA_ne _ _ (mNe hSh (i := 46) (j := 48) (by decide) (by decide) (by decide)))) jD).trans (hlf jD (by omega))) ?_
            refine z_iast (n := 11136) hcf hK_ hw (mL hSh 48) (mK hSh 48) (mN hSh 48) (vp_in_nI (by omega) (by decide)) dX12_goes_44 (fun H_ locs_ hw => ?_)
            obtain ⟨f3_, ef3⟩ : ∃ zz, zz = (upd (zA (zsA S_ (r_ 48) fo) (r_ 48)) ((nI (8 * cn + jD)) : Int32).toNatClampNeg (nI (pre.getD jD 0))) := ⟨_, rfl⟩
            rw [← ef3] at hw
            have hf3 : f3_ = upd fo ((8 * cn + jD)) (nI (pre.getD jD 0)) := by rw [ef3, (nI_clamp (show (8 * cn + jD) < 2 ^ 31 by omega)), show zA (zsA S_ (r_ 48) fo) (r_ 48) = _ from (zA_zsA _ _ _)]
            rw [zsA_zsA] at hw
            have hSh : ShM (zsA S_ (r_ 48) f3_) r_ := (sh_AM hSh0)
            obtain ⟨i4, ei4⟩ : ∃ y_ : Int32, y_ = iD + 1 := ⟨_, rfl⟩
            refine lv_iinc (v := i4) (lv' := [(4, .int i4), (0, .ref (r_ 0)), (1, .int (nI pre.length)), (2, .int (nI n_)), (3, .int (nI un))]) hx hb_ dX12_goes_45 hl (k := 4) rfl (by rw [ei4]; rfl) (by decide) rfl (fun ls hl => ?_)
            refine lv_goto (tgt := 17) hx hb_ dX12_goes_48 (by decide) ?_
            exact ihD (jD + 1) i4 (by rw [ei4, eiD]; exact nI_1 jD) hlt (by omega) f3_ (fun k_ hk => by rw [hf3, upd_no _ _ (by omega)]; exact hf1 k_ hk) (fun k_ hk => by rw [hf3]; exact (Nat.lt_or_ge k_ jD).elim (fun q_ => by rw [upd_no _ _ (by omega)]; exact hf2 k_ q_) (fun q_ => by have e_ := (show k_ = jD by omega); subst e_; exact upd_at _ _ _)) _ _ hw ls (lv_sub hl [1, 2, 3, 4, 0] rfl)
      exact JD (n_ + 1) 0 0 nI_0.symm (Nat.zero_le _) (by omega) (zA S_ (r_ 48)) (fun k_ hk => rfl) (fun k_ hk => absurd hk (Nat.not_lt_zero k_)) _ _ (by rw [zsA_self]; exact hw) ls (lv_sub hl [1, 2, 3, 4, 0] rfl)
    · exact z_vret hcf hr hlk hw ((by have hG : mG n_ 0 pre = [] := (by rw [mG]; exact if_neg (fun q_ => c_10 (by rw [hv1, if_pos q_]))); rw [hG]; exact ⟨zA S_ (r_ 46), zA S_ (r_ 47), zA S_ (r_ 48), by rw [zsA_self, zsA_self, zsA_self]; exact (zsI_self hcc).symm, fun k_ hk => rfl, fun x_ hx => rfl, fun k_ hk => rfl, fun i_ hi_ => absurd hi_ (Nat.not_lt_zero i_)⟩)) dX12_goes_13
  | succ ee =>
    refine lv_iload_n hx hb_ dX12_goes_0 rfl (lv_at hl 1 rfl) ?_
    refine lv_iload_n hx hb_ dX12_goes_1 rfl (lv_at hl 2 rfl) ?_
    refine lv_icmp_ne (tgt := 62) hx hb_ dX12_goes_2 (by decide) (fun c_2 => ?_) (fun c_2 => absurd c_2 (fun q_ => absurd ((nI_eq (by omega) (by omega)).mp q_) (by omega)))
    refine lv_iconst (v := 0) hx hb_ dX12_goes_62 (by decide) ?_
    refine lv_istore (lv' := [(4, .int 0), (0, .ref (r_ 0)), (1, .int (nI pre.length)), (2, .int (nI n_)), (3, .int (nI un))]) hx hb_ dX12_goes_63 hl (by decide) rfl (fun ls hl => ?_)
    have JA : ∀ (nA jA : Nat) (iA : Int32), iA = nI jA → jA ≤ n_ → n_ < jA + nA → ∀ (lf av fo : Nat → Int32) (T : List (List Nat)), T = (List.range jA).flatMap (mGf n_ ee pre) → (∀ k_, k_ < pre.length → lf k_ = nI (pre.getD k_ 0)) → (∀ x_, x_ ∈ pre → av x_ = nI (pre.idxOf x_)) → (∀ k_, k_ < 8 * cn → fo k_ = zA S_ (r_ 48) k_) → (∀ i_, i_ < T.length → ∀ k_, k_ < n_ → fo (8 * (cn + i_) + k_) = nI ((T.getD i_ []).getD k_ 0)) → ∀ (H_ : Heap) (locs_ : List Loc), zPw cD cy A_ s_.heap (zsI (zsA (zsA (zsA S_ (r_ 46) lf) (r_ 47) av) (r_ 48) fo) 1250 (r_ 0) (nI (cn + T.length))) H_ locs_ → ∀ ls : Array Slot, lv_has ls 5 [(0, .ref (r_ 0)), (1, .int (nI pre.length)), (2, .int (nI n_)), (3, .int (nI un)), (4, .int iA)] → W p_ lau e_ ({ frames := 6, cells := 0, slots := 0, locals := 147 } : Room) s_ m_ args_ below_ meth_ c_ H_ locs_ 0 0 (MQ below_ (va_Qv (fun (S1 : zS) => ∃ lf av fo : Nat → Int32, S1 = zsI (zsA (zsA (zsA S_ (r_ 46) lf) (r_ 47) av) (r_ 48) fo) 1250 (r_ 0) (nI (cn + (mG n_ (ee + 1) pre).length)) ∧ (∀ k_, k_ < pre.length → lf k_ = zA S_ (r_ 46) k_) ∧ (∀ x_, x_ ∈ pre → av x_ = zA S_ (r_ 47) x_) ∧ (∀ k_, k_ < 8 * cn → fo k_ = zA S_ (r_ 48) k_) ∧ (∀ i_, i_ < (mG n_ (ee + 1) pre).length → ∀ k_, k_ < n_ → fo (8 * (cn + i_) + k_) = nI (((mG n_ (ee + 1) pre).getD i_ []).getD k_ 0))) (zPost cD cy A_) A_) args_ s_ 0 0 A_) (F0 m_ 65 ls []) := by
      intro nA
      induction nA with
      | zero => intro jA iA _ hjA h_; exact absurd h_ (by omega)
      | succ nA ihA =>
        intro jA iA eiA hjA hmA lf av fo T hT hk1 hk2 hk3 hk4 H_ locs_ hw ls hl
        subst eiA
        have hSh : ShM (zsI (zsA (zsA (zsA S_ (r_ 46) lf) (r_ 47) av) (r_ 48) fo) 1250 (r_ 0) (nI (cn + T.length))) r_ := (sh_IM (sh_AM (sh_AM (sh_AM hSh0))))
        refine lv_iload hx hb_ dX12_goes_65 (lv_at hl 4 rfl) ?_
        refine lv_iload_n hx hb_ dX12_goes_67 rfl (lv_at hl 2 rfl) ?_
        refine lv_icmp_ge (tgt := 120) hx hb_ dX12_goes_68 (by decide) (fun c_68 => ?_) (fun c_68 => ?_)
        · exact z_vret hcf hr hlk hw ((by have hj : jA = n_ := (by have := zn_ge rfl rfl (by omega) c_68; omega); have hTG : T = mG n_ (ee + 1) pre := (by rw [hT, hj]; rfl); exact ⟨lf, av, fo, by rw [hTG], fun k_ hk => (hk1 k_ hk).trans (hlf k_ hk).symm, fun x_ hx => (hk2 x_ hx).trans (hat x_ hx).symm, hk3, by rw [← hTG]; exact hk4⟩)) dX12_goes_120
        · have hlt : jA < n_ := zn_lt rfl rfl (by omega) c_68
          have hle : T.length + (mGf n_ ee pre jA).length ≤ (mG n_ (ee + 1) pre).length := by have := rg_le (mGf n_ ee pre) (show jA + 1 ≤ n_ by omega); rw [rg_fm, List.length_append, ← hT, ← mG_eq] at this; exact this
          refine lv_iload_n hx hb_ dX12_goes_71 rfl (lv_at hl 3 rfl) ?_
          refine lv_iload hx hb_ dX12_goes_72 (lv_at hl 4 rfl) ?_
          refine lv_ishr hx hb_ dX12_goes_74 ?_
          refine lv_iconst (v := 1) hx hb_ dX12_goes_75 (by decide) ?_
          refine lv_iand hx hb_ dX12_goes_76 ?_
          refine lv_iconst (v := 1) hx hb_ dX12_goes_77 (by decide) ?_
          refine lv_icmp_ne (tgt := 84) hx hb_ dX12_goes_78 (by decide) (fun c_78 => ?_) (fun c_78 => ?_)
          · have hnb : nbit un jA = false := by rw [← ub_s jA (by omega) un hu]; exact decide_eq_false c_78
            have hnm : jA ∉ pre := of_decide_eq_false (by rw [← hub jA (by omega)]; exact hnb)
            have hG : mGf n_ ee pre jA = mG n_ ee (pre ++ [jA]) := if_neg hnm
            have hut := ub_t jA (by omega) un hu hnb
            refine lv_aload_n hx hb_ dX12_goes_84 rfl (lv_at hl 0 rfl) ?_
            refine z_get (k := 12) (i := 46) (j := 1246) (v := .ref (r_ 46)) (ref := "FoldedInHalfModel") (C := RX12) (T := TX12) (N := 56) hcf hK_ hw hin12 (mL hSh 0) (mK hSh 0) rfl (by decide) (by decide) rfl rfl (congrArg va_rf (mP hSh 46)) (List.mem_of_getElem? (i := 3) rfl) (fun _ h_ => h_) dX12_goes_85 ?_
            refine lv_iload_n hx hb_ dX12_goes_88 rfl (lv_at hl 1 rfl) ?_
            refine lv_iload hx hb_ dX12_goes_89 (lv_at hl 4 rfl) ?_
            refine z_iast (n := 8) hcf hK_ hw (mL hSh 46) (mK hSh 46) (mN hSh 46) (vp_in_nI (by omega) (by decide)) dX12_goes_91 (fun H_ locs_ hw => ?_)
            obtain ⟨f4, ef4⟩ : ∃ zz, zz = (upd (zA (zsI (zsA (zsA (zsA S_ (r_ 46) lf) (r_ 47) av) (r_ 48) fo) 1250 (r_ 0) (nI (cn + T.length))) (r_ 46)) ((nI pre.length) : Int32).toNatClampNeg (nI jA)) := ⟨_, rfl⟩
            rw [← ef4] at hw
            have hf4 : f4 = upd lf pre.length (nI jA) := by rw [ef4, (nI_clamp (show pre.length < 2 ^ 31 by omega)), show zA (zsI (zsA (zsA (zsA S_ (r_ 46) lf) (r_ 47) av) (r_ 48) fo) 1250 (r_ 0) (nI (cn + T.length))) (r_ 46) = _ from (zA_I.trans ((zA_ne _ _ (mNe hSh (i := 46) (j := 48) (by decide) (by decide) (by decide))).trans ((zA_ne _ _ (mNe hSh (i := 46) (j := 47) (by decide) (by decide) (by decide))).trans (zA_zsA _ _ _))))]
            rw [zsA_zsI, zsA_comm _ _ _ (mNe hSh (i := 48) (j := 46) (by decide) (by decide) (by decide)), zsA_comm _ _ _ (mNe hSh (i := 47) (j := 46) (by decide) (by decide) (by decide)), zsA_zsA] at hw
            have hSh : ShM (zsI (zsA (zsA (zsA S_ (r_ 46) f4) (r_ 47) av) (r_ 48) fo) 1250 (r_ 0) (nI (cn + T.length))) r_ := (sh_IM (sh_AM (sh_AM (sh_AM hSh0))))
            refine lv_aload_n hx hb_ dX12_goes_92 rfl (lv_at hl 0 rfl) ?_
            refine z_get (k := 12) (i := 47) (j := 1247) (v := .ref (r_ 47)) (ref := "FoldedInHalfModel") (C := RX12) (T := TX12) (N := 56) hcf hK_ hw hin12 (mL hSh 0) (mK hSh 0) rfl (by decide) (by decide) rfl rfl (congrArg va_rf (mP hSh 47)) (List.mem_of_getElem? (i := 4) rfl) (fun _ h_ => h_) dX12_goes_93 ?_
            refine lv_iload hx hb_ dX12_goes_96 (lv_at hl 4 rfl) ?_
            refine lv_iload_n hx hb_ dX12_goes_98 rfl (lv_at hl 1 rfl) ?_
            refine z_iast (n := 8) hcf hK_ hw (mL hSh 47) (mK hSh 47) (mN hSh 47) (vp_in_nI (by omega) (by decide)) dX12_goes_99 (fun H_ locs_ hw => ?_)
            obtain ⟨f5, ef5⟩ : ∃ zz, zz = (upd (zA (zsI (zsA (zsA (zsA S_ (r_ 46) f4) (r_ 47) av) (r_ 48) fo) 1250 (r_ 0) (nI (cn + T.length))) (r_ 47)) ((nI jA) : Int32).toNatClampNeg (nI pre.length)) := ⟨_, rfl⟩
            rw [← ef5] at hw
            have hf5 : f5 = upd av jA (nI pre.length) := by rw [ef5, (nI_clamp (show jA < 2 ^ 31 by omega)), show zA (zsI (zsA (zsA (zsA S_ (r_ 46) f4) (r_ 47) av) (r_ 48) fo) 1250 (r_ 0) (nI (cn + T.length))) (r_ 47) = _ from (zA_I.trans ((zA_ne _ _ (mNe hSh (i := 47) (j := 48) (by decide) (by decide) (by decide))).trans (zA_zsA _ _ _)))]
            rw [zsA_zsI, zsA_comm _ _ _ (mNe hSh (i := 48) (j := 47) (by decide) (by decide) (by decide)), zsA_zsA] at hw
            have hSh : ShM (zsI (zsA (zsA (zsA S_ (r_ 46) f4) (r_ 47) f5) (r_ 48) fo) 1250 (r_ 0) (nI (cn + T.length))) r_ := (sh_IM (sh_AM (sh_AM (sh_AM hSh0))))
            refine lv_aload_n hx hb_ dX12_goes_100 rfl (lv_at hl 0 rfl) ?_
            refine lv_iload_n hx hb_ dX12_goes_101 rfl (lv_at hl 1 rfl) ?_
            refine lv_iconst (v := 1) hx hb_ dX12_goes_102 (by decide) ?_
            refine lv_iadd hx hb_ dX12_goes_103 ?_
            refine z_topi (y := (nI (pre ++ [jA]).length)) (by rw [nI_1, List.length_append]; rfl) ?_
            refine lv_iload_n hx hb_ dX12_goes_104 rfl (lv_at hl 2 rfl) ?_
            refine lv_iload_n hx hb_ dX12_goes_105 rfl (lv_at hl 3 rfl) ?_
            refine lv_iconst (v := 1) hx hb_ dX12_goes_106 (by decide) ?_
            refine lv_iload hx hb_ dX12_goes_107 (lv_at hl 4 rfl) ?_
            refine lv_ishl hx hb_ dX12_goes_109 ?_
            refine lv_ior hx hb_ dX12_goes_110 ?_
            refine z_topi (y := (nI (un + 2 ^ jA))) (hut.1) ?_
            refine z_kv hw hA (va_runV (As := [.int (nI (pre ++ [jA]).length), .int (nI n_), .int (nI (un + 2 ^ jA))]) (rest := []) hcf (c_X12_goes_4 lau cD cy _ r_ (zsI (zsA (zsA (zsA S_ (r_ 46) f4) (r_ 47) f5) (r_ 48) fo) 1250 (r_ 0) (nI (cn + T.length))) hSh n_ (cn + T.length) ee (un + 2 ^ jA) (pre ++ [jA]) (by rw [List.length_append, List.length_singleton]; omega) hn (by rw [List.length_append, List.length_singleton]; omega) hut.2.1 (fun k_ hk => by rw [hut.2.2 k_ hk, hub k_ hk]; by_cases q_ : k_ ∈ pre <;> by_cases q2 : k_ = jA <;> simp [q_, q2]) (nd_app hnd hnm) (fun x_ hx => (List.mem_append.mp hx).elim (fun q_ => hb8 x_ q_) (fun q_ => by rw [List.mem_singleton] at q_; omega)) zI_at (by rw [hG] at hle; omega) (fun k_ hk => by rw [congrFun (show zA (zsI (zsA (zsA (zsA S_ (r_ 46) f4) (r_ 47) f5) (r_ 48) fo) 1250 (r_ 0) (nI (cn + T.length))) (r_ 46) = f4 from (zA_I.trans ((zA_ne _ _ (mNe hSh (i := 46) (j := 48) (by decide) (by decide) (by decide))).trans ((zA_ne _ _ (mNe hSh (i := 46) (j := 47) (by decide) (by decide) (by decide))).trans (zA_zsA _ _ _))))) k_, hf4]; rw [List.length_append, List.length_singleton] at hk; exact (Decidable.em (k_ = pre.length)).elim (fun q_ => by rw [q_, upd_at, gd_new]) (fun q_ => by rw [upd_no _ _ q_, hk1 k_ (by omega), gd_app (by omega)])) (fun x_ hx => by rw [congrFun (show zA (zsI (zsA (zsA (zsA S_ (r_ 46) f4) (r_ 47) f5) (r_ 48) fo) 1250 (r_ 0) (nI (cn + T.length))) (r_ 47) = f5 from (zA_I.trans ((zA_ne _ _ (mNe hSh (i := 47) (j := 48) (by decide) (by decide) (by decide))).trans (zA_zsA _ _ _)))) x_, hf5]; exact (Decidable.em (x_ = jA)).elim (fun q_ => by rw [q_, upd_at, ix_new hnm]) (fun q_ => by have hx2 : x_ ∈ pre := ((List.mem_append.mp hx).elim id (fun z_ => absurd (List.mem_singleton.mp z_) q_)); rw [upd_no _ _ q_, hk2 x_ hx2, ix_app hx2]))) (cwV 3 hts gX12_goes_X12_goes rfl rfl rfl (by decide +kernel) ⟨Nat.le_of_ble_eq_true rfl, Nat.le_of_ble_eq_true rfl⟩) (z_preV (k := 12) hK_ hE hw (mL hSh 0) (mK hSh 0) (by decide) rfl) rfl rfl hl.1 rfl (lv_room (Nat.le_of_ble_eq_true rfl)) dX12_goes_111 ⟨Nat.le_of_ble_eq_true rfl, Nat.le_of_ble_eq_true rfl⟩) (fun S7 H_ locs_ hp hw => ?_)
            obtain ⟨lf2, av2, fo2, rfl, g1, g2, g3, g4⟩ := hp
            rw [zsA_zsI, zsA_comm _ _ _ (mNe hSh (i := 48) (j := 46) (by decide) (by decide) (by decide)), zsA_comm _ _ _ (mNe hSh (i := 47) (j := 46) (by decide) (by decide) (by decide)), zsA_zsA] at hw
            rw [zsA_zsI, zsA_comm _ _ _ (mNe hSh (i := 48) (j := 47) (by decide) (by decide) (by decide)), zsA_zsA] at hw
            rw [zsA_zsI, zsA_zsA] at hw
            rw [zsI_zsI] at hw
            have hSh : ShM (zsI (zsA (zsA (zsA S_ (r_ 46) lf2) (r_ 47) av2) (r_ 48) fo2) 1250 (r_ 0) (nI (cn + T.length + (mG n_ ee (pre ++ [jA])).length))) r_ := (sh_IM (sh_AM (sh_AM (sh_AM hSh0))))
            obtain ⟨i2_, ei2⟩ : ∃ y_ : Int32, y_ = (nI jA) + 1 := ⟨_, rfl⟩
            refine lv_iinc (v := i2_) (lv' := [(4, .int i2_), (0, .ref (r_ 0)), (1, .int (nI pre.length)), (2, .int (nI n_)), (3, .int (nI un))]) hx hb_ dX12_goes_114 hl (k := 4) rfl (by rw [ei2]; rfl) (by decide) rfl (fun ls hl => ?_)
            refine lv_goto (tgt := 65) hx hb_ dX12_goes_117 (by decide) ?_
            have ecc : cn + T.length + (mG n_ ee (pre ++ [jA])).length = cn + (T ++ mG n_ ee (pre ++ [jA])).length := by rw [List.length_append]; omega
            rw [ecc] at hw
            refine ihA (jA + 1) i2_ (by rw [ei2]; exact nI_1 jA) (by omega) (by omega) lf2 av2 fo2 (T ++ mG n_ ee (pre ++ [jA])) (by rw [rg_fm, hG, hT]) (fun k_ hk => ?_) (fun x_ hx => ?_) (fun k_ hk => ?_) (fun i_ hi_ k_ hk => ?_) _ _ hw ls (lv_sub hl [1, 2, 3, 4, 0] rfl)
            · rw [g1 k_ (by rw [List.length_append]; omega), congrFun (show zA (zsI (zsA (zsA (zsA S_ (r_ 46) f4) (r_ 47) f5) (r_ 48) fo) 1250 (r_ 0) (nI (cn + T.length))) (r_ 46) = f4 from (zA_I.trans ((zA_ne _ _ (mNe hSh (i := 46) (j := 48) (by decide) (by decide) (by decide))).trans ((zA_ne _ _ (mNe hSh (i := 46) (j := 47) (by decide) (by decide) (by decide))).trans (zA_zsA _ _ _))))) k_, hf4, upd_no _ _ (by omega)]; exact hk1 k_ hk
            · rw [g2 x_ (List.mem_append_left _ hx), congrFun (show zA (zsI (zsA (zsA (zsA S_ (r_ 46) f4) (r_ 47) f5) (r_ 48) fo) 1250 (r_ 0) (nI (cn + T.length))) (r_ 47) = f5 from (zA_I.trans ((zA_ne _ _ (mNe hSh (i := 47) (j := 48) (by decide) (by decide) (by decide))).trans (zA_zsA _ _ _)))) x_, hf5, upd_no _ _ (fun q_ => hnm (by rw [← q_]; exact hx))]; exact hk2 x_ hx
            · rw [g3 k_ (by omega), congrFun (show zA (zsI (zsA (zsA (zsA S_ (r_ 46) f4) (r_ 47) f5) (r_ 48) fo) 1250 (r_ 0) (nI (cn + T.length))) (r_ 48) = fo from (zA_I.trans (zA_zsA _ _ _))) k_]; exact hk3 k_ hk
            · rcases Nat.lt_or_ge i_ T.length with q_ | q_
              · rw [g3 _ (by omega), congrFun (show zA (zsI (zsA (zsA (zsA S_ (r_ 46) f4) (r_ 47) f5) (r_ 48) fo) 1250 (r_ 0) (nI (cn + T.length))) (r_ 48) = fo from (zA_I.trans (zA_zsA _ _ _))) _, hk4 i_ q_ k_ hk, List.getD_eq_getElem?_getD (l := T), List.getD_eq_getElem?_getD (l := T ++ _), List.getElem?_append_left q_]
              · rw [List.length_append] at hi_
                have := g4 (i_ - T.length) (by omega) k_ hk
                rw [show cn + T.length + (i_ - T.length) = cn + i_ by omega] at this
                rw [this, List.getD_eq_getElem?_getD (l := mG n_ ee (pre ++ [jA])), List.getD_eq_getElem?_getD (l := T ++ _), List.getElem?_append_right q_]
          · refine lv_goto (tgt := 114) hx hb_ dX12_goes_81 (by decide) ?_
            obtain ⟨i2_, ei2⟩ : ∃ y_ : Int32, y_ = (nI jA) + 1 := ⟨_, rfl⟩
            refine lv_iinc (v := i2_) (lv' := [(4, .int i2_), (0, .ref (r_ 0)), (1, .int (nI pre.length)), (2, .int (nI n_)), (3, .int (nI un))]) hx hb_ dX12_goes_114 hl (k := 4) rfl (by rw [ei2]; rfl) (by decide) rfl (fun ls hl => ?_)
            refine lv_goto (tgt := 65) hx hb_ dX12_goes_117 (by decide) ?_
            have hin : jA ∈ pre := of_decide_eq_true (by rw [← hub jA (by omega), ← ub_s jA (by omega) un hu]; exact decide_eq_true c_78)
            have hG : mGf n_ ee pre jA = [] := if_pos hin
            exact ihA (jA + 1) i2_ (by rw [ei2]; exact nI_1 jA) (by omega) (by omega) lf av fo T (by rw [rg_fm, hG, List.append_nil]; exact hT) hk1 hk2 hk3 hk4 _ _ hw ls (lv_sub hl [1, 2, 3, 4, 0] rfl)
    exact JA (n_ + 1) 0 0 nI_0.symm (Nat.zero_le _) (by omega) (zA S_ (r_ 46)) (zA S_ (r_ 47)) (zA S_ (r_ 48)) [] rfl hlf hat (fun k_ hk => rfl) (fun i_ hi_ => absurd hi_ (Nat.not_lt_zero i_)) _ _ (by rw [zsA_self, zsA_self, zsA_self, show cn + ([] : List (List Nat)).length = cn from rfl, zsI_self hcc]; exact hw) ls (lv_sub hl [1, 2, 3, 4, 0] rfl)

set_option maxHeartbeats 1000000 in
set_option maxRecDepth 100000 in
theorem c_X12_goes_6 (lau : Launch) (cD : va_G) (cy : Nat → ClassId) (sz_ : Nat) (r_ : Nat → Nat) (S_ : zS) (hSh : ShM S_ r_) (n_ cn ee un : Nat) (pre : List Nat) (hd : pre.length + 6 = 8) (hn : n_ ≤ 8) (hlen : pre.length + ee = n_) (hu : un < 256) (hub : ∀ k_, k_ < 8 → nbit un k_ = decide (k_ ∈ pre)) (hnd : pre.Nodup) (hb8 : ∀ x_, x_ ∈ pre → x_ < n_) (hcc : zI S_ 1250 (r_ 0) = nI cn) (hct : cn + (mG n_ ee pre).length ≤ 1392) (hlf : ∀ k_, k_ < pre.length → zA S_ (r_ 46) k_ = nI (pre.getD k_ 0)) (hat : ∀ x_, x_ ∈ pre → zA S_ (r_ 47) x_ = nI (pre.idxOf x_)) : Met lau yX12_goes wsX12_goes ({ frames := 7, cells := 0, slots := 0, locals := 171 } : Room) (va_Pc [.ref (r_ 0), .int (nI pre.length), .int (nI n_), .int (nI un)] (zPre cD cy S_ sz_)) (va_Qv (fun (S1 : zS) => ∃ lf av fo : Nat → Int32, S1 = zsI (zsA (zsA (zsA S_ (r_ 46) lf) (r_ 47) av) (r_ 48) fo) 1250 (r_ 0) (nI (cn + (mG n_ ee pre).length)) ∧ (∀ k_, k_ < pre.length → lf k_ = zA S_ (r_ 46) k_) ∧ (∀ x_, x_ ∈ pre → av x_ = zA S_ (r_ 47) x_) ∧ (∀ k_, k_ < 8 * cn → fo k_ = zA S_ (r_ 48) k_) ∧ (∀ i_, i_ < (mG n_ ee pre).length → ∀ k_, k_ < n_ → fo (8 * (cn + i_) + k_) = nI (((mG n_ ee pre).getD i_ []).getD k_ 0))) (zPost cD cy (zAd cy S_ sz_)) (zAd cy S_ sz_)) 0 0 (zAd cy S_ sz_) := by
  refine z_ofW (cc := cX12_goes) (maxL := 5) (ret := none) (own := RX12) (QQ := fun A_ => va_Qv (fun (S1 : zS) => ∃ lf av fo : Nat → Int32, S1 = zsI (zsA (zsA (zsA S_ (r_ 46) lf) (r_ 47) av) (r_ 48) fo) 1250 (r_ 0) (nI (cn + (mG n_ ee pre).length)) ∧ (∀ k_, k_ < pre.length → lf k_ = zA S_ (r_ 46) k_) ∧ (∀ x_, x_ ∈ pre → av x_ = zA S_ (r_ 47) x_) ∧ (∀ k_, k_ < 8 * cn → fo k_ = zA S_ (r_ 48) k_) ∧ (∀ i_, i_ < (mG n_ ee pre).length → ∀ k_, k_ < n_ → fo (8 * (cn + i_) + k_) = nI (((mG n_ ee pre).getD i_ []).getD k_ 0))) (zPost cD cy A_) A_) (by decide) rfl rfl (Nat.le_of_ble_eq_true rfl) ?_
  intro p_ e_ s_ m_ args_ below_ meth_ c_ A_ ls hcf hr hlk hnm hK_ hE hw hA hl
  obtain ⟨hx, hb_, hml, hown, hts⟩ := id hcf
  have hin12 : ∀ w_ ∈ wsX120, w_ ∈ wsX12_goes := fun w_ h_ => (List.mem_cons_of_mem _ (List.mem_append_right _ h_))
  have hl : lv_has ls 5 [(0, .ref (r_ 0)), (1, .int (nI pre.length)), (2, .int (nI n_)), (3, .int (nI un))] := hl
  have hSh0 := hSh
  cases ee with
  | zero =>
    have hall : ∀ k_, k_ < n_ → k_ ∈ pre := fun k_ hk => nd_all hnd hb8 (by omega) hk
    refine lv_iload_n hx hb_ dX12_goes_0 rfl (lv_at hl 1 rfl) ?_
    refine lv_iload_n hx hb_ dX12_goes_1 rfl (lv_at hl 2 rfl) ?_
    refine lv_icmp_ne (tgt := 62) hx hb_ dX12_goes_2 (by decide) (fun c_2 => absurd c_2 (fun q_ => q_ (congrArg nI (by omega)))) (fun c_2 => ?_)
    refine lv_aload_n hx hb_ dX12_goes_5 rfl (lv_at hl 0 rfl) ?_
    refine lv_iload_n hx hb_ dX12_goes_6 rfl (lv_at hl 2 rfl) ?_
    refine z_ki hw hA (va_runV (As := [.int (nI n_)]) (rest := []) hcf (c_X12_isCrossed lau cD cy _ r_ S_ hSh n_ pre hn (by omega) hall (fun k_ hk => hat k_ (hall k_ hk))) (cwV 1 hts gX12_goes_X12_isCrossed rfl rfl rfl (by decide +kernel) ⟨Nat.le_of_ble_eq_true rfl, Nat.le_of_ble_eq_true rfl⟩) (z_preV (k := 12) hK_ hE hw (mL hSh 0) (mK hSh 0) (by decide) rfl) rfl rfl hl.1 rfl (lv_room (Nat.le_of_ble_eq_true rfl)) dX12_goes_7 ⟨Nat.le_of_ble_eq_true rfl, Nat.le_of_ble_eq_true rfl⟩) (fun v1 S2 H_ locs_ hp hw => ?_)
    obtain ⟨hv1, rfl⟩ := hp
    refine lv_if_eq (tgt := 14) hx hb_ dX12_goes_10 (by decide) (fun c_10 => ?_) (fun c_10 => ?_)
    · have hG : mG n_ 0 pre = [pre] := by rw [mG]; exact if_pos (Classical.byContradiction fun q_ => absurd c_10 (by rw [hv1, if_neg q_]; decide))
      have hcn : cn + 1 ≤ 1392 := by rw [hG] at hct; exact hct
      refine lv_iconst (v := 0) hx hb_ dX12_goes_14 (by decide) ?_
      refine lv_istore (lv' := [(4, .int 0), (0, .ref (r_ 0)), (1, .int (nI pre.length)), (2, .int (nI n_)), (3, .int (nI un))]) hx hb_ dX12_goes_15 hl (by decide) rfl (fun ls hl => ?_)
      have JD : ∀ (nD jD : Nat) (iD : Int32), iD = nI jD → jD ≤ n_ → n_ < jD + nD → ∀ (fo : Nat → Int32), (∀ k_, k_ < 8 * cn → fo k_ = zA S_ (r_ 48) k_) → (∀ k_, k_ < jD → fo (8 * cn + k_) = nI (pre.getD k_ 0)) → ∀ (H_ : Heap) (locs_ : List Loc), zPw cD cy A_ s_.heap (zsA S_ (r_ 48) fo) H_ locs_ → ∀ ls : Array Slot, lv_has ls 5 [(0, .ref (r_ 0)), (1, .int (nI pre.length)), (2, .int (nI n_)), (3, .int (nI un)), (4, .int iD)] → W p_ lau e_ ({ frames := 7, cells := 0, slots := 0, locals := 171 } : Room) s_ m_ args_ below_ meth_ c_ H_ locs_ 0 0 (MQ below_ (va_Qv (fun (S1 : zS) => ∃ lf av fo : Nat → Int32, S1 = zsI (zsA (zsA (zsA S_ (r_ 46) lf) (r_ 47) av) (r_ 48) fo) 1250 (r_ 0) (nI (cn + (mG n_ 0 pre).length)) ∧ (∀ k_, k_ < pre.length → lf k_ = zA S_ (r_ 46) k_) ∧ (∀ x_, x_ ∈ pre → av x_ = zA S_ (r_ 47) x_) ∧ (∀ k_, k_ < 8 * cn → fo k_ = zA S_ (r_ 48) k_) ∧ (∀ i_, i_ < (mG n_ 0 pre).length → ∀ k_, k_ < n_ → fo (8 * (cn + i_) + k_) = nI (((mG n_ 0 pre).getD i_ []).getD k_ 0))) (zPost cD cy A_) A_) args_ s_ 0 0 A_) (F0 m_ 17 ls []) := by
        intro nD
        induction nD with
        | zero => intro jD iD _ hjD h_; exact absurd h_ (by omega)
        | succ nD ihD =>
          intro jD iD eiD hjD hmD fo hf1 hf2 H_ locs_ hw ls hl
          have hSh : ShM (zsA S_ (r_ 48) fo) r_ := (sh_AM hSh0)
          refine lv_iload hx hb_ dX12_goes_17 (lv_at hl 4 rfl) ?_
          refine lv_iload_n hx hb_ dX12_goes_19 rfl (lv_at hl 2 rfl) ?_
          refine lv_icmp_ge (tgt := 51) hx hb_ dX12_goes_20 (by decide) (fun c_20 => ?_) (fun c_20 => ?_)
          · refine lv_aload_n hx hb_ dX12_goes_51 rfl (lv_at hl 0 rfl) ?_
            refine lv_dup hx hb_ dX12_goes_52 rfl ?_
            refine z_get (k := 12) (i := 50) (j := 1250) (v := .int (nI cn)) (ref := "FoldedInHalfModel") (C := RX12) (T := TX12) (N := 56) hcf hK_ hw hin12 (mL hSh 0) (mK hSh 0) rfl (by decide) (by decide) rfl rfl (congrArg Value.int hcc) (List.mem_of_getElem? (i := 2) rfl) (fun _ h_ => h_) dX12_goes_53 ?_
            refine lv_iconst (v := 1) hx hb_ dX12_goes_56 (by decide) ?_
            refine lv_iadd hx hb_ dX12_goes_57 ?_
            refine z_topi (y := (nI (cn + 1))) (nI_1 cn) ?_
            refine z_putI (k := 12) (i := 50) (j := 1250) (x := (nI (cn + 1))) (v := .int (nI (cn + 1))) (ty := .int) (ref := "FoldedInHalfModel") (C := RX12) (T := TX12) (N := 56) tyX12 hcf hK_ hw hin12 tyX12_ok nmX12 (mL hSh 0) (mK hSh 0) rfl (by decide) (by decide) rfl rfl (List.mem_of_getElem? (i := 2) rfl) (fun _ h_ => h_) rfl rfl (by decide +kernel) rfl rfl dX12_goes_58 (fun H_ locs_ hw => ?_)
            have hSh : ShM (zsI (zsA S_ (r_ 48) fo) 1250 (r_ 0) (nI (cn + 1))) r_ := (sh_IM (sh_AM hSh0))
            exact z_vret hcf hr hlk hw ((by have hj : jD = n_ := (by have := zn_ge eiD rfl (by omega) c_20; omega); rw [hG]; exact ⟨zA S_ (r_ 46), zA S_ (r_ 47), fo, by rw [zsA_self, zsA_self]; rfl, fun k_ hk => rfl, fun x_ hx => rfl, hf1, fun i_ hi_ k_ hk => by have e0 : i_ = 0 := (by simp at hi_; omega); subst e0; exact hf2 k_ (by omega)⟩)) dX12_goes_61
          · have hlt : jD < n_ := zn_lt eiD rfl (by omega) c_20
            refine lv_aload_n hx hb_ dX12_goes_23 rfl (lv_at hl 0 rfl) ?_
            refine z_get (k := 12) (i := 48) (j := 1248) (v := .ref (r_ 48)) (ref := "FoldedInHalfModel") (C := RX12) (T := TX12) (N := 56) hcf hK_ hw hin12 (mL hSh 0) (mK hSh 0) rfl (by decide) (by decide) rfl rfl (congrArg va_rf (mP hSh 48)) (List.mem_of_getElem? (i := 1) rfl) (fun _ h_ => h_) dX12_goes_24 ?_
            refine lv_bipush (v := 8) hx hb_ dX12_goes_27 (by decide) ?_
            refine lv_aload_n hx hb_ dX12_goes_29 rfl (lv_at hl 0 rfl) ?_
            refine z_get (k := 12) (i := 50) (j := 1250) (v := .int (nI cn)) (ref := "FoldedInHalfModel") (C := RX12) (T := TX12) (N := 56) hcf hK_ hw hin12 (mL hSh 0) (mK hSh 0) rfl (by decide) (by decide) rfl rfl (congrArg Value.int hcc) (List.mem_of_getElem? (i := 2) rfl) (fun _ h_ => h_) dX12_goes_30 ?_
            refine lv_imul hx hb_ dX12_goes_33 ?_
            refine lv_iload hx hb_ dX12_goes_34 (lv_at hl 4 rfl) ?_
            refine lv_iadd hx hb_ dX12_goes_36 ?_
            refine z_topi (y := (nI (8 * cn + jD))) (by rw [eiD, show (8 : Int32) * nI cn = nI (8 * cn) from pk_mul 8 cn, nI_add]) ?_
            refine lv_aload_n hx hb_ dX12_goes_37 rfl (lv_at hl 0 rfl) ?_
            refine z_get (k := 12) (i := 46) (j := 1246) (v := .ref (r_ 46)) (ref := "FoldedInHalfModel") (C := RX12) (T := TX12) (N := 56) hcf hK_ hw hin12 (mL hSh 0) (mK hSh 0) rfl (by decide) (by decide) rfl rfl (congrArg va_rf (mP hSh 46)) (List.mem_of_getElem? (i := 3) rfl) (fun _ h_ => h_) dX12_goes_38 ?_
            refine lv_iload hx hb_ dX12_goes_41 (lv_at hl 4 rfl) ?_
            refine z_iald (n := 8) hcf hK_ hw (mL hSh 46) (mK hSh 46) (mN hSh 46) (by rw [eiD]; exact vp_in_nI (by omega) (by decide)) dX12_goes_43 ?_
            refine z_topi (y := (nI (pre.getD jD 0))) (by rw [(show iD.toNatClampNeg = jD by rw [eiD]; exact nI_clamp (by omega))]; exact (congrFun (show zA (zsA S_ (r_ 48) fo) (r_ 46) = (zA S_ (r_ 46)) from (zA_ne _ _ (mNe hSh (i := 46) (j := 48) (by decide) (by decide) (by decide)))) jD).trans (hlf jD (by omega))) ?_
            refine z_iast (n := 11136) hcf hK_ hw (mL hSh 48) (mK hSh 48) (mN hSh 48) (vp_in_nI (by omega) (by decide)) dX12_goes_44 (fun H_ locs_ hw => ?_)
            obtain ⟨f3_, ef3⟩ : ∃ zz, zz = (upd (zA (zsA S_ (r_ 48) fo) (r_ 48)) ((nI (8 * cn + jD)) : Int32).toNatClampNeg (nI (pre.getD jD 0))) := ⟨_, rfl⟩
            rw [← ef3] at hw
            have hf3 : f3_ = upd fo ((8 * cn + jD)) (nI (pre.getD jD 0)) := by rw [ef3, (nI_clamp (show (8 * cn + jD) < 2 ^ 31 by omega)), show zA (zsA S_ (r_ 48) fo) (r_ 48) = _ from (zA_zsA _ _ _)]
            rw [zsA_zsA] at hw
            have hSh : ShM (zsA S_ (r_ 48) f3_) r_ := (sh_AM hSh0)
            obtain ⟨i4, ei4⟩ : ∃ y_ : Int32, y_ = iD + 1 := ⟨_, rfl⟩
            refine lv_iinc (v := i4) (lv' := [(4, .int i4), (0, .ref (r_ 0)), (1, .int (nI pre.length)), (2, .int (nI n_)), (3, .int (nI un))]) hx hb_ dX12_goes_45 hl (k := 4) rfl (by rw [ei4]; rfl) (by decide) rfl (fun ls hl => ?_)
            refine lv_goto (tgt := 17) hx hb_ dX12_goes_48 (by decide) ?_
            exact ihD (jD + 1) i4 (by rw [ei4, eiD]; exact nI_1 jD) hlt (by omega) f3_ (fun k_ hk => by rw [hf3, upd_no _ _ (by omega)]; exact hf1 k_ hk) (fun k_ hk => by rw [hf3]; exact (Nat.lt_or_ge k_ jD).elim (fun q_ => by rw [upd_no _ _ (by omega)]; exact hf2 k_ q_) (fun q_ => by have e_ := (show k_ = jD by omega); subst e_; exact upd_at _ _ _)) _ _ hw ls (lv_sub hl [1, 2, 3, 4, 0] rfl)
      exact JD (n_ + 1) 0 0 nI_0.symm (Nat.zero_le _) (by omega) (zA S_ (r_ 48)) (fun k_ hk => rfl) (fun k_ hk => absurd hk (Nat.not_lt_zero k_)) _ _ (by rw [zsA_self]; exact hw) ls (lv_sub hl [1, 2, 3, 4, 0] rfl)
    · exact z_vret hcf hr hlk hw ((by have hG : mG n_ 0 pre = [] := (by rw [mG]; exact if_neg (fun q_ => c_10 (by rw [hv1, if_pos q_]))); rw [hG]; exact ⟨zA S_ (r_ 46), zA S_ (r_ 47), zA S_ (r_ 48), by rw [zsA_self, zsA_self, zsA_self]; exact (zsI_self hcc).symm, fun k_ hk => rfl, fun x_ hx => rfl, fun k_ hk => rfl, fun i_ hi_ => absurd hi_ (Nat.not_lt_zero i_)⟩)) dX12_goes_13
  | succ ee =>
    refine lv_iload_n hx hb_ dX12_goes_0 rfl (lv_at hl 1 rfl) ?_
    refine lv_iload_n hx hb_ dX12_goes_1 rfl (lv_at hl 2 rfl) ?_
    refine lv_icmp_ne (tgt := 62) hx hb_ dX12_goes_2 (by decide) (fun c_2 => ?_) (fun c_2 => absurd c_2 (fun q_ => absurd ((nI_eq (by omega) (by omega)).mp q_) (by omega)))
    refine lv_iconst (v := 0) hx hb_ dX12_goes_62 (by decide) ?_
    refine lv_istore (lv' := [(4, .int 0), (0, .ref (r_ 0)), (1, .int (nI pre.length)), (2, .int (nI n_)), (3, .int (nI un))]) hx hb_ dX12_goes_63 hl (by decide) rfl (fun ls hl => ?_)
    have JA : ∀ (nA jA : Nat) (iA : Int32), iA = nI jA → jA ≤ n_ → n_ < jA + nA → ∀ (lf av fo : Nat → Int32) (T : List (List Nat)), T = (List.range jA).flatMap (mGf n_ ee pre) → (∀ k_, k_ < pre.length → lf k_ = nI (pre.getD k_ 0)) → (∀ x_, x_ ∈ pre → av x_ = nI (pre.idxOf x_)) → (∀ k_, k_ < 8 * cn → fo k_ = zA S_ (r_ 48) k_) → (∀ i_, i_ < T.length → ∀ k_, k_ < n_ → fo (8 * (cn + i_) + k_) = nI ((T.getD i_ []).getD k_ 0)) → ∀ (H_ : Heap) (locs_ : List Loc), zPw cD cy A_ s_.heap (zsI (zsA (zsA (zsA S_ (r_ 46) lf) (r_ 47) av) (r_ 48) fo) 1250 (r_ 0) (nI (cn + T.length))) H_ locs_ → ∀ ls : Array Slot, lv_has ls 5 [(0, .ref (r_ 0)), (1, .int (nI pre.length)), (2, .int (nI n_)), (3, .int (nI un)), (4, .int iA)] → W p_ lau e_ ({ frames := 7, cells := 0, slots := 0, locals := 171 } : Room) s_ m_ args_ below_ meth_ c_ H_ locs_ 0 0 (MQ below_ (va_Qv (fun (S1 : zS) => ∃ lf av fo : Nat → Int32, S1 = zsI (zsA (zsA (zsA S_ (r_ 46) lf) (r_ 47) av) (r_ 48) fo) 1250 (r_ 0) (nI (cn + (mG n_ (ee + 1) pre).length)) ∧ (∀ k_, k_ < pre.length → lf k_ = zA S_ (r_ 46) k_) ∧ (∀ x_, x_ ∈ pre → av x_ = zA S_ (r_ 47) x_) ∧ (∀ k_, k_ < 8 * cn → fo k_ = zA S_ (r_ 48) k_) ∧ (∀ i_, i_ < (mG n_ (ee + 1) pre).length → ∀ k_, k_ < n_ → fo (8 * (cn + i_) + k_) = nI (((mG n_ (ee + 1) pre).getD i_ []).getD k_ 0))) (zPost cD cy A_) A_) args_ s_ 0 0 A_) (F0 m_ 65 ls []) := by
      intro nA
      induction nA with
      | zero => intro jA iA _ hjA h_; exact absurd h_ (by omega)
      | succ nA ihA =>
        intro jA iA eiA hjA hmA lf av fo T hT hk1 hk2 hk3 hk4 H_ locs_ hw ls hl
        subst eiA
        have hSh : ShM (zsI (zsA (zsA (zsA S_ (r_ 46) lf) (r_ 47) av) (r_ 48) fo) 1250 (r_ 0) (nI (cn + T.length))) r_ := (sh_IM (sh_AM (sh_AM (sh_AM hSh0))))
        refine lv_iload hx hb_ dX12_goes_65 (lv_at hl 4 rfl) ?_
        refine lv_iload_n hx hb_ dX12_goes_67 rfl (lv_at hl 2 rfl) ?_
        refine lv_icmp_ge (tgt := 120) hx hb_ dX12_goes_68 (by decide) (fun c_68 => ?_) (fun c_68 => ?_)
        · exact z_vret hcf hr hlk hw ((by have hj : jA = n_ := (by have := zn_ge rfl rfl (by omega) c_68; omega); have hTG : T = mG n_ (ee + 1) pre := (by rw [hT, hj]; rfl); exact ⟨lf, av, fo, by rw [hTG], fun k_ hk => (hk1 k_ hk).trans (hlf k_ hk).symm, fun x_ hx => (hk2 x_ hx).trans (hat x_ hx).symm, hk3, by rw [← hTG]; exact hk4⟩)) dX12_goes_120
        · have hlt : jA < n_ := zn_lt rfl rfl (by omega) c_68
          have hle : T.length + (mGf n_ ee pre jA).length ≤ (mG n_ (ee + 1) pre).length := by have := rg_le (mGf n_ ee pre) (show jA + 1 ≤ n_ by omega); rw [rg_fm, List.length_append, ← hT, ← mG_eq] at this; exact this
          refine lv_iload_n hx hb_ dX12_goes_71 rfl (lv_at hl 3 rfl) ?_
          refine lv_iload hx hb_ dX12_goes_72 (lv_at hl 4 rfl) ?_
          refine lv_ishr hx hb_ dX12_goes_74 ?_
          refine lv_iconst (v := 1) hx hb_ dX12_goes_75 (by decide) ?_
          refine lv_iand hx hb_ dX12_goes_76 ?_
          refine lv_iconst (v := 1) hx hb_ dX12_goes_77 (by decide) ?_
          refine lv_icmp_ne (tgt := 84) hx hb_ dX12_goes_78 (by decide) (fun c_78 => ?_) (fun c_78 => ?_)
          · have hnb : nbit un jA = false := by rw [← ub_s jA (by omega) un hu]; exact decide_eq_false c_78
            have hnm : jA ∉ pre := of_decide_eq_false (by rw [← hub jA (by omega)]; exact hnb)
            have hG : mGf n_ ee pre jA = mG n_ ee (pre ++ [jA]) := if_neg hnm
            have hut := ub_t jA (by omega) un hu hnb
            refine lv_aload_n hx hb_ dX12_goes_84 rfl (lv_at hl 0 rfl) ?_
            refine z_get (k := 12) (i := 46) (j := 1246) (v := .ref (r_ 46)) (ref := "FoldedInHalfModel") (C := RX12) (T := TX12) (N := 56) hcf hK_ hw hin12 (mL hSh 0) (mK hSh 0) rfl (by decide) (by decide) rfl rfl (congrArg va_rf (mP hSh 46)) (List.mem_of_getElem? (i := 3) rfl) (fun _ h_ => h_) dX12_goes_85 ?_
            refine lv_iload_n hx hb_ dX12_goes_88 rfl (lv_at hl 1 rfl) ?_
            refine lv_iload hx hb_ dX12_goes_89 (lv_at hl 4 rfl) ?_
            refine z_iast (n := 8) hcf hK_ hw (mL hSh 46) (mK hSh 46) (mN hSh 46) (vp_in_nI (by omega) (by decide)) dX12_goes_91 (fun H_ locs_ hw => ?_)
            obtain ⟨f4, ef4⟩ : ∃ zz, zz = (upd (zA (zsI (zsA (zsA (zsA S_ (r_ 46) lf) (r_ 47) av) (r_ 48) fo) 1250 (r_ 0) (nI (cn + T.length))) (r_ 46)) ((nI pre.length) : Int32).toNatClampNeg (nI jA)) := ⟨_, rfl⟩
            rw [← ef4] at hw
            have hf4 : f4 = upd lf pre.length (nI jA) := by rw [ef4, (nI_clamp (show pre.length < 2 ^ 31 by omega)), show zA (zsI (zsA (zsA (zsA S_ (r_ 46) lf) (r_ 47) av) (r_ 48) fo) 1250 (r_ 0) (nI (cn + T.length))) (r_ 46) = _ from (zA_I.trans ((zA_ne _ _ (mNe hSh (i := 46) (j := 48) (by decide) (by decide) (by decide))).trans ((zA_ne _ _ (mNe hSh (i := 46) (j := 47) (by decide) (by decide) (by decide))).trans (zA_zsA _ _ _))))]
            rw [zsA_zsI, zsA_comm _ _ _ (mNe hSh (i := 48) (j := 46) (by decide) (by decide) (by decide)), zsA_comm _ _ _ (mNe hSh (i := 47) (j := 46) (by decide) (by decide) (by decide)), zsA_zsA] at hw
            have hSh : ShM (zsI (zsA (zsA (zsA S_ (r_ 46) f4) (r_ 47) av) (r_ 48) fo) 1250 (r_ 0) (nI (cn + T.length))) r_ := (sh_IM (sh_AM (sh_AM (sh_AM hSh0))))
            refine lv_aload_n hx hb_ dX12_goes_92 rfl (lv_at hl 0 rfl) ?_
            refine z_get (k := 12) (i := 47) (j := 1247) (v := .ref (r_ 47)) (ref := "FoldedInHalfModel") (C := RX12) (T := TX12) (N := 56) hcf hK_ hw hin12 (mL hSh 0) (mK hSh 0) rfl (by decide) (by decide) rfl rfl (congrArg va_rf (mP hSh 47)) (List.mem_of_getElem? (i := 4) rfl) (fun _ h_ => h_) dX12_goes_93 ?_
            refine lv_iload hx hb_ dX12_goes_96 (lv_at hl 4 rfl) ?_
            refine lv_iload_n hx hb_ dX12_goes_98 rfl (lv_at hl 1 rfl) ?_
            refine z_iast (n := 8) hcf hK_ hw (mL hSh 47) (mK hSh 47) (mN hSh 47) (vp_in_nI (by omega) (by decide)) dX12_goes_99 (fun H_ locs_ hw => ?_)
            obtain ⟨f5, ef5⟩ : ∃ zz, zz = (upd (zA (zsI (zsA (zsA (zsA S_ (r_ 46) f4) (r_ 47) av) (r_ 48) fo) 1250 (r_ 0) (nI (cn + T.length))) (r_ 47)) ((nI jA) : Int32).toNatClampNeg (nI pre.length)) := ⟨_, rfl⟩
            rw [← ef5] at hw
            have hf5 : f5 = upd av jA (nI pre.length) := by rw [ef5, (nI_clamp (show jA < 2 ^ 31 by omega)), show zA (zsI (zsA (zsA (zsA S_ (r_ 46) f4) (r_ 47) av) (r_ 48) fo) 1250 (r_ 0) (nI (cn + T.length))) (r_ 47) = _ from (zA_I.trans ((zA_ne _ _ (mNe hSh (i := 47) (j := 48) (by decide) (by decide) (by decide))).trans (zA_zsA _ _ _)))]
            rw [zsA_zsI, zsA_comm _ _ _ (mNe hSh (i := 48) (j := 47) (by decide) (by decide) (by decide)), zsA_zsA] at hw
            have hSh : ShM (zsI (zsA (zsA (zsA S_ (r_ 46) f4) (r_ 47) f5) (r_ 48) fo) 1250 (r_ 0) (nI (cn + T.length))) r_ := (sh_IM (sh_AM (sh_AM (sh_AM hSh0))))
            refine lv_aload_n hx hb_ dX12_goes_100 rfl (lv_at hl 0 rfl) ?_
            refine lv_iload_n hx hb_ dX12_goes_101 rfl (lv_at hl 1 rfl) ?_
            refine lv_iconst (v := 1) hx hb_ dX12_goes_102 (by decide) ?_
            refine lv_iadd hx hb_ dX12_goes_103 ?_
            refine z_topi (y := (nI (pre ++ [jA]).length)) (by rw [nI_1, List.length_append]; rfl) ?_
            refine lv_iload_n hx hb_ dX12_goes_104 rfl (lv_at hl 2 rfl) ?_
            refine lv_iload_n hx hb_ dX12_goes_105 rfl (lv_at hl 3 rfl) ?_
            refine lv_iconst (v := 1) hx hb_ dX12_goes_106 (by decide) ?_
            refine lv_iload hx hb_ dX12_goes_107 (lv_at hl 4 rfl) ?_
            refine lv_ishl hx hb_ dX12_goes_109 ?_
            refine lv_ior hx hb_ dX12_goes_110 ?_
            refine z_topi (y := (nI (un + 2 ^ jA))) (hut.1) ?_
            refine z_kv hw hA (va_runV (As := [.int (nI (pre ++ [jA]).length), .int (nI n_), .int (nI (un + 2 ^ jA))]) (rest := []) hcf (c_X12_goes_5 lau cD cy _ r_ (zsI (zsA (zsA (zsA S_ (r_ 46) f4) (r_ 47) f5) (r_ 48) fo) 1250 (r_ 0) (nI (cn + T.length))) hSh n_ (cn + T.length) ee (un + 2 ^ jA) (pre ++ [jA]) (by rw [List.length_append, List.length_singleton]; omega) hn (by rw [List.length_append, List.length_singleton]; omega) hut.2.1 (fun k_ hk => by rw [hut.2.2 k_ hk, hub k_ hk]; by_cases q_ : k_ ∈ pre <;> by_cases q2 : k_ = jA <;> simp [q_, q2]) (nd_app hnd hnm) (fun x_ hx => (List.mem_append.mp hx).elim (fun q_ => hb8 x_ q_) (fun q_ => by rw [List.mem_singleton] at q_; omega)) zI_at (by rw [hG] at hle; omega) (fun k_ hk => by rw [congrFun (show zA (zsI (zsA (zsA (zsA S_ (r_ 46) f4) (r_ 47) f5) (r_ 48) fo) 1250 (r_ 0) (nI (cn + T.length))) (r_ 46) = f4 from (zA_I.trans ((zA_ne _ _ (mNe hSh (i := 46) (j := 48) (by decide) (by decide) (by decide))).trans ((zA_ne _ _ (mNe hSh (i := 46) (j := 47) (by decide) (by decide) (by decide))).trans (zA_zsA _ _ _))))) k_, hf4]; rw [List.length_append, List.length_singleton] at hk; exact (Decidable.em (k_ = pre.length)).elim (fun q_ => by rw [q_, upd_at, gd_new]) (fun q_ => by rw [upd_no _ _ q_, hk1 k_ (by omega), gd_app (by omega)])) (fun x_ hx => by rw [congrFun (show zA (zsI (zsA (zsA (zsA S_ (r_ 46) f4) (r_ 47) f5) (r_ 48) fo) 1250 (r_ 0) (nI (cn + T.length))) (r_ 47) = f5 from (zA_I.trans ((zA_ne _ _ (mNe hSh (i := 47) (j := 48) (by decide) (by decide) (by decide))).trans (zA_zsA _ _ _)))) x_, hf5]; exact (Decidable.em (x_ = jA)).elim (fun q_ => by rw [q_, upd_at, ix_new hnm]) (fun q_ => by have hx2 : x_ ∈ pre := ((List.mem_append.mp hx).elim id (fun z_ => absurd (List.mem_singleton.mp z_) q_)); rw [upd_no _ _ q_, hk2 x_ hx2, ix_app hx2]))) (cwV 3 hts gX12_goes_X12_goes rfl rfl rfl (by decide +kernel) ⟨Nat.le_of_ble_eq_true rfl, Nat.le_of_ble_eq_true rfl⟩) (z_preV (k := 12) hK_ hE hw (mL hSh 0) (mK hSh 0) (by decide) rfl) rfl rfl hl.1 rfl (lv_room (Nat.le_of_ble_eq_true rfl)) dX12_goes_111 ⟨Nat.le_of_ble_eq_true rfl, Nat.le_of_ble_eq_true rfl⟩) (fun S7 H_ locs_ hp hw => ?_)
            obtain ⟨lf2, av2, fo2, rfl, g1, g2, g3, g4⟩ := hp
            rw [zsA_zsI, zsA_comm _ _ _ (mNe hSh (i := 48) (j := 46) (by decide) (by decide) (by decide)), zsA_comm _ _ _ (mNe hSh (i := 47) (j := 46) (by decide) (by decide) (by decide)), zsA_zsA] at hw
            rw [zsA_zsI, zsA_comm _ _ _ (mNe hSh (i := 48) (j := 47) (by decide) (by decide) (by decide)), zsA_zsA] at hw
            rw [zsA_zsI, zsA_zsA] at hw
            rw [zsI_zsI] at hw
            have hSh : ShM (zsI (zsA (zsA (zsA S_ (r_ 46) lf2) (r_ 47) av2) (r_ 48) fo2) 1250 (r_ 0) (nI (cn + T.length + (mG n_ ee (pre ++ [jA])).length))) r_ := (sh_IM (sh_AM (sh_AM (sh_AM hSh0))))
            obtain ⟨i2_, ei2⟩ : ∃ y_ : Int32, y_ = (nI jA) + 1 := ⟨_, rfl⟩
            refine lv_iinc (v := i2_) (lv' := [(4, .int i2_), (0, .ref (r_ 0)), (1, .int (nI pre.length)), (2, .int (nI n_)), (3, .int (nI un))]) hx hb_ dX12_goes_114 hl (k := 4) rfl (by rw [ei2]; rfl) (by decide) rfl (fun ls hl => ?_)
            refine lv_goto (tgt := 65) hx hb_ dX12_goes_117 (by decide) ?_
            have ecc : cn + T.length + (mG n_ ee (pre ++ [jA])).length = cn + (T ++ mG n_ ee (pre ++ [jA])).length := by rw [List.length_append]; omega
            rw [ecc] at hw
            refine ihA (jA + 1) i2_ (by rw [ei2]; exact nI_1 jA) (by omega) (by omega) lf2 av2 fo2 (T ++ mG n_ ee (pre ++ [jA])) (by rw [rg_fm, hG, hT]) (fun k_ hk => ?_) (fun x_ hx => ?_) (fun k_ hk => ?_) (fun i_ hi_ k_ hk => ?_) _ _ hw ls (lv_sub hl [1, 2, 3, 4, 0] rfl)
            · rw [g1 k_ (by rw [List.length_append]; omega), congrFun (show zA (zsI (zsA (zsA (zsA S_ (r_ 46) f4) (r_ 47) f5) (r_ 48) fo) 1250 (r_ 0) (nI (cn + T.length))) (r_ 46) = f4 from (zA_I.trans ((zA_ne _ _ (mNe hSh (i := 46) (j := 48) (by decide) (by decide) (by decide))).trans ((zA_ne _ _ (mNe hSh (i := 46) (j := 47) (by decide) (by decide) (by decide))).trans (zA_zsA _ _ _))))) k_, hf4, upd_no _ _ (by omega)]; exact hk1 k_ hk
            · rw [g2 x_ (List.mem_append_left _ hx), congrFun (show zA (zsI (zsA (zsA (zsA S_ (r_ 46) f4) (r_ 47) f5) (r_ 48) fo) 1250 (r_ 0) (nI (cn + T.length))) (r_ 47) = f5 from (zA_I.trans ((zA_ne _ _ (mNe hSh (i := 47) (j := 48) (by decide) (by decide) (by decide))).trans (zA_zsA _ _ _)))) x_, hf5, upd_no _ _ (fun q_ => hnm (by rw [← q_]; exact hx))]; exact hk2 x_ hx
            · rw [g3 k_ (by omega), congrFun (show zA (zsI (zsA (zsA (zsA S_ (r_ 46) f4) (r_ 47) f5) (r_ 48) fo) 1250 (r_ 0) (nI (cn + T.length))) (r_ 48) = fo from (zA_I.trans (zA_zsA _ _ _))) k_]; exact hk3 k_ hk
            · rcases Nat.lt_or_ge i_ T.length with q_ | q_
              · rw [g3 _ (by omega), congrFun (show zA (zsI (zsA (zsA (zsA S_ (r_ 46) f4) (r_ 47) f5) (r_ 48) fo) 1250 (r_ 0) (nI (cn + T.length))) (r_ 48) = fo from (zA_I.trans (zA_zsA _ _ _))) _, hk4 i_ q_ k_ hk, List.getD_eq_getElem?_getD (l := T), List.getD_eq_getElem?_getD (l := T ++ _), List.getElem?_append_left q_]
              · rw [List.length_append] at hi_
                have := g4 (i_ - T.length) (by omega) k_ hk
                rw [show cn + T.length + (i_ - T.length) = cn + i_ by omega] at this
                rw [this, List.getD_eq_getElem?_getD (l := mG n_ ee (pre ++ [jA])), List.getD_eq_getElem?_getD (l := T ++ _), List.getElem?_append_right q_]
          · refine lv_goto (tgt := 114) hx hb_ dX12_goes_81 (by decide) ?_
            obtain ⟨i2_, ei2⟩ : ∃ y_ : Int32, y_ = (nI jA) + 1 := ⟨_, rfl⟩
            refine lv_iinc (v := i2_) (lv' := [(4, .int i2_), (0, .ref (r_ 0)), (1, .int (nI pre.length)), (2, .int (nI n_)), (3, .int (nI un))]) hx hb_ dX12_goes_114 hl (k := 4) rfl (by rw [ei2]; rfl) (by decide) rfl (fun ls hl => ?_)
            refine lv_goto (tgt := 65) hx hb_ dX12_goes_117 (by decide) ?_
            have hin : jA ∈ pre := of_decide_eq_true (by rw [← hub jA (by omega), ← ub_s jA (by omega) un hu]; exact decide_eq_true c_78)
            have hG : mGf n_ ee pre jA = [] := if_pos hin
            exact ihA (jA + 1) i2_ (by rw [ei2]; exact nI_1 jA) (by omega) (by omega) lf av fo T (by rw [rg_fm, hG, List.append_nil]; exact hT) hk1 hk2 hk3 hk4 _ _ hw ls (lv_sub hl [1, 2, 3, 4, 0] rfl)
    exact JA (n_ + 1) 0 0 nI_0.symm (Nat.zero_le _) (by omega) (zA S_ (r_ 46)) (zA S_ (r_ 47)) (zA S_ (r_ 48)) [] rfl hlf hat (fun k_ hk => rfl) (fun i_ hi_ => absurd hi_ (Nat.not_lt_zero i_)) _ _ (by rw [zsA_self, zsA_self, zsA_self, show cn + ([] : List (List Nat)).length = cn from rfl, zsI_self hcc]; exact hw) ls (lv_sub hl [1, 2, 3, 4, 0] rfl)

set_option maxHeartbeats 1000000 in
set_option maxRecDepth 100000 in
theorem c_X12_goes_7 (lau : Launch) (cD : va_G) (cy : Nat → ClassId) (sz_ : Nat) (r_ : Nat → Nat) (S_ : zS) (hSh : ShM S_ r_) (n_ cn ee un : Nat) (pre : List Nat) (hd : pre.length + 7 = 8) (hn : n_ ≤ 8) (hlen : pre.length + ee = n_) (hu : un < 256) (hub : ∀ k_, k_ < 8 → nbit un k_ = decide (k_ ∈ pre)) (hnd : pre.Nodup) (hb8 : ∀ x_, x_ ∈ pre → x_ < n_) (hcc : zI S_ 1250 (r_ 0) = nI cn) (hct : cn + (mG n_ ee pre).length ≤ 1392) (hlf : ∀ k_, k_ < pre.length → zA S_ (r_ 46) k_ = nI (pre.getD k_ 0)) (hat : ∀ x_, x_ ∈ pre → zA S_ (r_ 47) x_ = nI (pre.idxOf x_)) : Met lau yX12_goes wsX12_goes ({ frames := 8, cells := 0, slots := 0, locals := 195 } : Room) (va_Pc [.ref (r_ 0), .int (nI pre.length), .int (nI n_), .int (nI un)] (zPre cD cy S_ sz_)) (va_Qv (fun (S1 : zS) => ∃ lf av fo : Nat → Int32, S1 = zsI (zsA (zsA (zsA S_ (r_ 46) lf) (r_ 47) av) (r_ 48) fo) 1250 (r_ 0) (nI (cn + (mG n_ ee pre).length)) ∧ (∀ k_, k_ < pre.length → lf k_ = zA S_ (r_ 46) k_) ∧ (∀ x_, x_ ∈ pre → av x_ = zA S_ (r_ 47) x_) ∧ (∀ k_, k_ < 8 * cn → fo k_ = zA S_ (r_ 48) k_) ∧ (∀ i_, i_ < (mG n_ ee pre).length → ∀ k_, k_ < n_ → fo (8 * (cn + i_) + k_) = nI (((mG n_ ee pre).getD i_ []).getD k_ 0))) (zPost cD cy (zAd cy S_ sz_)) (zAd cy S_ sz_)) 0 0 (zAd cy S_ sz_) := by
  refine z_ofW (cc := cX12_goes) (maxL := 5) (ret := none) (own := RX12) (QQ := fun A_ => va_Qv (fun (S1 : zS) => ∃ lf av fo : Nat → Int32, S1 = zsI (zsA (zsA (zsA S_ (r_ 46) lf) (r_ 47) av) (r_ 48) fo) 1250 (r_ 0) (nI (cn + (mG n_ ee pre).length)) ∧ (∀ k_, k_ < pre.length → lf k_ = zA S_ (r_ 46) k_) ∧ (∀ x_, x_ ∈ pre → av x_ = zA S_ (r_ 47) x_) ∧ (∀ k_, k_ < 8 * cn → fo k_ = zA S_ (r_ 48) k_) ∧ (∀ i_, i_ < (mG n_ ee pre).length → ∀ k_, k_ < n_ → fo (8 * (cn + i_) + k_) = nI (((mG n_ ee pre).getD i_ []).getD k_ 0))) (zPost cD cy A_) A_) (by decide) rfl rfl (Nat.le_of_ble_eq_true rfl) ?_
  intro p_ e_ s_ m_ args_ below_ meth_ c_ A_ ls hcf hr hlk hnm hK_ hE hw hA hl
  obtain ⟨hx, hb_, hml, hown, hts⟩ := id hcf
  have hin12 : ∀ w_ ∈ wsX120, w_ ∈ wsX12_goes := fun w_ h_ => (List.mem_cons_of_mem _ (List.mem_append_right _ h_))
  have hl : lv_has ls 5 [(0, .ref (r_ 0)), (1, .int (nI pre.length)), (2, .int (nI n_)), (3, .int (nI un))] := hl
  have hSh0 := hSh
  cases ee with
  | zero =>
    have hall : ∀ k_, k_ < n_ → k_ ∈ pre := fun k_ hk => nd_all hnd hb8 (by omega) hk
    refine lv_iload_n hx hb_ dX12_goes_0 rfl (lv_at hl 1 rfl) ?_
    refine lv_iload_n hx hb_ dX12_goes_1 rfl (lv_at hl 2 rfl) ?_
    refine lv_icmp_ne (tgt := 62) hx hb_ dX12_goes_2 (by decide) (fun c_2 => absurd c_2 (fun q_ => q_ (congrArg nI (by omega)))) (fun c_2 => ?_)
    refine lv_aload_n hx hb_ dX12_goes_5 rfl (lv_at hl 0 rfl) ?_
    refine lv_iload_n hx hb_ dX12_goes_6 rfl (lv_at hl 2 rfl) ?_
    refine z_ki hw hA (va_runV (As := [.int (nI n_)]) (rest := []) hcf (c_X12_isCrossed lau cD cy _ r_ S_ hSh n_ pre hn (by omega) hall (fun k_ hk => hat k_ (hall k_ hk))) (cwV 1 hts gX12_goes_X12_isCrossed rfl rfl rfl (by decide +kernel) ⟨Nat.le_of_ble_eq_true rfl, Nat.le_of_ble_eq_true rfl⟩) (z_preV (k := 12) hK_ hE hw (mL hSh 0) (mK hSh 0) (by decide) rfl) rfl rfl hl.1 rfl (lv_room (Nat.le_of_ble_eq_true rfl)) dX12_goes_7 ⟨Nat.le_of_ble_eq_true rfl, Nat.le_of_ble_eq_true rfl⟩) (fun v1 S2 H_ locs_ hp hw => ?_)
    obtain ⟨hv1, rfl⟩ := hp
    refine lv_if_eq (tgt := 14) hx hb_ dX12_goes_10 (by decide) (fun c_10 => ?_) (fun c_10 => ?_)
    · have hG : mG n_ 0 pre = [pre] := by rw [mG]; exact if_pos (Classical.byContradiction fun q_ => absurd c_10 (by rw [hv1, if_neg q_]; decide))
      have hcn : cn + 1 ≤ 1392 := by rw [hG] at hct; exact hct
      refine lv_iconst (v := 0) hx hb_ dX12_goes_14 (by decide) ?_
      refine lv_istore (lv' := [(4, .int 0), (0, .ref (r_ 0)), (1, .int (nI pre.length)), (2, .int (nI n_)), (3, .int (nI un))]) hx hb_ dX12_goes_15 hl (by decide) rfl (fun ls hl => ?_)
      have JD : ∀ (nD jD : Nat) (iD : Int32), iD = nI jD → jD ≤ n_ → n_ < jD + nD → ∀ (fo : Nat → Int32), (∀ k_, k_ < 8 * cn → fo k_ = zA S_ (r_ 48) k_) → (∀ k_, k_ < jD → fo (8 * cn + k_) = nI (pre.getD k_ 0)) → ∀ (H_ : Heap) (locs_ : List Loc), zPw cD cy A_ s_.heap (zsA S_ (r_ 48) fo) H_ locs_ → ∀ ls : Array Slot, lv_has ls 5 [(0, .ref (r_ 0)), (1, .int (nI pre.length)), (2, .int (nI n_)), (3, .int (nI un)), (4, .int iD)] → W p_ lau e_ ({ frames := 8, cells := 0, slots := 0, locals := 195 } : Room) s_ m_ args_ below_ meth_ c_ H_ locs_ 0 0 (MQ below_ (va_Qv (fun (S1 : zS) => ∃ lf av fo : Nat → Int32, S1 = zsI (zsA (zsA (zsA S_ (r_ 46) lf) (r_ 47) av) (r_ 48) fo) 1250 (r_ 0) (nI (cn + (mG n_ 0 pre).length)) ∧ (∀ k_, k_ < pre.length → lf k_ = zA S_ (r_ 46) k_) ∧ (∀ x_, x_ ∈ pre → av x_ = zA S_ (r_ 47) x_) ∧ (∀ k_, k_ < 8 * cn → fo k_ = zA S_ (r_ 48) k_) ∧ (∀ i_, i_ < (mG n_ 0 pre).length → ∀ k_, k_ < n_ → fo (8 * (cn + i_) + k_) = nI (((mG n_ 0 pre).getD i_ []).getD k_ 0))) (zPost cD cy A_) A_) args_ s_ 0 0 A_) (F0 m_ 17 ls []) := by
        intro nD
        induction nD with
        | zero => intro jD iD _ hjD h_; exact absurd h_ (by omega)
        | succ nD ihD =>
          intro jD iD eiD hjD hmD fo hf1 hf2 H_ locs_ hw ls hl
          have hSh : ShM (zsA S_ (r_ 48) fo) r_ := (sh_AM hSh0)
          refine lv_iload hx hb_ dX12_goes_17 (lv_at hl 4 rfl) ?_
          refine lv_iload_n hx hb_ dX12_goes_19 rfl (lv_at hl 2 rfl) ?_
          refine lv_icmp_ge (tgt := 51) hx hb_ dX12_goes_20 (by decide) (fun c_20 => ?_) (fun c_20 => ?_)
          · refine lv_aload_n hx hb_ dX12_goes_51 rfl (lv_at hl 0 rfl) ?_
            refine lv_dup hx hb_ dX12_goes_52 rfl ?_
            refine z_get (k := 12) (i := 50) (j := 1250) (v := .int (nI cn)) (ref := "FoldedInHalfModel") (C := RX12) (T := TX12) (N := 56) hcf hK_ hw hin12 (mL hSh 0) (mK hSh 0) rfl (by decide) (by decide) rfl rfl (congrArg Value.int hcc) (List.mem_of_getElem? (i := 2) rfl) (fun _ h_ => h_) dX12_goes_53 ?_
            refine lv_iconst (v := 1) hx hb_ dX12_goes_56 (by decide) ?_
            refine lv_iadd hx hb_ dX12_goes_57 ?_
            refine z_topi (y := (nI (cn + 1))) (nI_1 cn) ?_
            refine z_putI (k := 12) (i := 50) (j := 1250) (x := (nI (cn + 1))) (v := .int (nI (cn + 1))) (ty := .int) (ref := "FoldedInHalfModel") (C := RX12) (T := TX12) (N := 56) tyX12 hcf hK_ hw hin12 tyX12_ok nmX12 (mL hSh 0) (mK hSh 0) rfl (by decide) (by decide) rfl rfl (List.mem_of_getElem? (i := 2) rfl) (fun _ h_ => h_) rfl rfl (by decide +kernel) rfl rfl dX12_goes_58 (fun H_ locs_ hw => ?_)
            have hSh : ShM (zsI (zsA S_ (r_ 48) fo) 1250 (r_ 0) (nI (cn + 1))) r_ := (sh_IM (sh_AM hSh0))
            exact z_vret hcf hr hlk hw ((by have hj : jD = n_ := (by have := zn_ge eiD rfl (by omega) c_20; omega); rw [hG]; exact ⟨zA S_ (r_ 46), zA S_ (r_ 47), fo, by rw [zsA_self, zsA_self]; rfl, fun k_ hk => rfl, fun x_ hx => rfl, hf1, fun i_ hi_ k_ hk => by have e0 : i_ = 0 := (by simp at hi_; omega); subst e0; exact hf2 k_ (by omega)⟩)) dX12_goes_61
          · have hlt : jD < n_ := zn_lt eiD rfl (by omega) c_20
            refine lv_aload_n hx hb_ dX12_goes_23 rfl (lv_at hl 0 rfl) ?_
            refine z_get (k := 12) (i := 48) (j := 1248) (v := .ref (r_ 48)) (ref := "FoldedInHalfModel") (C := RX12) (T := TX12) (N := 56) hcf hK_ hw hin12 (mL hSh 0) (mK hSh 0) rfl (by decide) (by decide) rfl rfl (congrArg va_rf (mP hSh 48)) (List.mem_of_getElem? (i := 1) rfl) (fun _ h_ => h_) dX12_goes_24 ?_
            refine lv_bipush (v := 8) hx hb_ dX12_goes_27 (by decide) ?_
            refine lv_aload_n hx hb_ dX12_goes_29 rfl (lv_at hl 0 rfl) ?_
            refine z_get (k := 12) (i := 50) (j := 1250) (v := .int (nI cn)) (ref := "FoldedInHalfModel") (C := RX12) (T := TX12) (N := 56) hcf hK_ hw hin12 (mL hSh 0) (mK hSh 0) rfl (by decide) (by decide) rfl rfl (congrArg Value.int hcc) (List.mem_of_getElem? (i := 2) rfl) (fun _ h_ => h_) dX12_goes_30 ?_
            refine lv_imul hx hb_ dX12_goes_33 ?_
            refine lv_iload hx hb_ dX12_goes_34 (lv_at hl 4 rfl) ?_
            refine lv_iadd hx hb_ dX12_goes_36 ?_
            refine z_topi (y := (nI (8 * cn + jD))) (by rw [eiD, show (8 : Int32) * nI cn = nI (8 * cn) from pk_mul 8 cn, nI_add]) ?_
            refine lv_aload_n hx hb_ dX12_goes_37 rfl (lv_at hl 0 rfl) ?_
            refine z_get (k := 12) (i := 46) (j := 1246) (v := .ref (r_ 46)) (ref := "FoldedInHalfModel") (C := RX12) (T := TX12) (N := 56) hcf hK_ hw hin12 (mL hSh 0) (mK hSh 0) rfl (by decide) (by decide) rfl rfl (congrArg va_rf (mP hSh 46)) (List.mem_of_getElem? (i := 3) rfl) (fun _ h_ => h_) dX12_goes_38 ?_
            refine lv_iload hx hb_ dX12_goes_41 (lv_at hl 4 rfl) ?_
            refine z_iald (n := 8) hcf hK_ hw (mL hSh 46) (mK hSh 46) (mN hSh 46) (by rw [eiD]; exact vp_in_nI (by omega) (by decide)) dX12_goes_43 ?_
            refine z_topi (y := (nI (pre.getD jD 0))) (by rw [(show iD.toNatClampNeg = jD by rw [eiD]; exact nI_clamp (by omega))]; exact (congrFun (show zA (zsA S_ (r_ 48) fo) (r_ 46) = (zA S_ (r_ 46)) from (zA_ne _ _ (mNe hSh (i := 46) (j := 48) (by decide) (by decide) (by decide)))) jD).trans (hlf jD (by omega))) ?_
            refine z_iast (n := 11136) hcf hK_ hw (mL hSh 48) (mK hSh 48) (mN hSh 48) (vp_in_nI (by omega) (by decide)) dX12_goes_44 (fun H_ locs_ hw => ?_)
            obtain ⟨f3_, ef3⟩ : ∃ zz, zz = (upd (zA (zsA S_ (r_ 48) fo) (r_ 48)) ((nI (8 * cn + jD)) : Int32).toNatClampNeg (nI (pre.getD jD 0))) := ⟨_, rfl⟩
            rw [← ef3] at hw
            have hf3 : f3_ = upd fo ((8 * cn + jD)) (nI (pre.getD jD 0)) := by rw [ef3, (nI_clamp (show (8 * cn + jD) < 2 ^ 31 by omega)), show zA (zsA S_ (r_ 48) fo) (r_ 48) = _ from (zA_zsA _ _ _)]
            rw [zsA_zsA] at hw
            have hSh : ShM (zsA S_ (r_ 48) f3_) r_ := (sh_AM hSh0)
            obtain ⟨i4, ei4⟩ : ∃ y_ : Int32, y_ = iD + 1 := ⟨_, rfl⟩
            refine lv_iinc (v := i4) (lv' := [(4, .int i4), (0, .ref (r_ 0)), (1, .int (nI pre.length)), (2, .int (nI n_)), (3, .int (nI un))]) hx hb_ dX12_goes_45 hl (k := 4) rfl (by rw [ei4]; rfl) (by decide) rfl (fun ls hl => ?_)
            refine lv_goto (tgt := 17) hx hb_ dX12_goes_48 (by decide) ?_
            exact ihD (jD + 1) i4 (by rw [ei4, eiD]; exact nI_1 jD) hlt (by omega) f3_ (fun k_ hk => by rw [hf3, upd_no _ _ (by omega)]; exact hf1 k_ hk) (fun k_ hk => by rw [hf3]; exact (Nat.lt_or_ge k_ jD).elim (fun q_ => by rw [upd_no _ _ (by omega)]; exact hf2 k_ q_) (fun q_ => by have e_ := (show k_ = jD by omega); subst e_; exact upd_at _ _ _)) _ _ hw ls (lv_sub hl [1, 2, 3, 4, 0] rfl)
      exact JD (n_ + 1) 0 0 nI_0.symm (Nat.zero_le _) (by omega) (zA S_ (r_ 48)) (fun k_ hk => rfl) (fun k_ hk => absurd hk (Nat.not_lt_zero k_)) _ _ (by rw [zsA_self]; exact hw) ls (lv_sub hl [1, 2, 3, 4, 0] rfl)
    · exact z_vret hcf hr hlk hw ((by have hG : mG n_ 0 pre = [] := (by rw [mG]; exact if_neg (fun q_ => c_10 (by rw [hv1, if_pos q_]))); rw [hG]; exact ⟨zA S_ (r_ 46), zA S_ (r_ 47), zA S_ (r_ 48), by rw [zsA_self, zsA_self, zsA_self]; exact (zsI_self hcc).symm, fun k_ hk => rfl, fun x_ hx => rfl, fun k_ hk => rfl, fun i_ hi_ => absurd hi_ (Nat.not_lt_zero i_)⟩)) dX12_goes_13
  | succ ee =>
    refine lv_iload_n hx hb_ dX12_goes_0 rfl (lv_at hl 1 rfl) ?_
    refine lv_iload_n hx hb_ dX12_goes_1 rfl (lv_at hl 2 rfl) ?_
    refine lv_icmp_ne (tgt := 62) hx hb_ dX12_goes_2 (by decide) (fun c_2 => ?_) (fun c_2 => absurd c_2 (fun q_ => absurd ((nI_eq (by omega) (by omega)).mp q_) (by omega)))
    refine lv_iconst (v := 0) hx hb_ dX12_goes_62 (by decide) ?_
    refine lv_istore (lv' := [(4, .int 0), (0, .ref (r_ 0)), (1, .int (nI pre.length)), (2, .int (nI n_)), (3, .int (nI un))]) hx hb_ dX12_goes_63 hl (by decide) rfl (fun ls hl => ?_)
    have JA : ∀ (nA jA : Nat) (iA : Int32), iA = nI jA → jA ≤ n_ → n_ < jA + nA → ∀ (lf av fo : Nat → Int32) (T : List (List Nat)), T = (List.range jA).flatMap (mGf n_ ee pre) → (∀ k_, k_ < pre.length → lf k_ = nI (pre.getD k_ 0)) → (∀ x_, x_ ∈ pre → av x_ = nI (pre.idxOf x_)) → (∀ k_, k_ < 8 * cn → fo k_ = zA S_ (r_ 48) k_) → (∀ i_, i_ < T.length → ∀ k_, k_ < n_ → fo (8 * (cn + i_) + k_) = nI ((T.getD i_ []).getD k_ 0)) → ∀ (H_ : Heap) (locs_ : List Loc), zPw cD cy A_ s_.heap (zsI (zsA (zsA (zsA S_ (r_ 46) lf) (r_ 47) av) (r_ 48) fo) 1250 (r_ 0) (nI (cn + T.length))) H_ locs_ → ∀ ls : Array Slot, lv_has ls 5 [(0, .ref (r_ 0)), (1, .int (nI pre.length)), (2, .int (nI n_)), (3, .int (nI un)), (4, .int iA)] → W p_ lau e_ ({ frames := 8, cells := 0, slots := 0, locals := 195 } : Room) s_ m_ args_ below_ meth_ c_ H_ locs_ 0 0 (MQ below_ (va_Qv (fun (S1 : zS) => ∃ lf av fo : Nat → Int32, S1 = zsI (zsA (zsA (zsA S_ (r_ 46) lf) (r_ 47) av) (r_ 48) fo) 1250 (r_ 0) (nI (cn + (mG n_ (ee + 1) pre).length)) ∧ (∀ k_, k_ < pre.length → lf k_ = zA S_ (r_ 46) k_) ∧ (∀ x_, x_ ∈ pre → av x_ = zA S_ (r_ 47) x_) ∧ (∀ k_, k_ < 8 * cn → fo k_ = zA S_ (r_ 48) k_) ∧ (∀ i_, i_ < (mG n_ (ee + 1) pre).length → ∀ k_, k_ < n_ → fo (8 * (cn + i_) + k_) = nI (((mG n_ (ee + 1) pre).getD i_ []).getD k_ 0))) (zPost cD cy A_) A_) args_ s_ 0 0 A_) (F0 m_ 65 ls []) := by
      intro nA
      induction nA with
      | zero => intro jA iA _ hjA h_; exact absurd h_ (by omega)
      | succ nA ihA =>
        intro jA iA eiA hjA hmA lf av fo T hT hk1 hk2 hk3 hk4 H_ locs_ hw ls hl
        subst eiA
        have hSh : ShM (zsI (zsA (zsA (zsA S_ (r_ 46) lf) (r_ 47) av) (r_ 48) fo) 1250 (r_ 0) (nI (cn + T.length))) r_ := (sh_IM (sh_AM (sh_AM (sh_AM hSh0))))
        refine lv_iload hx hb_ dX12_goes_65 (lv_at hl 4 rfl) ?_
        refine lv_iload_n hx hb_ dX12_goes_67 rfl (lv_at hl 2 rfl) ?_
        refine lv_icmp_ge (tgt := 120) hx hb_ dX12_goes_68 (by decide) (fun c_68 => ?_) (fun c_68 => ?_)
        · exact z_vret hcf hr hlk hw ((by have hj : jA = n_ := (by have := zn_ge rfl rfl (by omega) c_68; omega); have hTG : T = mG n_ (ee + 1) pre := (by rw [hT, hj]; rfl); exact ⟨lf, av, fo, by rw [hTG], fun k_ hk => (hk1 k_ hk).trans (hlf k_ hk).symm, fun x_ hx => (hk2 x_ hx).trans (hat x_ hx).symm, hk3, by rw [← hTG]; exact hk4⟩)) dX12_goes_120
        · have hlt : jA < n_ := zn_lt rfl rfl (by omega) c_68
          have hle : T.length + (mGf n_ ee pre jA).length ≤ (mG n_ (ee + 1) pre).length := by have := rg_le (mGf n_ ee pre) (show jA + 1 ≤ n_ by omega); rw [rg_fm, List.length_append, ← hT, ← mG_eq] at this; exact this
          refine lv_iload_n hx hb_ dX12_goes_71 rfl (lv_at hl 3 rfl) ?_
          refine lv_iload hx hb_ dX12_goes_72 (lv_at hl 4 rfl) ?_
          refine lv_ishr hx hb_ dX12_goes_74 ?_
          refine lv_iconst (v := 1) hx hb_ dX12_goes_75 (by decide) ?_
          refine lv_iand hx hb_ dX12_goes_76 ?_
          refine lv_iconst (v := 1) hx hb_ dX12_goes_77 (by decide) ?_
          refine lv_icmp_ne (tgt := 84) hx hb_ dX12_goes_78 (by decide) (fun c_78 => ?_) (fun c_78 => ?_)
          · have hnb : nbit un jA = false := by rw [← ub_s jA (by omega) un hu]; exact decide_eq_false c_78
            have hnm : jA ∉ pre := of_decide_eq_false (by rw [← hub jA (by omega)]; exact hnb)
            have hG : mGf n_ ee pre jA = mG n_ ee (pre ++ [jA]) := if_neg hnm
            have hut := ub_t jA (by omega) un hu hnb
            refine lv_aload_n hx hb_ dX12_goes_84 rfl (lv_at hl 0 rfl) ?_
            refine z_get (k := 12) (i := 46) (j := 1246) (v := .ref (r_ 46)) (ref := "FoldedInHalfModel") (C := RX12) (T := TX12) (N := 56) hcf hK_ hw hin12 (mL hSh 0) (mK hSh 0) rfl (by decide) (by decide) rfl rfl (congrArg va_rf (mP hSh 46)) (List.mem_of_getElem? (i := 3) rfl) (fun _ h_ => h_) dX12_goes_85 ?_
            refine lv_iload_n hx hb_ dX12_goes_88 rfl (lv_at hl 1 rfl) ?_
            refine lv_iload hx hb_ dX12_goes_89 (lv_at hl 4 rfl) ?_
            refine z_iast (n := 8) hcf hK_ hw (mL hSh 46) (mK hSh 46) (mN hSh 46) (vp_in_nI (by omega) (by decide)) dX12_goes_91 (fun H_ locs_ hw => ?_)
            obtain ⟨f4, ef4⟩ : ∃ zz, zz = (upd (zA (zsI (zsA (zsA (zsA S_ (r_ 46) lf) (r_ 47) av) (r_ 48) fo) 1250 (r_ 0) (nI (cn + T.length))) (r_ 46)) ((nI pre.length) : Int32).toNatClampNeg (nI jA)) := ⟨_, rfl⟩
            rw [← ef4] at hw
            have hf4 : f4 = upd lf pre.length (nI jA) := by rw [ef4, (nI_clamp (show pre.length < 2 ^ 31 by omega)), show zA (zsI (zsA (zsA (zsA S_ (r_ 46) lf) (r_ 47) av) (r_ 48) fo) 1250 (r_ 0) (nI (cn + T.length))) (r_ 46) = _ from (zA_I.trans ((zA_ne _ _ (mNe hSh (i := 46) (j := 48) (by decide) (by decide) (by decide))).trans ((zA_ne _ _ (mNe hSh (i := 46) (j := 47) (by decide) (by decide) (by decide))).trans (zA_zsA _ _ _))))]
            rw [zsA_zsI, zsA_comm _ _ _ (mNe hSh (i := 48) (j := 46) (by decide) (by decide) (by decide)), zsA_comm _ _ _ (mNe hSh (i := 47) (j := 46) (by decide) (by decide) (by decide)), zsA_zsA] at hw
            have hSh : ShM (zsI (zsA (zsA (zsA S_ (r_ 46) f4) (r_ 47) av) (r_ 48) fo) 1250 (r_ 0) (nI (cn + T.length))) r_ := (sh_IM (sh_AM (sh_AM (sh_AM hSh0))))
            refine lv_aload_n hx hb_ dX12_goes_92 rfl (lv_at hl 0 rfl) ?_
            refine z_get (k := 12) (i := 47) (j := 1247) (v := .ref (r_ 47)) (ref := "FoldedInHalfModel") (C := RX12) (T := TX12) (N := 56) hcf hK_ hw hin12 (mL hSh 0) (mK hSh 0) rfl (by decide) (by decide) rfl rfl (congrArg va_rf (mP hSh 47)) (List.mem_of_getElem? (i := 4) rfl) (fun _ h_ => h_) dX12_goes_93 ?_
            refine lv_iload hx hb_ dX12_goes_96 (lv_at hl 4 rfl) ?_
            refine lv_iload_n hx hb_ dX12_goes_98 rfl (lv_at hl 1 rfl) ?_
            refine z_iast (n := 8) hcf hK_ hw (mL hSh 47) (mK hSh 47) (mN hSh 47) (vp_in_nI (by omega) (by decide)) dX12_goes_99 (fun H_ locs_ hw => ?_)
            obtain ⟨f5, ef5⟩ : ∃ zz, zz = (upd (zA (zsI (zsA (zsA (zsA S_ (r_ 46) f4) (r_ 47) av) (r_ 48) fo) 1250 (r_ 0) (nI (cn + T.length))) (r_ 47)) ((nI jA) : Int32).toNatClampNeg (nI pre.length)) := ⟨_, rfl⟩
            rw [← ef5] at hw
            have hf5 : f5 = upd av jA (nI pre.length) := by rw [ef5, (nI_clamp (show jA < 2 ^ 31 by omega)), show zA (zsI (zsA (zsA (zsA S_ (r_ 46) f4) (r_ 47) av) (r_ 48) fo) 1250 (r_ 0) (nI (cn + T.length))) (r_ 47) = _ from (zA_I.trans ((zA_ne _ _ (mNe hSh (i := 47) (j := 48) (by decide) (by decide) (by decide))).trans (zA_zsA _ _ _)))]
            rw [zsA_zsI, zsA_comm _ _ _ (mNe hSh (i := 48) (j := 47) (by decide) (by decide) (by decide)), zsA_zsA] at hw
            have hSh : ShM (zsI (zsA (zsA (zsA S_ (r_ 46) f4) (r_ 47) f5) (r_ 48) fo) 1250 (r_ 0) (nI (cn + T.length))) r_ := (sh_IM (sh_AM (sh_AM (sh_AM hSh0))))
            refine lv_aload_n hx hb_ dX12_goes_100 rfl (lv_at hl 0 rfl) ?_
            refine lv_iload_n hx hb_ dX12_goes_101 rfl (lv_at hl 1 rfl) ?_
            refine lv_iconst (v := 1) hx hb_ dX12_goes_102 (by decide) ?_
            refine lv_iadd hx hb_ dX12_goes_103 ?_
            refine z_topi (y := (nI (pre ++ [jA]).length)) (by rw [nI_1, List.length_append]; rfl) ?_
            refine lv_iload_n hx hb_ dX12_goes_104 rfl (lv_at hl 2 rfl) ?_
            refine lv_iload_n hx hb_ dX12_goes_105 rfl (lv_at hl 3 rfl) ?_
            refine lv_iconst (v := 1) hx hb_ dX12_goes_106 (by decide) ?_
            refine lv_iload hx hb_ dX12_goes_107 (lv_at hl 4 rfl) ?_
            refine lv_ishl hx hb_ dX12_goes_109 ?_
            refine lv_ior hx hb_ dX12_goes_110 ?_
            refine z_topi (y := (nI (un + 2 ^ jA))) (hut.1) ?_
            refine z_kv hw hA (va_runV (As := [.int (nI (pre ++ [jA]).length), .int (nI n_), .int (nI (un + 2 ^ jA))]) (rest := []) hcf (c_X12_goes_6 lau cD cy _ r_ (zsI (zsA (zsA (zsA S_ (r_ 46) f4) (r_ 47) f5) (r_ 48) fo) 1250 (r_ 0) (nI (cn + T.length))) hSh n_ (cn + T.length) ee (un + 2 ^ jA) (pre ++ [jA]) (by rw [List.length_append, List.length_singleton]; omega) hn (by rw [List.length_append, List.length_singleton]; omega) hut.2.1 (fun k_ hk => by rw [hut.2.2 k_ hk, hub k_ hk]; by_cases q_ : k_ ∈ pre <;> by_cases q2 : k_ = jA <;> simp [q_, q2]) (nd_app hnd hnm) (fun x_ hx => (List.mem_append.mp hx).elim (fun q_ => hb8 x_ q_) (fun q_ => by rw [List.mem_singleton] at q_; omega)) zI_at (by rw [hG] at hle; omega) (fun k_ hk => by rw [congrFun (show zA (zsI (zsA (zsA (zsA S_ (r_ 46) f4) (r_ 47) f5) (r_ 48) fo) 1250 (r_ 0) (nI (cn + T.length))) (r_ 46) = f4 from (zA_I.trans ((zA_ne _ _ (mNe hSh (i := 46) (j := 48) (by decide) (by decide) (by decide))).trans ((zA_ne _ _ (mNe hSh (i := 46) (j := 47) (by decide) (by decide) (by decide))).trans (zA_zsA _ _ _))))) k_, hf4]; rw [List.length_append, List.length_singleton] at hk; exact (Decidable.em (k_ = pre.length)).elim (fun q_ => by rw [q_, upd_at, gd_new]) (fun q_ => by rw [upd_no _ _ q_, hk1 k_ (by omega), gd_app (by omega)])) (fun x_ hx => by rw [congrFun (show zA (zsI (zsA (zsA (zsA S_ (r_ 46) f4) (r_ 47) f5) (r_ 48) fo) 1250 (r_ 0) (nI (cn + T.length))) (r_ 47) = f5 from (zA_I.trans ((zA_ne _ _ (mNe hSh (i := 47) (j := 48) (by decide) (by decide) (by decide))).trans (zA_zsA _ _ _)))) x_, hf5]; exact (Decidable.em (x_ = jA)).elim (fun q_ => by rw [q_, upd_at, ix_new hnm]) (fun q_ => by have hx2 : x_ ∈ pre := ((List.mem_append.mp hx).elim id (fun z_ => absurd (List.mem_singleton.mp z_) q_)); rw [upd_no _ _ q_, hk2 x_ hx2, ix_app hx2]))) (cwV 3 hts gX12_goes_X12_goes rfl rfl rfl (by decide +kernel) ⟨Nat.le_of_ble_eq_true rfl, Nat.le_of_ble_eq_true rfl⟩) (z_preV (k := 12) hK_ hE hw (mL hSh 0) (mK hSh 0) (by decide) rfl) rfl rfl hl.1 rfl (lv_room (Nat.le_of_ble_eq_true rfl)) dX12_goes_111 ⟨Nat.le_of_ble_eq_true rfl, Nat.le_of_ble_eq_true rfl⟩) (fun S7 H_ locs_ hp hw => ?_)
            obtain ⟨lf2, av2, fo2, rfl, g1, g2, g3, g4⟩ := hp
            rw [zsA_zsI, zsA_comm _ _ _ (mNe hSh (i := 48) (j := 46) (by decide) (by decide) (by decide)), zsA_comm _ _ _ (mNe hSh (i := 47) (j := 46) (by decide) (by decide) (by decide)), zsA_zsA] at hw
            rw [zsA_zsI, zsA_comm _ _ _ (mNe hSh (i := 48) (j := 47) (by decide) (by decide) (by decide)), zsA_zsA] at hw
            rw [zsA_zsI, zsA_zsA] at hw
            rw [zsI_zsI] at hw
            have hSh : ShM (zsI (zsA (zsA (zsA S_ (r_ 46) lf2) (r_ 47) av2) (r_ 48) fo2) 1250 (r_ 0) (nI (cn + T.length + (mG n_ ee (pre ++ [jA])).length))) r_ := (sh_IM (sh_AM (sh_AM (sh_AM hSh0))))
            obtain ⟨i2_, ei2⟩ : ∃ y_ : Int32, y_ = (nI jA) + 1 := ⟨_, rfl⟩
            refine lv_iinc (v := i2_) (lv' := [(4, .int i2_), (0, .ref (r_ 0)), (1, .int (nI pre.length)), (2, .int (nI n_)), (3, .int (nI un))]) hx hb_ dX12_goes_114 hl (k := 4) rfl (by rw [ei2]; rfl) (by decide) rfl (fun ls hl => ?_)
            refine lv_goto (tgt := 65) hx hb_ dX12_goes_117 (by decide) ?_
            have ecc : cn + T.length + (mG n_ ee (pre ++ [jA])).length = cn + (T ++ mG n_ ee (pre ++ [jA])).length := by rw [List.length_append]; omega
            rw [ecc] at hw
            refine ihA (jA + 1) i2_ (by rw [ei2]; exact nI_1 jA) (by omega) (by omega) lf2 av2 fo2 (T ++ mG n_ ee (pre ++ [jA])) (by rw [rg_fm, hG, hT]) (fun k_ hk => ?_) (fun x_ hx => ?_) (fun k_ hk => ?_) (fun i_ hi_ k_ hk => ?_) _ _ hw ls (lv_sub hl [1, 2, 3, 4, 0] rfl)
            · rw [g1 k_ (by rw [List.length_append]; omega), congrFun (show zA (zsI (zsA (zsA (zsA S_ (r_ 46) f4) (r_ 47) f5) (r_ 48) fo) 1250 (r_ 0) (nI (cn + T.length))) (r_ 46) = f4 from (zA_I.trans ((zA_ne _ _ (mNe hSh (i := 46) (j := 48) (by decide) (by decide) (by decide))).trans ((zA_ne _ _ (mNe hSh (i := 46) (j := 47) (by decide) (by decide) (by decide))).trans (zA_zsA _ _ _))))) k_, hf4, upd_no _ _ (by omega)]; exact hk1 k_ hk
            · rw [g2 x_ (List.mem_append_left _ hx), congrFun (show zA (zsI (zsA (zsA (zsA S_ (r_ 46) f4) (r_ 47) f5) (r_ 48) fo) 1250 (r_ 0) (nI (cn + T.length))) (r_ 47) = f5 from (zA_I.trans ((zA_ne _ _ (mNe hSh (i := 47) (j := 48) (by decide) (by decide) (by decide))).trans (zA_zsA _ _ _)))) x_, hf5, upd_no _ _ (fun q_ => hnm (by rw [← q_]; exact hx))]; exact hk2 x_ hx
            · rw [g3 k_ (by omega), congrFun (show zA (zsI (zsA (zsA (zsA S_ (r_ 46) f4) (r_ 47) f5) (r_ 48) fo) 1250 (r_ 0) (nI (cn + T.length))) (r_ 48) = fo from (zA_I.trans (zA_zsA _ _ _))) k_]; exact hk3 k_ hk
            · rcases Nat.lt_or_ge i_ T.length with q_ | q_
              · rw [g3 _ (by omega), congrFun (show zA (zsI (zsA (zsA (zsA S_ (r_ 46) f4) (r_ 47) f5) (r_ 48) fo) 1250 (r_ 0) (nI (cn + T.length))) (r_ 48) = fo from (zA_I.trans (zA_zsA _ _ _))) _, hk4 i_ q_ k_ hk, List.getD_eq_getElem?_getD (l := T), List.getD_eq_getElem?_getD (l := T ++ _), List.getElem?_append_left q_]
              · rw [List.length_append] at hi_
                have := g4 (i_ - T.length) (by omega) k_ hk
                rw [show cn + T.length + (i_ - T.length) = cn + i_ by omega] at this
                rw [this, List.getD_eq_getElem?_getD (l := mG n_ ee (pre ++ [jA])), List.getD_eq_getElem?_getD (l := T ++ _), List.getElem?_append_right q_]
          · refine lv_goto (tgt := 114) hx hb_ dX12_goes_81 (by decide) ?_
            obtain ⟨i2_, ei2⟩ : ∃ y_ : Int32, y_ = (nI jA) + 1 := ⟨_, rfl⟩
            refine lv_iinc (v := i2_) (lv' := [(4, .int i2_), (0, .ref (r_ 0)), (1, .int (nI pre.length)), (2, .int (nI n_)), (3, .int (nI un))]) hx hb_ dX12_goes_114 hl (k := 4) rfl (by rw [ei2]; rfl) (by decide) rfl (fun ls hl => ?_)
            refine lv_goto (tgt := 65) hx hb_ dX12_goes_117 (by decide) ?_
            have hin : jA ∈ pre := of_decide_eq_true (by rw [← hub jA (by omega), ← ub_s jA (by omega) un hu]; exact decide_eq_true c_78)
            have hG : mGf n_ ee pre jA = [] := if_pos hin
            exact ihA (jA + 1) i2_ (by rw [ei2]; exact nI_1 jA) (by omega) (by omega) lf av fo T (by rw [rg_fm, hG, List.append_nil]; exact hT) hk1 hk2 hk3 hk4 _ _ hw ls (lv_sub hl [1, 2, 3, 4, 0] rfl)
    exact JA (n_ + 1) 0 0 nI_0.symm (Nat.zero_le _) (by omega) (zA S_ (r_ 46)) (zA S_ (r_ 47)) (zA S_ (r_ 48)) [] rfl hlf hat (fun k_ hk => rfl) (fun i_ hi_ => absurd hi_ (Nat.not_lt_zero i_)) _ _ (by rw [zsA_self, zsA_self, zsA_self, show cn + ([] : List (List Nat)).length = cn from rfl, zsI_self hcc]; exact hw) ls (lv_sub hl [1, 2, 3, 4, 0] rfl)

set_option maxHeartbeats 1000000 in
set_option maxRecDepth 100000 in
theorem c_X12_goes_8 (lau : Launch) (cD : va_G) (cy : Nat → ClassId) (sz_ : Nat) (r_ : Nat → Nat) (S_ : zS) (hSh : ShM S_ r_) (n_ cn ee un : Nat) (pre : List Nat) (hd : pre.length + 8 = 8) (hn : n_ ≤ 8) (hlen : pre.length + ee = n_) (hu : un < 256) (hub : ∀ k_, k_ < 8 → nbit un k_ = decide (k_ ∈ pre)) (hnd : pre.Nodup) (hb8 : ∀ x_, x_ ∈ pre → x_ < n_) (hcc : zI S_ 1250 (r_ 0) = nI cn) (hct : cn + (mG n_ ee pre).length ≤ 1392) (hlf : ∀ k_, k_ < pre.length → zA S_ (r_ 46) k_ = nI (pre.getD k_ 0)) (hat : ∀ x_, x_ ∈ pre → zA S_ (r_ 47) x_ = nI (pre.idxOf x_)) : Met lau yX12_goes wsX12_goes ({ frames := 9, cells := 0, slots := 0, locals := 219 } : Room) (va_Pc [.ref (r_ 0), .int (nI pre.length), .int (nI n_), .int (nI un)] (zPre cD cy S_ sz_)) (va_Qv (fun (S1 : zS) => ∃ lf av fo : Nat → Int32, S1 = zsI (zsA (zsA (zsA S_ (r_ 46) lf) (r_ 47) av) (r_ 48) fo) 1250 (r_ 0) (nI (cn + (mG n_ ee pre).length)) ∧ (∀ k_, k_ < pre.length → lf k_ = zA S_ (r_ 46) k_) ∧ (∀ x_, x_ ∈ pre → av x_ = zA S_ (r_ 47) x_) ∧ (∀ k_, k_ < 8 * cn → fo k_ = zA S_ (r_ 48) k_) ∧ (∀ i_, i_ < (mG n_ ee pre).length → ∀ k_, k_ < n_ → fo (8 * (cn + i_) + k_) = nI (((mG n_ ee pre).getD i_ []).getD k_ 0))) (zPost cD cy (zAd cy S_ sz_)) (zAd cy S_ sz_)) 0 0 (zAd cy S_ sz_) := by
  refine z_ofW (cc := cX12_goes) (maxL := 5) (ret := none) (own := RX12) (QQ := fun A_ => va_Qv (fun (S1 : zS) => ∃ lf av fo : Nat → Int32, S1 = zsI (zsA (zsA (zsA S_ (r_ 46) lf) (r_ 47) av) (r_ 48) fo) 1250 (r_ 0) (nI (cn + (mG n_ ee pre).length)) ∧ (∀ k_, k_ < pre.length → lf k_ = zA S_ (r_ 46) k_) ∧ (∀ x_, x_ ∈ pre → av x_ = zA S_ (r_ 47) x_) ∧ (∀ k_, k_ < 8 * cn → fo k_ = zA S_ (r_ 48) k_) ∧ (∀ i_, i_ < (mG n_ ee pre).length → ∀ k_, k_ < n_ → fo (8 * (cn + i_) + k_) = nI (((mG n_ ee pre).getD i_ []).getD k_ 0))) (zPost cD cy A_) A_) (by decide) rfl rfl (Nat.le_of_ble_eq_true rfl) ?_
  intro p_ e_ s_ m_ args_ below_ meth_ c_ A_ ls hcf hr hlk hnm hK_ hE hw hA hl
  obtain ⟨hx, hb_, hml, hown, hts⟩ := id hcf
  have hin12 : ∀ w_ ∈ wsX120, w_ ∈ wsX12_goes := fun w_ h_ => (List.mem_cons_of_mem _ (List.mem_append_right _ h_))
  have hl : lv_has ls 5 [(0, .ref (r_ 0)), (1, .int (nI pre.length)), (2, .int (nI n_)), (3, .int (nI un))] := hl
  have hSh0 := hSh
  cases ee with
  | zero =>
    have hall : ∀ k_, k_ < n_ → k_ ∈ pre := fun k_ hk => nd_all hnd hb8 (by omega) hk
    refine lv_iload_n hx hb_ dX12_goes_0 rfl (lv_at hl 1 rfl) ?_
    refine lv_iload_n hx hb_ dX12_goes_1 rfl (lv_at hl 2 rfl) ?_
    refine lv_icmp_ne (tgt := 62) hx hb_ dX12_goes_2 (by decide) (fun c_2 => absurd c_2 (fun q_ => q_ (congrArg nI (by omega)))) (fun c_2 => ?_)
    refine lv_aload_n hx hb_ dX12_goes_5 rfl (lv_at hl 0 rfl) ?_
    refine lv_iload_n hx hb_ dX12_goes_6 rfl (lv_at hl 2 rfl) ?_
    refine z_ki hw hA (va_runV (As := [.int (nI n_)]) (rest := []) hcf (c_X12_isCrossed lau cD cy _ r_ S_ hSh n_ pre hn (by omega) hall (fun k_ hk => hat k_ (hall k_ hk))) (cwV 1 hts gX12_goes_X12_isCrossed rfl rfl rfl (by decide +kernel) ⟨Nat.le_of_ble_eq_true rfl, Nat.le_of_ble_eq_true rfl⟩) (z_preV (k := 12) hK_ hE hw (mL hSh 0) (mK hSh 0) (by decide) rfl) rfl rfl hl.1 rfl (lv_room (Nat.le_of_ble_eq_true rfl)) dX12_goes_7 ⟨Nat.le_of_ble_eq_true rfl, Nat.le_of_ble_eq_true rfl⟩) (fun v1 S2 H_ locs_ hp hw => ?_)
    obtain ⟨hv1, rfl⟩ := hp
    refine lv_if_eq (tgt := 14) hx hb_ dX12_goes_10 (by decide) (fun c_10 => ?_) (fun c_10 => ?_)
    · have hG : mG n_ 0 pre = [pre] := by rw [mG]; exact if_pos (Classical.byContradiction fun q_ => absurd c_10 (by rw [hv1, if_neg q_]; decide))
      have hcn : cn + 1 ≤ 1392 := by rw [hG] at hct; exact hct
      refine lv_iconst (v := 0) hx hb_ dX12_goes_14 (by decide) ?_
      refine lv_istore (lv' := [(4, .int 0), (0, .ref (r_ 0)), (1, .int (nI pre.length)), (2, .int (nI n_)), (3, .int (nI un))]) hx hb_ dX12_goes_15 hl (by decide) rfl (fun ls hl => ?_)
      have JD : ∀ (nD jD : Nat) (iD : Int32), iD = nI jD → jD ≤ n_ → n_ < jD + nD → ∀ (fo : Nat → Int32), (∀ k_, k_ < 8 * cn → fo k_ = zA S_ (r_ 48) k_) → (∀ k_, k_ < jD → fo (8 * cn + k_) = nI (pre.getD k_ 0)) → ∀ (H_ : Heap) (locs_ : List Loc), zPw cD cy A_ s_.heap (zsA S_ (r_ 48) fo) H_ locs_ → ∀ ls : Array Slot, lv_has ls 5 [(0, .ref (r_ 0)), (1, .int (nI pre.length)), (2, .int (nI n_)), (3, .int (nI un)), (4, .int iD)] → W p_ lau e_ ({ frames := 9, cells := 0, slots := 0, locals := 219 } : Room) s_ m_ args_ below_ meth_ c_ H_ locs_ 0 0 (MQ below_ (va_Qv (fun (S1 : zS) => ∃ lf av fo : Nat → Int32, S1 = zsI (zsA (zsA (zsA S_ (r_ 46) lf) (r_ 47) av) (r_ 48) fo) 1250 (r_ 0) (nI (cn + (mG n_ 0 pre).length)) ∧ (∀ k_, k_ < pre.length → lf k_ = zA S_ (r_ 46) k_) ∧ (∀ x_, x_ ∈ pre → av x_ = zA S_ (r_ 47) x_) ∧ (∀ k_, k_ < 8 * cn → fo k_ = zA S_ (r_ 48) k_) ∧ (∀ i_, i_ < (mG n_ 0 pre).length → ∀ k_, k_ < n_ → fo (8 * (cn + i_) + k_) = nI (((mG n_ 0 pre).getD i_ []).getD k_ 0))) (zPost cD cy A_) A_) args_ s_ 0 0 A_) (F0 m_ 17 ls []) := by
        intro nD
        induction nD with
        | zero => intro jD iD _ hjD h_; exact absurd h_ (by omega)
        | succ nD ihD =>
          intro jD iD eiD hjD hmD fo hf1 hf2 H_ locs_ hw ls hl
          have hSh : ShM (zsA S_ (r_ 48) fo) r_ := (sh_AM hSh0)
          refine lv_iload hx hb_ dX12_goes_17 (lv_at hl 4 rfl) ?_
          refine lv_iload_n hx hb_ dX12_goes_19 rfl (lv_at hl 2 rfl) ?_
          refine lv_icmp_ge (tgt := 51) hx hb_ dX12_goes_20 (by decide) (fun c_20 => ?_) (fun c_20 => ?_)
          · refine lv_aload_n hx hb_ dX12_goes_51 rfl (lv_at hl 0 rfl) ?_
            refine lv_dup hx hb_ dX12_goes_52 rfl ?_
            refine z_get (k := 12) (i := 50) (j := 1250) (v := .int (nI cn)) (ref := "FoldedInHalfModel") (C := RX12) (T := TX12) (N := 56) hcf hK_ hw hin12 (mL hSh 0) (mK hSh 0) rfl (by decide) (by decide) rfl rfl (congrArg Value.int hcc) (List.mem_of_getElem? (i := 2) rfl) (fun _ h_ => h_) dX12_goes_53 ?_
            refine lv_iconst (v := 1) hx hb_ dX12_goes_56 (by decide) ?_
            refine lv_iadd hx hb_ dX12_goes_57 ?_
            refine z_topi (y := (nI (cn + 1))) (nI_1 cn) ?_
            refine z_putI (k := 12) (i := 50) (j := 1250) (x := (nI (cn + 1))) (v := .int (nI (cn + 1))) (ty := .int) (ref := "FoldedInHalfModel") (C := RX12) (T := TX12) (N := 56) tyX12 hcf hK_ hw hin12 tyX12_ok nmX12 (mL hSh 0) (mK hSh 0) rfl (by decide) (by decide) rfl rfl (List.mem_of_getElem? (i := 2) rfl) (fun _ h_ => h_) rfl rfl (by decide +kernel) rfl rfl dX12_goes_58 (fun H_ locs_ hw => ?_)
            have hSh : ShM (zsI (zsA S_ (r_ 48) fo) 1250 (r_ 0) (nI (cn + 1))) r_ := (sh_IM (sh_AM hSh0))
            exact z_vret hcf hr hlk hw ((by have hj : jD = n_ := (by have := zn_ge eiD rfl (by omega) c_20; omega); rw [hG]; exact ⟨zA S_ (r_ 46), zA S_ (r_ 47), fo, by rw [zsA_self, zsA_self]; rfl, fun k_ hk => rfl, fun x_ hx => rfl, hf1, fun i_ hi_ k_ hk => by have e0 : i_ = 0 := (by simp at hi_; omega); subst e0; exact hf2 k_ (by omega)⟩)) dX12_goes_61
          · have hlt : jD < n_ := zn_lt eiD rfl (by omega) c_20
            refine lv_aload_n hx hb_ dX12_goes_23 rfl (lv_at hl 0 rfl) ?_
            refine z_get (k := 12) (i := 48) (j := 1248) (v := .ref (r_ 48)) (ref := "FoldedInHalfModel") (C := RX12) (T := TX12) (N := 56) hcf hK_ hw hin12 (mL hSh 0) (mK hSh 0) rfl (by decide) (by decide) rfl rfl (congrArg va_rf (mP hSh 48)) (List.mem_of_getElem? (i := 1) rfl) (fun _ h_ => h_) dX12_goes_24 ?_
            refine lv_bipush (v := 8) hx hb_ dX12_goes_27 (by decide) ?_
            refine lv_aload_n hx hb_ dX12_goes_29 rfl (lv_at hl 0 rfl) ?_
            refine z_get (k := 12) (i := 50) (j := 1250) (v := .int (nI cn)) (ref := "FoldedInHalfModel") (C := RX12) (T := TX12) (N := 56) hcf hK_ hw hin12 (mL hSh 0) (mK hSh 0) rfl (by decide) (by decide) rfl rfl (congrArg Value.int hcc) (List.mem_of_getElem? (i := 2) rfl) (fun _ h_ => h_) dX12_goes_30 ?_
            refine lv_imul hx hb_ dX12_goes_33 ?_
            refine lv_iload hx hb_ dX12_goes_34 (lv_at hl 4 rfl) ?_
            refine lv_iadd hx hb_ dX12_goes_36 ?_
            refine z_topi (y := (nI (8 * cn + jD))) (by rw [eiD, show (8 : Int32) * nI cn = nI (8 * cn) from pk_mul 8 cn, nI_add]) ?_
            refine lv_aload_n hx hb_ dX12_goes_37 rfl (lv_at hl 0 rfl) ?_
            refine z_get (k := 12) (i := 46) (j := 1246) (v := .ref (r_ 46)) (ref := "FoldedInHalfModel") (C := RX12) (T := TX12) (N := 56) hcf hK_ hw hin12 (mL hSh 0) (mK hSh 0) rfl (by decide) (by decide) rfl rfl (congrArg va_rf (mP hSh 46)) (List.mem_of_getElem? (i := 3) rfl) (fun _ h_ => h_) dX12_goes_38 ?_
            refine lv_iload hx hb_ dX12_goes_41 (lv_at hl 4 rfl) ?_
            refine z_iald (n := 8) hcf hK_ hw (mL hSh 46) (mK hSh 46) (mN hSh 46) (by rw [eiD]; exact vp_in_nI (by omega) (by decide)) dX12_goes_43 ?_
            refine z_topi (y := (nI (pre.getD jD 0))) (by rw [(show iD.toNatClampNeg = jD by rw [eiD]; exact nI_clamp (by omega))]; exact (congrFun (show zA (zsA S_ (r_ 48) fo) (r_ 46) = (zA S_ (r_ 46)) from (zA_ne _ _ (mNe hSh (i := 46) (j := 48) (by decide) (by decide) (by decide)))) jD).trans (hlf jD (by omega))) ?_
            refine z_iast (n := 11136) hcf hK_ hw (mL hSh 48) (mK hSh 48) (mN hSh 48) (vp_in_nI (by omega) (by decide)) dX12_goes_44 (fun H_ locs_ hw => ?_)
            obtain ⟨f3_, ef3⟩ : ∃ zz, zz = (upd (zA (zsA S_ (r_ 48) fo) (r_ 48)) ((nI (8 * cn + jD)) : Int32).toNatClampNeg (nI (pre.getD jD 0))) := ⟨_, rfl⟩
            rw [← ef3] at hw
            have hf3 : f3_ = upd fo ((8 * cn + jD)) (nI (pre.getD jD 0)) := by rw [ef3, (nI_clamp (show (8 * cn + jD) < 2 ^ 31 by omega)), show zA (zsA S_ (r_ 48) fo) (r_ 48) = _ from (zA_zsA _ _ _)]
            rw [zsA_zsA] at hw
            have hSh : ShM (zsA S_ (r_ 48) f3_) r_ := (sh_AM hSh0)
            obtain ⟨i4, ei4⟩ : ∃ y_ : Int32, y_ = iD + 1 := ⟨_, rfl⟩
            refine lv_iinc (v := i4) (lv' := [(4, .int i4), (0, .ref (r_ 0)), (1, .int (nI pre.length)), (2, .int (nI n_)), (3, .int (nI un))]) hx hb_ dX12_goes_45 hl (k := 4) rfl (by rw [ei4]; rfl) (by decide) rfl (fun ls hl => ?_)
            refine lv_goto (tgt := 17) hx hb_ dX12_goes_48 (by decide) ?_
            exact ihD (jD + 1) i4 (by rw [ei4, eiD]; exact nI_1 jD) hlt (by omega) f3_ (fun k_ hk => by rw [hf3, upd_no _ _ (by omega)]; exact hf1 k_ hk) (fun k_ hk => by rw [hf3]; exact (Nat.lt_or_ge k_ jD).elim (fun q_ => by rw [upd_no _ _ (by omega)]; exact hf2 k_ q_) (fun q_ => by have e_ := (show k_ = jD by omega); subst e_; exact upd_at _ _ _)) _ _ hw ls (lv_sub hl [1, 2, 3, 4, 0] rfl)
      exact JD (n_ + 1) 0 0 nI_0.symm (Nat.zero_le _) (by omega) (zA S_ (r_ 48)) (fun k_ hk => rfl) (fun k_ hk => absurd hk (Nat.not_lt_zero k_)) _ _ (by rw [zsA_self]; exact hw) ls (lv_sub hl [1, 2, 3, 4, 0] rfl)
    · exact z_vret hcf hr hlk hw ((by have hG : mG n_ 0 pre = [] := (by rw [mG]; exact if_neg (fun q_ => c_10 (by rw [hv1, if_pos q_]))); rw [hG]; exact ⟨zA S_ (r_ 46), zA S_ (r_ 47), zA S_ (r_ 48), by rw [zsA_self, zsA_self, zsA_self]; exact (zsI_self hcc).symm, fun k_ hk => rfl, fun x_ hx => rfl, fun k_ hk => rfl, fun i_ hi_ => absurd hi_ (Nat.not_lt_zero i_)⟩)) dX12_goes_13
  | succ ee =>
    refine lv_iload_n hx hb_ dX12_goes_0 rfl (lv_at hl 1 rfl) ?_
    refine lv_iload_n hx hb_ dX12_goes_1 rfl (lv_at hl 2 rfl) ?_
    refine lv_icmp_ne (tgt := 62) hx hb_ dX12_goes_2 (by decide) (fun c_2 => ?_) (fun c_2 => absurd c_2 (fun q_ => absurd ((nI_eq (by omega) (by omega)).mp q_) (by omega)))
    refine lv_iconst (v := 0) hx hb_ dX12_goes_62 (by decide) ?_
    refine lv_istore (lv' := [(4, .int 0), (0, .ref (r_ 0)), (1, .int (nI pre.length)), (2, .int (nI n_)), (3, .int (nI un))]) hx hb_ dX12_goes_63 hl (by decide) rfl (fun ls hl => ?_)
    have JA : ∀ (nA jA : Nat) (iA : Int32), iA = nI jA → jA ≤ n_ → n_ < jA + nA → ∀ (lf av fo : Nat → Int32) (T : List (List Nat)), T = (List.range jA).flatMap (mGf n_ ee pre) → (∀ k_, k_ < pre.length → lf k_ = nI (pre.getD k_ 0)) → (∀ x_, x_ ∈ pre → av x_ = nI (pre.idxOf x_)) → (∀ k_, k_ < 8 * cn → fo k_ = zA S_ (r_ 48) k_) → (∀ i_, i_ < T.length → ∀ k_, k_ < n_ → fo (8 * (cn + i_) + k_) = nI ((T.getD i_ []).getD k_ 0)) → ∀ (H_ : Heap) (locs_ : List Loc), zPw cD cy A_ s_.heap (zsI (zsA (zsA (zsA S_ (r_ 46) lf) (r_ 47) av) (r_ 48) fo) 1250 (r_ 0) (nI (cn + T.length))) H_ locs_ → ∀ ls : Array Slot, lv_has ls 5 [(0, .ref (r_ 0)), (1, .int (nI pre.length)), (2, .int (nI n_)), (3, .int (nI un)), (4, .int iA)] → W p_ lau e_ ({ frames := 9, cells := 0, slots := 0, locals := 219 } : Room) s_ m_ args_ below_ meth_ c_ H_ locs_ 0 0 (MQ below_ (va_Qv (fun (S1 : zS) => ∃ lf av fo : Nat → Int32, S1 = zsI (zsA (zsA (zsA S_ (r_ 46) lf) (r_ 47) av) (r_ 48) fo) 1250 (r_ 0) (nI (cn + (mG n_ (ee + 1) pre).length)) ∧ (∀ k_, k_ < pre.length → lf k_ = zA S_ (r_ 46) k_) ∧ (∀ x_, x_ ∈ pre → av x_ = zA S_ (r_ 47) x_) ∧ (∀ k_, k_ < 8 * cn → fo k_ = zA S_ (r_ 48) k_) ∧ (∀ i_, i_ < (mG n_ (ee + 1) pre).length → ∀ k_, k_ < n_ → fo (8 * (cn + i_) + k_) = nI (((mG n_ (ee + 1) pre).getD i_ []).getD k_ 0))) (zPost cD cy A_) A_) args_ s_ 0 0 A_) (F0 m_ 65 ls []) := by
      intro nA
      induction nA with
      | zero => intro jA iA _ hjA h_; exact absurd h_ (by omega)
      | succ nA ihA =>
        intro jA iA eiA hjA hmA lf av fo T hT hk1 hk2 hk3 hk4 H_ locs_ hw ls hl
        subst eiA
        have hSh : ShM (zsI (zsA (zsA (zsA S_ (r_ 46) lf) (r_ 47) av) (r_ 48) fo) 1250 (r_ 0) (nI (cn + T.length))) r_ := (sh_IM (sh_AM (sh_AM (sh_AM hSh0))))
        refine lv_iload hx hb_ dX12_goes_65 (lv_at hl 4 rfl) ?_
        refine lv_iload_n hx hb_ dX12_goes_67 rfl (lv_at hl 2 rfl) ?_
        refine lv_icmp_ge (tgt := 120) hx hb_ dX12_goes_68 (by decide) (fun c_68 => ?_) (fun c_68 => ?_)
        · exact z_vret hcf hr hlk hw ((by have hj : jA = n_ := (by have := zn_ge rfl rfl (by omega) c_68; omega); have hTG : T = mG n_ (ee + 1) pre := (by rw [hT, hj]; rfl); exact ⟨lf, av, fo, by rw [hTG], fun k_ hk => (hk1 k_ hk).trans (hlf k_ hk).symm, fun x_ hx => (hk2 x_ hx).trans (hat x_ hx).symm, hk3, by rw [← hTG]; exact hk4⟩)) dX12_goes_120
        · have hlt : jA < n_ := zn_lt rfl rfl (by omega) c_68
          have hle : T.length + (mGf n_ ee pre jA).length ≤ (mG n_ (ee + 1) pre).length := by have := rg_le (mGf n_ ee pre) (show jA + 1 ≤ n_ by omega); rw [rg_fm, List.length_append, ← hT, ← mG_eq] at this; exact this
          refine lv_iload_n hx hb_ dX12_goes_71 rfl (lv_at hl 3 rfl) ?_
          refine lv_iload hx hb_ dX12_goes_72 (lv_at hl 4 rfl) ?_
          refine lv_ishr hx hb_ dX12_goes_74 ?_
          refine lv_iconst (v := 1) hx hb_ dX12_goes_75 (by decide) ?_
          refine lv_iand hx hb_ dX12_goes_76 ?_
          refine lv_iconst (v := 1) hx hb_ dX12_goes_77 (by decide) ?_
          refine lv_icmp_ne (tgt := 84) hx hb_ dX12_goes_78 (by decide) (fun c_78 => ?_) (fun c_78 => ?_)
          · have hnb : nbit un jA = false := by rw [← ub_s jA (by omega) un hu]; exact decide_eq_false c_78
            have hnm : jA ∉ pre := of_decide_eq_false (by rw [← hub jA (by omega)]; exact hnb)
            have hG : mGf n_ ee pre jA = mG n_ ee (pre ++ [jA]) := if_neg hnm
            have hut := ub_t jA (by omega) un hu hnb
            refine lv_aload_n hx hb_ dX12_goes_84 rfl (lv_at hl 0 rfl) ?_
            refine z_get (k := 12) (i := 46) (j := 1246) (v := .ref (r_ 46)) (ref := "FoldedInHalfModel") (C := RX12) (T := TX12) (N := 56) hcf hK_ hw hin12 (mL hSh 0) (mK hSh 0) rfl (by decide) (by decide) rfl rfl (congrArg va_rf (mP hSh 46)) (List.mem_of_getElem? (i := 3) rfl) (fun _ h_ => h_) dX12_goes_85 ?_
            refine lv_iload_n hx hb_ dX12_goes_88 rfl (lv_at hl 1 rfl) ?_
            refine lv_iload hx hb_ dX12_goes_89 (lv_at hl 4 rfl) ?_
            refine z_iast (n := 8) hcf hK_ hw (mL hSh 46) (mK hSh 46) (mN hSh 46) (vp_in_nI (by omega) (by decide)) dX12_goes_91 (fun H_ locs_ hw => ?_)
            obtain ⟨f4, ef4⟩ : ∃ zz, zz = (upd (zA (zsI (zsA (zsA (zsA S_ (r_ 46) lf) (r_ 47) av) (r_ 48) fo) 1250 (r_ 0) (nI (cn + T.length))) (r_ 46)) ((nI pre.length) : Int32).toNatClampNeg (nI jA)) := ⟨_, rfl⟩
            rw [← ef4] at hw
            have hf4 : f4 = upd lf pre.length (nI jA) := by rw [ef4, (nI_clamp (show pre.length < 2 ^ 31 by omega)), show zA (zsI (zsA (zsA (zsA S_ (r_ 46) lf) (r_ 47) av) (r_ 48) fo) 1250 (r_ 0) (nI (cn + T.length))) (r_ 46) = _ from (zA_I.trans ((zA_ne _ _ (mNe hSh (i := 46) (j := 48) (by decide) (by decide) (by decide))).trans ((zA_ne _ _ (mNe hSh (i := 46) (j := 47) (by decide) (by decide) (by decide))).trans (zA_zsA _ _ _))))]
            rw [zsA_zsI, zsA_comm _ _ _ (mNe hSh (i := 48) (j := 46) (by decide) (by decide) (by decide)), zsA_comm _ _ _ (mNe hSh (i := 47) (j := 46) (by decide) (by decide) (by decide)), zsA_zsA] at hw
            have hSh : ShM (zsI (zsA (zsA (zsA S_ (r_ 46) f4) (r_ 47) av) (r_ 48) fo) 1250 (r_ 0) (nI (cn + T.length))) r_ := (sh_IM (sh_AM (sh_AM (sh_AM hSh0))))
            refine lv_aload_n hx hb_ dX12_goes_92 rfl (lv_at hl 0 rfl) ?_
            refine z_get (k := 12) (i := 47) (j := 1247) (v := .ref (r_ 47)) (ref := "FoldedInHalfModel") (C := RX12) (T := TX12) (N := 56) hcf hK_ hw hin12 (mL hSh 0) (mK hSh 0) rfl (by decide) (by decide) rfl rfl (congrArg va_rf (mP hSh 47)) (List.mem_of_getElem? (i := 4) rfl) (fun _ h_ => h_) dX12_goes_93 ?_
            refine lv_iload hx hb_ dX12_goes_96 (lv_at hl 4 rfl) ?_
            refine lv_iload_n hx hb_ dX12_goes_98 rfl (lv_at hl 1 rfl) ?_
            refine z_iast (n := 8) hcf hK_ hw (mL hSh 47) (mK hSh 47) (mN hSh 47) (vp_in_nI (by omega) (by decide)) dX12_goes_99 (fun H_ locs_ hw => ?_)
            obtain ⟨f5, ef5⟩ : ∃ zz, zz = (upd (zA (zsI (zsA (zsA (zsA S_ (r_ 46) f4) (r_ 47) av) (r_ 48) fo) 1250 (r_ 0) (nI (cn + T.length))) (r_ 47)) ((nI jA) : Int32).toNatClampNeg (nI pre.length)) := ⟨_, rfl⟩
            rw [← ef5] at hw
            have hf5 : f5 = upd av jA (nI pre.length) := by rw [ef5, (nI_clamp (show jA < 2 ^ 31 by omega)), show zA (zsI (zsA (zsA (zsA S_ (r_ 46) f4) (r_ 47) av) (r_ 48) fo) 1250 (r_ 0) (nI (cn + T.length))) (r_ 47) = _ from (zA_I.trans ((zA_ne _ _ (mNe hSh (i := 47) (j := 48) (by decide) (by decide) (by decide))).trans (zA_zsA _ _ _)))]
            rw [zsA_zsI, zsA_comm _ _ _ (mNe hSh (i := 48) (j := 47) (by decide) (by decide) (by decide)), zsA_zsA] at hw
            have hSh : ShM (zsI (zsA (zsA (zsA S_ (r_ 46) f4) (r_ 47) f5) (r_ 48) fo) 1250 (r_ 0) (nI (cn + T.length))) r_ := (sh_IM (sh_AM (sh_AM (sh_AM hSh0))))
            refine lv_aload_n hx hb_ dX12_goes_100 rfl (lv_at hl 0 rfl) ?_
            refine lv_iload_n hx hb_ dX12_goes_101 rfl (lv_at hl 1 rfl) ?_
            refine lv_iconst (v := 1) hx hb_ dX12_goes_102 (by decide) ?_
            refine lv_iadd hx hb_ dX12_goes_103 ?_
            refine z_topi (y := (nI (pre ++ [jA]).length)) (by rw [nI_1, List.length_append]; rfl) ?_
            refine lv_iload_n hx hb_ dX12_goes_104 rfl (lv_at hl 2 rfl) ?_
            refine lv_iload_n hx hb_ dX12_goes_105 rfl (lv_at hl 3 rfl) ?_
            refine lv_iconst (v := 1) hx hb_ dX12_goes_106 (by decide) ?_
            refine lv_iload hx hb_ dX12_goes_107 (lv_at hl 4 rfl) ?_
            refine lv_ishl hx hb_ dX12_goes_109 ?_
            refine lv_ior hx hb_ dX12_goes_110 ?_
            refine z_topi (y := (nI (un + 2 ^ jA))) (hut.1) ?_
            refine z_kv hw hA (va_runV (As := [.int (nI (pre ++ [jA]).length), .int (nI n_), .int (nI (un + 2 ^ jA))]) (rest := []) hcf (c_X12_goes_7 lau cD cy _ r_ (zsI (zsA (zsA (zsA S_ (r_ 46) f4) (r_ 47) f5) (r_ 48) fo) 1250 (r_ 0) (nI (cn + T.length))) hSh n_ (cn + T.length) ee (un + 2 ^ jA) (pre ++ [jA]) (by rw [List.length_append, List.length_singleton]; omega) hn (by rw [List.length_append, List.length_singleton]; omega) hut.2.1 (fun k_ hk => by rw [hut.2.2 k_ hk, hub k_ hk]; by_cases q_ : k_ ∈ pre <;> by_cases q2 : k_ = jA <;> simp [q_, q2]) (nd_app hnd hnm) (fun x_ hx => (List.mem_append.mp hx).elim (fun q_ => hb8 x_ q_) (fun q_ => by rw [List.mem_singleton] at q_; omega)) zI_at (by rw [hG] at hle; omega) (fun k_ hk => by rw [congrFun (show zA (zsI (zsA (zsA (zsA S_ (r_ 46) f4) (r_ 47) f5) (r_ 48) fo) 1250 (r_ 0) (nI (cn + T.length))) (r_ 46) = f4 from (zA_I.trans ((zA_ne _ _ (mNe hSh (i := 46) (j := 48) (by decide) (by decide) (by decide))).trans ((zA_ne _ _ (mNe hSh (i := 46) (j := 47) (by decide) (by decide) (by decide))).trans (zA_zsA _ _ _))))) k_, hf4]; rw [List.length_append, List.length_singleton] at hk; exact (Decidable.em (k_ = pre.length)).elim (fun q_ => by rw [q_, upd_at, gd_new]) (fun q_ => by rw [upd_no _ _ q_, hk1 k_ (by omega), gd_app (by omega)])) (fun x_ hx => by rw [congrFun (show zA (zsI (zsA (zsA (zsA S_ (r_ 46) f4) (r_ 47) f5) (r_ 48) fo) 1250 (r_ 0) (nI (cn + T.length))) (r_ 47) = f5 from (zA_I.trans ((zA_ne _ _ (mNe hSh (i := 47) (j := 48) (by decide) (by decide) (by decide))).trans (zA_zsA _ _ _)))) x_, hf5]; exact (Decidable.em (x_ = jA)).elim (fun q_ => by rw [q_, upd_at, ix_new hnm]) (fun q_ => by have hx2 : x_ ∈ pre := ((List.mem_append.mp hx).elim id (fun z_ => absurd (List.mem_singleton.mp z_) q_)); rw [upd_no _ _ q_, hk2 x_ hx2, ix_app hx2]))) (cwV 3 hts gX12_goes_X12_goes rfl rfl rfl (by decide +kernel) ⟨Nat.le_of_ble_eq_true rfl, Nat.le_of_ble_eq_true rfl⟩) (z_preV (k := 12) hK_ hE hw (mL hSh 0) (mK hSh 0) (by decide) rfl) rfl rfl hl.1 rfl (lv_room (Nat.le_of_ble_eq_true rfl)) dX12_goes_111 ⟨Nat.le_of_ble_eq_true rfl, Nat.le_of_ble_eq_true rfl⟩) (fun S7 H_ locs_ hp hw => ?_)
            obtain ⟨lf2, av2, fo2, rfl, g1, g2, g3, g4⟩ := hp
            rw [zsA_zsI, zsA_comm _ _ _ (mNe hSh (i := 48) (j := 46) (by decide) (by decide) (by decide)), zsA_comm _ _ _ (mNe hSh (i := 47) (j := 46) (by decide) (by decide) (by decide)), zsA_zsA] at hw
            rw [zsA_zsI, zsA_comm _ _ _ (mNe hSh (i := 48) (j := 47) (by decide) (by decide) (by decide)), zsA_zsA] at hw
            rw [zsA_zsI, zsA_zsA] at hw
            rw [zsI_zsI] at hw
            have hSh : ShM (zsI (zsA (zsA (zsA S_ (r_ 46) lf2) (r_ 47) av2) (r_ 48) fo2) 1250 (r_ 0) (nI (cn + T.length + (mG n_ ee (pre ++ [jA])).length))) r_ := (sh_IM (sh_AM (sh_AM (sh_AM hSh0))))
            obtain ⟨i2_, ei2⟩ : ∃ y_ : Int32, y_ = (nI jA) + 1 := ⟨_, rfl⟩
            refine lv_iinc (v := i2_) (lv' := [(4, .int i2_), (0, .ref (r_ 0)), (1, .int (nI pre.length)), (2, .int (nI n_)), (3, .int (nI un))]) hx hb_ dX12_goes_114 hl (k := 4) rfl (by rw [ei2]; rfl) (by decide) rfl (fun ls hl => ?_)
            refine lv_goto (tgt := 65) hx hb_ dX12_goes_117 (by decide) ?_
            have ecc : cn + T.length + (mG n_ ee (pre ++ [jA])).length = cn + (T ++ mG n_ ee (pre ++ [jA])).length := by rw [List.length_append]; omega
            rw [ecc] at hw
            refine ihA (jA + 1) i2_ (by rw [ei2]; exact nI_1 jA) (by omega) (by omega) lf2 av2 fo2 (T ++ mG n_ ee (pre ++ [jA])) (by rw [rg_fm, hG, hT]) (fun k_ hk => ?_) (fun x_ hx => ?_) (fun k_ hk => ?_) (fun i_ hi_ k_ hk => ?_) _ _ hw ls (lv_sub hl [1, 2, 3, 4, 0] rfl)
            · rw [g1 k_ (by rw [List.length_append]; omega), congrFun (show zA (zsI (zsA (zsA (zsA S_ (r_ 46) f4) (r_ 47) f5) (r_ 48) fo) 1250 (r_ 0) (nI (cn + T.length))) (r_ 46) = f4 from (zA_I.trans ((zA_ne _ _ (mNe hSh (i := 46) (j := 48) (by decide) (by decide) (by decide))).trans ((zA_ne _ _ (mNe hSh (i := 46) (j := 47) (by decide) (by decide) (by decide))).trans (zA_zsA _ _ _))))) k_, hf4, upd_no _ _ (by omega)]; exact hk1 k_ hk
            · rw [g2 x_ (List.mem_append_left _ hx), congrFun (show zA (zsI (zsA (zsA (zsA S_ (r_ 46) f4) (r_ 47) f5) (r_ 48) fo) 1250 (r_ 0) (nI (cn + T.length))) (r_ 47) = f5 from (zA_I.trans ((zA_ne _ _ (mNe hSh (i := 47) (j := 48) (by decide) (by decide) (by decide))).trans (zA_zsA _ _ _)))) x_, hf5, upd_no _ _ (fun q_ => hnm (by rw [← q_]; exact hx))]; exact hk2 x_ hx
            · rw [g3 k_ (by omega), congrFun (show zA (zsI (zsA (zsA (zsA S_ (r_ 46) f4) (r_ 47) f5) (r_ 48) fo) 1250 (r_ 0) (nI (cn + T.length))) (r_ 48) = fo from (zA_I.trans (zA_zsA _ _ _))) k_]; exact hk3 k_ hk
            · rcases Nat.lt_or_ge i_ T.length with q_ | q_
              · rw [g3 _ (by omega), congrFun (show zA (zsI (zsA (zsA (zsA S_ (r_ 46) f4) (r_ 47) f5) (r_ 48) fo) 1250 (r_ 0) (nI (cn + T.length))) (r_ 48) = fo from (zA_I.trans (zA_zsA _ _ _))) _, hk4 i_ q_ k_ hk, List.getD_eq_getElem?_getD (l := T), List.getD_eq_getElem?_getD (l := T ++ _), List.getElem?_append_left q_]
              · rw [List.length_append] at hi_
                have := g4 (i_ - T.length) (by omega) k_ hk
                rw [show cn + T.length + (i_ - T.length) = cn + i_ by omega] at this
                rw [this, List.getD_eq_getElem?_getD (l := mG n_ ee (pre ++ [jA])), List.getD_eq_getElem?_getD (l := T ++ _), List.getElem?_append_right q_]
          · refine lv_goto (tgt := 114) hx hb_ dX12_goes_81 (by decide) ?_
            obtain ⟨i2_, ei2⟩ : ∃ y_ : Int32, y_ = (nI jA) + 1 := ⟨_, rfl⟩
            refine lv_iinc (v := i2_) (lv' := [(4, .int i2_), (0, .ref (r_ 0)), (1, .int (nI pre.length)), (2, .int (nI n_)), (3, .int (nI un))]) hx hb_ dX12_goes_114 hl (k := 4) rfl (by rw [ei2]; rfl) (by decide) rfl (fun ls hl => ?_)
            refine lv_goto (tgt := 65) hx hb_ dX12_goes_117 (by decide) ?_
            have hin : jA ∈ pre := of_decide_eq_true (by rw [← hub jA (by omega), ← ub_s jA (by omega) un hu]; exact decide_eq_true c_78)
            have hG : mGf n_ ee pre jA = [] := if_pos hin
            exact ihA (jA + 1) i2_ (by rw [ei2]; exact nI_1 jA) (by omega) (by omega) lf av fo T (by rw [rg_fm, hG, List.append_nil]; exact hT) hk1 hk2 hk3 hk4 _ _ hw ls (lv_sub hl [1, 2, 3, 4, 0] rfl)
    exact JA (n_ + 1) 0 0 nI_0.symm (Nat.zero_le _) (by omega) (zA S_ (r_ 46)) (zA S_ (r_ 47)) (zA S_ (r_ 48)) [] rfl hlf hat (fun k_ hk => rfl) (fun i_ hi_ => absurd hi_ (Nat.not_lt_zero i_)) _ _ (by rw [zsA_self, zsA_self, zsA_self, show cn + ([] : List (List Nat)).length = cn from rfl, zsI_self hcc]; exact hw) ls (lv_sub hl [1, 2, 3, 4, 0] rfl)

set_option maxHeartbeats 1000000 in
set_option maxRecDepth 100000 in
theorem c_X12_finds (lau : Launch) (cD : va_G) (cy : Nat → ClassId) (sz_ : Nat) (r_ : Nat → Nat) (S_ : zS) (hSh : ShM S_ r_) (hF : FrM S_ r_) (n0_ : Nat) (hn1 : 1 ≤ n0_) (hn8 : n0_ ≤ 8) : Met lau yX12_finds wsX12_finds ({ frames := 10, cells := 0, slots := 0, locals := 243 } : Room) (va_Pc [.ref (r_ 0), .int (nI n0_)] (zPre cD cy S_ sz_)) (va_Qv (fun (S1 : zS) => ∃ lf av fo : Nat → Int32, S1 = zsA (zsA (zsA (zsI (zsI S_ 1249 (r_ 0) (nI n0_)) 1250 (r_ 0) (nI (0 + (cG n0_ n0_ []).length))) (r_ 46) lf) (r_ 47) av) (r_ 48) fo ∧ (∀ i_, i_ < (cG n0_ n0_ []).length → ∀ k_, k_ < n0_ → fo (8 * i_ + k_) = nI (((cG n0_ n0_ []).getD i_ []).getD k_ 0))) (zPost cD cy (zAd cy S_ sz_)) (zAd cy S_ sz_)) 0 0 (zAd cy S_ sz_) := by
  refine z_ofW (cc := cX12_finds) (maxL := 2) (ret := none) (own := RX12) (QQ := fun A_ => va_Qv (fun (S1 : zS) => ∃ lf av fo : Nat → Int32, S1 = zsA (zsA (zsA (zsI (zsI S_ 1249 (r_ 0) (nI n0_)) 1250 (r_ 0) (nI (0 + (cG n0_ n0_ []).length))) (r_ 46) lf) (r_ 47) av) (r_ 48) fo ∧ (∀ i_, i_ < (cG n0_ n0_ []).length → ∀ k_, k_ < n0_ → fo (8 * i_ + k_) = nI (((cG n0_ n0_ []).getD i_ []).getD k_ 0))) (zPost cD cy A_) A_) (by decide) rfl rfl (Nat.le_of_ble_eq_true rfl) ?_
  intro p_ e_ s_ m_ args_ below_ meth_ c_ A_ ls hcf hr hlk hnm hK_ hE hw hA hl
  obtain ⟨hx, hb_, hml, hown, hts⟩ := id hcf
  have hin12 : ∀ w_ ∈ wsX120, w_ ∈ wsX12_finds := fun w_ h_ => (List.mem_cons_of_mem _ (List.mem_append_right _ h_))
  have hl : lv_has ls 2 [(0, .ref (r_ 0)), (1, .int (nI n0_))] := hl
  have hSh0 := hSh
  refine lv_aload_n hx hb_ dX12_finds_0 rfl (lv_at hl 0 rfl) ?_
  refine z_get (k := 12) (i := 49) (j := 1249) (v := .int 0) (ref := "FoldedInHalfModel") (C := RX12) (T := TX12) (N := 56) hcf hK_ hw hin12 (mL hSh 0) (mK hSh 0) rfl (by decide) (by decide) rfl rfl (congrArg Value.int hF.2.2.1) (List.mem_of_getElem? (i := 1) rfl) (fun _ h_ => h_) dX12_finds_1 ?_
  refine lv_iload_n hx hb_ dX12_finds_4 rfl (lv_at hl 1 rfl) ?_
  refine lv_icmp_ne (tgt := 9) hx hb_ dX12_finds_5 (by decide) (fun c_5 => ?_) (fun c_5 => absurd c_5 (fun q_ => nI_ne0 (by omega) (by omega) q_.symm))
  refine lv_aload_n hx hb_ dX12_finds_9 rfl (lv_at hl 0 rfl) ?_
  refine lv_iload_n hx hb_ dX12_finds_10 rfl (lv_at hl 1 rfl) ?_
  refine z_putI (k := 12) (i := 49) (j := 1249) (x := (nI n0_)) (v := .int (nI n0_)) (ty := .int) (ref := "FoldedInHalfModel") (C := RX12) (T := TX12) (N := 56) tyX12 hcf hK_ hw hin12 tyX12_ok nmX12 (mL hSh 0) (mK hSh 0) rfl (by decide) (by decide) rfl rfl (List.mem_of_getElem? (i := 1) rfl) (fun _ h_ => h_) rfl rfl (by decide +kernel) rfl rfl dX12_finds_11 (fun H_ locs_ hw => ?_)
  have hSh : ShM (zsI S_ 1249 (r_ 0) (nI n0_)) r_ := (sh_IM hSh0)
  refine lv_aload_n hx hb_ dX12_finds_14 rfl (lv_at hl 0 rfl) ?_
  refine lv_iconst (v := 0) hx hb_ dX12_finds_15 (by decide) ?_
  refine z_putI (k := 12) (i := 50) (j := 1250) (x := 0) (v := .int 0) (ty := .int) (ref := "FoldedInHalfModel") (C := RX12) (T := TX12) (N := 56) tyX12 hcf hK_ hw hin12 tyX12_ok nmX12 (mL hSh 0) (mK hSh 0) rfl (by decide) (by decide) rfl rfl (List.mem_of_getElem? (i := 2) rfl) (fun _ h_ => h_) rfl rfl (by decide +kernel) rfl rfl dX12_finds_16 (fun H_ locs_ hw => ?_)
  have hSh : ShM (zsI (zsI S_ 1249 (r_ 0) (nI n0_)) 1250 (r_ 0) 0) r_ := (sh_IM (sh_IM hSh0))
  refine lv_aload_n hx hb_ dX12_finds_19 rfl (lv_at hl 0 rfl) ?_
  refine lv_iconst (v := 0) hx hb_ dX12_finds_20 (by decide) ?_
  refine lv_iload_n hx hb_ dX12_finds_21 rfl (lv_at hl 1 rfl) ?_
  refine lv_iconst (v := 0) hx hb_ dX12_finds_22 (by decide) ?_
  refine W.eq (g2 := F0 m_ 23 ls [.int (nI 0), .int (nI n0_), .int (nI ([] : List Nat).length), .ref (r_ 0)]) rfl ?_
  refine z_kv hw hA (va_runV (As := [.int (nI ([] : List Nat).length), .int (nI n0_), .int (nI 0)]) (rest := []) hcf (c_X12_goes_8 lau cD cy _ r_ (zsI (zsI S_ 1249 (r_ 0) (nI n0_)) 1250 (r_ 0) 0) hSh n0_ 0 n0_ 0 [] rfl hn8 (Nat.zero_add _) (by decide) (fun k_ hk => by simp [nbit]) List.nodup_nil (fun x_ hx => absurd hx List.not_mem_nil) (zI_at.trans nI_0.symm) (by rw [mG_cG]; have := (cG_len hn1 hn8).2; omega) (fun k_ hk => absurd hk (Nat.not_lt_zero k_)) (fun x_ hx => absurd hx List.not_mem_nil)) (cwV 3 hts gX12_finds_X12_goes rfl rfl rfl (by decide +kernel) ⟨Nat.le_of_ble_eq_true rfl, Nat.le_of_ble_eq_true rfl⟩) (z_preV (k := 12) hK_ hE hw (mL hSh 0) (mK hSh 0) (by decide) rfl) rfl rfl hl.1 rfl (lv_room (Nat.le_of_ble_eq_true rfl)) dX12_finds_23 ⟨Nat.le_of_ble_eq_true rfl, Nat.le_of_ble_eq_true rfl⟩) (fun S2 H_ locs_ hp hw => ?_)
  obtain ⟨lf, av, fo, rfl, -, -, -, g4⟩ := hp
  rw [mG_cG] at hw g4
  rw [zsI_zsA, zsI_zsA, zsI_zsA, zsI_zsI] at hw
  have hSh : ShM (zsA (zsA (zsA (zsI (zsI S_ 1249 (r_ 0) (nI n0_)) 1250 (r_ 0) (nI (0 + (cG n0_ n0_ []).length))) (r_ 46) lf) (r_ 47) av) (r_ 48) fo) r_ := (sh_AM (sh_AM (sh_AM (sh_IM (sh_IM hSh0)))))
  exact z_vret hcf hr hlk hw (⟨lf, av, fo, rfl, fun i_ hi_ k_ hk => by have := g4 i_ hi_ k_ hk; rwa [Nat.zero_add] at this⟩) dX12_finds_26

set_option maxHeartbeats 1000000 in
set_option maxRecDepth 100000 in
theorem c_X12_orders (lau : Launch) (cD : va_G) (cy : Nat → ClassId) (sz_ : Nat) (r_ : Nat → Nat) (S_ : zS) (hSh : ShM S_ r_) (hF : FrM S_ r_) (n_ : Int32) : Met lau yX12_orders wsX12_orders ({ frames := 11, cells := 0, slots := 0, locals := 264 } : Room) (va_Pc [.ref (r_ 0), .int n_] (zPre cD cy S_ sz_)) (va_Qi (fun (v_ : Int32) (S1 : zS) => v_ = q_orders n_) (zPost cD cy (zAd cy S_ sz_)) (zAd cy S_ sz_)) 0 0 (zAd cy S_ sz_) := by
  refine z_ofW (cc := cX12_orders) (maxL := 2) (ret := (some .int)) (own := RX12) (QQ := fun A_ => va_Qi (fun (v_ : Int32) (S1 : zS) => v_ = q_orders n_) (zPost cD cy A_) A_) (by decide) rfl rfl (Nat.le_of_ble_eq_true rfl) ?_
  intro p_ e_ s_ m_ args_ below_ meth_ c_ A_ ls hcf hr hlk hnm hK_ hE hw hA hl
  obtain ⟨hx, hb_, hml, hown, hts⟩ := id hcf
  have hin12 : ∀ w_ ∈ wsX120, w_ ∈ wsX12_orders := fun w_ h_ => (List.mem_cons_of_mem _ (List.mem_append_right _ h_))
  have hl : lv_has ls 2 [(0, .ref (r_ 0)), (1, .int n_)] := hl
  have hSh0 := hSh
  refine lv_iload_n hx hb_ dX12_orders_0 rfl (lv_at hl 1 rfl) ?_
  refine lv_iconst (v := 1) hx hb_ dX12_orders_1 (by decide) ?_
  refine lv_icmp_lt (tgt := 11) hx hb_ dX12_orders_2 (by decide) (fun c_2 => ?_) (fun c_2 => ?_)
  · refine lv_aload_n hx hb_ dX12_orders_11 rfl (lv_at hl 0 rfl) ?_
    refine lv_bipush (v := (-6)) hx hb_ dX12_orders_12 (by decide) ?_
    refine z_ki hw hA (va_runV (As := [.int (-6)]) (rest := []) hcf (c_X12_no lau cD cy _ r_ S_ hSh (-6) (by decide) (by decide)) (cwV 1 hts gX12_orders_X12_no rfl rfl rfl (by decide +kernel) ⟨Nat.le_of_ble_eq_true rfl, Nat.le_of_ble_eq_true rfl⟩) (z_preV (k := 12) hK_ hE hw (mL hSh 0) (mK hSh 0) (by decide) rfl) rfl rfl hl.1 rfl (lv_room (Nat.le_of_ble_eq_true rfl)) dX12_orders_14 ⟨Nat.le_of_ble_eq_true rfl, Nat.le_of_ble_eq_true rfl⟩) (fun v1 S2 H_ locs_ hp hw => ?_)
    obtain ⟨rfl, f3_, rfl⟩ := hp
    have hSh : ShM (zsA S_ (r_ 2) f3_) r_ := (sh_AM hSh0)
    exact z_iret (ty := .int) (v := (-6)) hcf hr rfl hlk hw (by simp [q_orders, c_2]) dX12_orders_17
  · refine lv_iload_n hx hb_ dX12_orders_5 rfl (lv_at hl 1 rfl) ?_
    refine lv_bipush (v := 8) hx hb_ dX12_orders_6 (by decide) ?_
    refine lv_icmp_le (tgt := 18) hx hb_ dX12_orders_8 (by decide) (fun c_8 => ?_) (fun c_8 => ?_)
    · obtain ⟨n0_, hn1, hn8, en⟩ := zx_of (a := 1) (b := 8) c_2 c_8 (by decide) (by decide)
      refine lv_aload_n hx hb_ dX12_orders_18 rfl (lv_at hl 0 rfl) ?_
      refine lv_iload_n hx hb_ dX12_orders_19 rfl (lv_at hl 1 rfl) ?_
      refine z_topi (y := nI n0_) en ?_
      refine z_kv hw hA (va_runV (As := [.int (nI n0_)]) (rest := []) hcf (c_X12_finds lau cD cy _ r_ S_ hSh hF n0_ hn1 hn8) (cwV 1 hts gX12_orders_X12_finds rfl rfl rfl (by decide +kernel) ⟨Nat.le_of_ble_eq_true rfl, Nat.le_of_ble_eq_true rfl⟩) (z_preV (k := 12) hK_ hE hw (mL hSh 0) (mK hSh 0) (by decide) rfl) rfl rfl hl.1 rfl (lv_room (Nat.le_of_ble_eq_true rfl)) dX12_orders_20 ⟨Nat.le_of_ble_eq_true rfl, Nat.le_of_ble_eq_true rfl⟩) (fun S5 H_ locs_ hp hw => ?_)
      obtain ⟨lf, av, fo, rfl, hfo⟩ := hp
      have hSh : ShM (zsA (zsA (zsA (zsI (zsI S_ 1249 (r_ 0) (nI n0_)) 1250 (r_ 0) (nI (0 + (cG n0_ n0_ []).length))) (r_ 46) lf) (r_ 47) av) (r_ 48) fo) r_ := (sh_AM (sh_AM (sh_AM (sh_IM (sh_IM hSh0)))))
      refine lv_aload_n hx hb_ dX12_orders_23 rfl (lv_at hl 0 rfl) ?_
      refine z_get (k := 12) (i := 50) (j := 1250) (v := .int (nI (cG n0_ n0_ []).length)) (ref := "FoldedInHalfModel") (C := RX12) (T := TX12) (N := 56) hcf hK_ hw hin12 (mL hSh 0) (mK hSh 0) rfl (by decide) (by decide) rfl rfl (congrArg Value.int ((zI_A.trans (zI_A.trans (zI_A.trans zI_at))).trans (by rw [Nat.zero_add]))) (List.mem_of_getElem? (i := 1) rfl) (fun _ h_ => h_) dX12_orders_24 ?_
      exact z_iret (ty := .int) (v := (nI (cG n0_ n0_ []).length)) hcf hr rfl hlk hw ((q_orders_in c_2 c_8 en hn8).symm) dX12_orders_27
    · refine lv_aload_n hx hb_ dX12_orders_11 rfl (lv_at hl 0 rfl) ?_
      refine lv_bipush (v := (-6)) hx hb_ dX12_orders_12 (by decide) ?_
      refine z_ki hw hA (va_runV (As := [.int (-6)]) (rest := []) hcf (c_X12_no lau cD cy _ r_ S_ hSh (-6) (by decide) (by decide)) (cwV 1 hts gX12_orders_X12_no rfl rfl rfl (by decide +kernel) ⟨Nat.le_of_ble_eq_true rfl, Nat.le_of_ble_eq_true rfl⟩) (z_preV (k := 12) hK_ hE hw (mL hSh 0) (mK hSh 0) (by decide) rfl) rfl rfl hl.1 rfl (lv_room (Nat.le_of_ble_eq_true rfl)) dX12_orders_14 ⟨Nat.le_of_ble_eq_true rfl, Nat.le_of_ble_eq_true rfl⟩) (fun v6 S7 H_ locs_ hp hw => ?_)
      obtain ⟨rfl, f8, rfl⟩ := hp
      have hSh : ShM (zsA S_ (r_ 2) f8) r_ := (sh_AM hSh0)
      exact z_iret (ty := .int) (v := (-6)) hcf hr rfl hlk hw (by simp [q_orders, c_2, c_8]) dX12_orders_17

set_option maxHeartbeats 1000000 in
set_option maxRecDepth 100000 in
theorem c_X12_order (lau : Launch) (cD : va_G) (cy : Nat → ClassId) (sz_ : Nat) (r_ : Nat → Nat) (S_ : zS) (hSh : ShM S_ r_) (hF : FrM S_ r_) (n_ io pq : Int32) : Met lau yX12_order wsX12_order ({ frames := 11, cells := 0, slots := 0, locals := 264 } : Room) (va_Pc [.ref (r_ 0), .int n_, .int io, .int pq] (zPre cD cy S_ sz_)) (va_Qi (fun (v_ : Int32) (S1 : zS) => v_ = q_order n_ io pq) (zPost cD cy (zAd cy S_ sz_)) (zAd cy S_ sz_)) 0 0 (zAd cy S_ sz_) := by
  refine z_ofW (cc := cX12_order) (maxL := 4) (ret := (some .int)) (own := RX12) (QQ := fun A_ => va_Qi (fun (v_ : Int32) (S1 : zS) => v_ = q_order n_ io pq) (zPost cD cy A_) A_) (by decide) rfl rfl (Nat.le_of_ble_eq_true rfl) ?_
  intro p_ e_ s_ m_ args_ below_ meth_ c_ A_ ls hcf hr hlk hnm hK_ hE hw hA hl
  obtain ⟨hx, hb_, hml, hown, hts⟩ := id hcf
  have hin12 : ∀ w_ ∈ wsX120, w_ ∈ wsX12_order := fun w_ h_ => (List.mem_cons_of_mem _ (List.mem_append_right _ h_))
  have hl : lv_has ls 4 [(0, .ref (r_ 0)), (1, .int n_), (2, .int io), (3, .int pq)] := hl
  have hSh0 := hSh
  refine lv_iload_n hx hb_ dX12_order_0 rfl (lv_at hl 1 rfl) ?_
  refine lv_iconst (v := 1) hx hb_ dX12_order_1 (by decide) ?_
  refine lv_icmp_lt (tgt := 11) hx hb_ dX12_order_2 (by decide) (fun c_2 => ?_) (fun c_2 => ?_)
  · refine lv_aload_n hx hb_ dX12_order_11 rfl (lv_at hl 0 rfl) ?_
    refine lv_iload_n hx hb_ dX12_order_12 rfl (lv_at hl 3 rfl) ?_
    refine lv_if_lt (tgt := 20) hx hb_ dX12_order_13 (by decide) (fun c_13 => ?_) (fun c_13 => ?_)
    · refine lv_bipush (v := (-5)) hx hb_ dX12_order_20 (by decide) ?_
      refine lv_goto (tgt := 27) hx hb_ dX12_order_22 (by decide) ?_
      refine z_ki hw hA (va_runV (As := [.int (-5)]) (rest := []) hcf (c_X12_no lau cD cy _ r_ S_ hSh (-5) (by decide) (by decide)) (cwV 1 hts gX12_order_X12_no rfl rfl rfl (by decide +kernel) ⟨Nat.le_of_ble_eq_true rfl, Nat.le_of_ble_eq_true rfl⟩) (z_preV (k := 12) hK_ hE hw (mL hSh 0) (mK hSh 0) (by decide) rfl) rfl rfl hl.1 rfl (lv_room (Nat.le_of_ble_eq_true rfl)) dX12_order_27 ⟨Nat.le_of_ble_eq_true rfl, Nat.le_of_ble_eq_true rfl⟩) (fun v1 S2 H_ locs_ hp hw => ?_)
      obtain ⟨rfl, f3_, rfl⟩ := hp
      have hSh : ShM (zsA S_ (r_ 2) f3_) r_ := (sh_AM hSh0)
      exact z_iret (ty := .int) (v := (-5)) hcf hr rfl hlk hw (by unfold q_order; rw [if_pos (Or.inr c_13)]) dX12_order_30
    · refine lv_iload_n hx hb_ dX12_order_16 rfl (lv_at hl 2 rfl) ?_
      refine lv_if_ge (tgt := 25) hx hb_ dX12_order_17 (by decide) (fun c_17 => ?_) (fun c_17 => ?_)
      · refine lv_bipush (v := (-6)) hx hb_ dX12_order_25 (by decide) ?_
        refine z_ki hw hA (va_runV (As := [.int (-6)]) (rest := []) hcf (c_X12_no lau cD cy _ r_ S_ hSh (-6) (by decide) (by decide)) (cwV 1 hts gX12_order_X12_no rfl rfl rfl (by decide +kernel) ⟨Nat.le_of_ble_eq_true rfl, Nat.le_of_ble_eq_true rfl⟩) (z_preV (k := 12) hK_ hE hw (mL hSh 0) (mK hSh 0) (by decide) rfl) rfl rfl hl.1 rfl (lv_room (Nat.le_of_ble_eq_true rfl)) dX12_order_27 ⟨Nat.le_of_ble_eq_true rfl, Nat.le_of_ble_eq_true rfl⟩) (fun v4 S5 H_ locs_ hp hw => ?_)
        obtain ⟨rfl, f6, rfl⟩ := hp
        have hSh : ShM (zsA S_ (r_ 2) f6) r_ := (sh_AM hSh0)
        exact z_iret (ty := .int) (v := (-6)) hcf hr rfl hlk hw (by unfold q_order; rw [if_neg (fun z_ => z_.elim (fun q_ => by rw [zx_lt] at q_; rw [zx_le] at c_17; have z0 : (0 : Int32).toInt = 0 := rfl; omega) (fun q_ => c_13 q_)), if_pos (by simp [c_2])]) dX12_order_30
      · refine lv_bipush (v := (-5)) hx hb_ dX12_order_20 (by decide) ?_
        refine lv_goto (tgt := 27) hx hb_ dX12_order_22 (by decide) ?_
        refine z_ki hw hA (va_runV (As := [.int (-5)]) (rest := []) hcf (c_X12_no lau cD cy _ r_ S_ hSh (-5) (by decide) (by decide)) (cwV 1 hts gX12_order_X12_no rfl rfl rfl (by decide +kernel) ⟨Nat.le_of_ble_eq_true rfl, Nat.le_of_ble_eq_true rfl⟩) (z_preV (k := 12) hK_ hE hw (mL hSh 0) (mK hSh 0) (by decide) rfl) rfl rfl hl.1 rfl (lv_room (Nat.le_of_ble_eq_true rfl)) dX12_order_27 ⟨Nat.le_of_ble_eq_true rfl, Nat.le_of_ble_eq_true rfl⟩) (fun v7 S8 H_ locs_ hp hw => ?_)
        obtain ⟨rfl, f9, rfl⟩ := hp
        have hSh : ShM (zsA S_ (r_ 2) f9) r_ := (sh_AM hSh0)
        exact z_iret (ty := .int) (v := (-5)) hcf hr rfl hlk hw (by unfold q_order; rw [if_pos (Or.inl (by rw [zx_le] at c_17; rw [zx_lt]; omega))]) dX12_order_30
  · refine lv_iload_n hx hb_ dX12_order_5 rfl (lv_at hl 1 rfl) ?_
    refine lv_bipush (v := 8) hx hb_ dX12_order_6 (by decide) ?_
    refine lv_icmp_le (tgt := 31) hx hb_ dX12_order_8 (by decide) (fun c_8 => ?_) (fun c_8 => ?_)
    · obtain ⟨n0_, hn1, hn8, en⟩ := zx_of (a := 1) (b := 8) c_2 c_8 (by decide) (by decide)
      have hlen := cG_len hn1 hn8
      refine lv_aload_n hx hb_ dX12_order_31 rfl (lv_at hl 0 rfl) ?_
      refine lv_iload_n hx hb_ dX12_order_32 rfl (lv_at hl 1 rfl) ?_
      refine z_topi (y := nI n0_) en ?_
      refine z_kv hw hA (va_runV (As := [.int (nI n0_)]) (rest := []) hcf (c_X12_finds lau cD cy _ r_ S_ hSh hF n0_ hn1 hn8) (cwV 1 hts gX12_order_X12_finds rfl rfl rfl (by decide +kernel) ⟨Nat.le_of_ble_eq_true rfl, Nat.le_of_ble_eq_true rfl⟩) (z_preV (k := 12) hK_ hE hw (mL hSh 0) (mK hSh 0) (by decide) rfl) rfl rfl hl.1 rfl (lv_room (Nat.le_of_ble_eq_true rfl)) dX12_order_33 ⟨Nat.le_of_ble_eq_true rfl, Nat.le_of_ble_eq_true rfl⟩) (fun S11 H_ locs_ hp hw => ?_)
      obtain ⟨lf, av, fo, rfl, hfo⟩ := hp
      have hSh : ShM (zsA (zsA (zsA (zsI (zsI S_ 1249 (r_ 0) (nI n0_)) 1250 (r_ 0) (nI (0 + (cG n0_ n0_ []).length))) (r_ 46) lf) (r_ 47) av) (r_ 48) fo) r_ := (sh_AM (sh_AM (sh_AM (sh_IM (sh_IM hSh0)))))
      refine lv_iload_n hx hb_ dX12_order_36 rfl (lv_at hl 2 rfl) ?_
      refine lv_if_lt (tgt := 71) hx hb_ dX12_order_37 (by decide) (fun c_37 => ?_) (fun c_37 => ?_)
      · refine lv_aload_n hx hb_ dX12_order_71 rfl (lv_at hl 0 rfl) ?_
        refine lv_bipush (v := (-5)) hx hb_ dX12_order_72 (by decide) ?_
        refine z_ki hw hA (va_runV (As := [.int (-5)]) (rest := []) hcf (c_X12_no lau cD cy _ r_ (zsA (zsA (zsA (zsI (zsI S_ 1249 (r_ 0) (nI n0_)) 1250 (r_ 0) (nI (0 + (cG n0_ n0_ []).length))) (r_ 46) lf) (r_ 47) av) (r_ 48) fo) hSh (-5) (by decide) (by decide)) (cwV 1 hts gX12_order_X12_no rfl rfl rfl (by decide +kernel) ⟨Nat.le_of_ble_eq_true rfl, Nat.le_of_ble_eq_true rfl⟩) (z_preV (k := 12) hK_ hE hw (mL hSh 0) (mK hSh 0) (by decide) rfl) rfl rfl hl.1 rfl (lv_room (Nat.le_of_ble_eq_true rfl)) dX12_order_74 ⟨Nat.le_of_ble_eq_true rfl, Nat.le_of_ble_eq_true rfl⟩) (fun v12 S13 H_ locs_ hp hw => ?_)
        obtain ⟨rfl, f14, rfl⟩ := hp
        have hSh : ShM (zsA (zsA (zsA (zsA (zsI (zsI S_ 1249 (r_ 0) (nI n0_)) 1250 (r_ 0) (nI (0 + (cG n0_ n0_ []).length))) (r_ 46) lf) (r_ 47) av) (r_ 48) fo) (r_ 2) f14) r_ := (sh_AM (sh_AM (sh_AM (sh_AM (sh_IM (sh_IM hSh0))))))
        exact z_iret (ty := .int) (v := (-5)) hcf hr rfl hlk hw (by unfold q_order; rw [if_pos (Or.inl c_37)]) dX12_order_77
      · refine lv_iload_n hx hb_ dX12_order_40 rfl (lv_at hl 2 rfl) ?_
        refine lv_aload_n hx hb_ dX12_order_41 rfl (lv_at hl 0 rfl) ?_
        refine z_get (k := 12) (i := 50) (j := 1250) (v := .int (nI (cG n0_ n0_ []).length)) (ref := "FoldedInHalfModel") (C := RX12) (T := TX12) (N := 56) hcf hK_ hw hin12 (mL hSh 0) (mK hSh 0) rfl (by decide) (by decide) rfl rfl (congrArg Value.int ((zI_A.trans (zI_A.trans (zI_A.trans zI_at))).trans (by rw [Nat.zero_add]))) (List.mem_of_getElem? (i := 1) rfl) (fun _ h_ => h_) dX12_order_42 ?_
        refine lv_icmp_ge (tgt := 71) hx hb_ dX12_order_45 (by decide) (fun c_45 => ?_) (fun c_45 => ?_)
        · refine lv_aload_n hx hb_ dX12_order_71 rfl (lv_at hl 0 rfl) ?_
          refine lv_bipush (v := (-5)) hx hb_ dX12_order_72 (by decide) ?_
          refine z_ki hw hA (va_runV (As := [.int (-5)]) (rest := []) hcf (c_X12_no lau cD cy _ r_ (zsA (zsA (zsA (zsI (zsI S_ 1249 (r_ 0) (nI n0_)) 1250 (r_ 0) (nI (0 + (cG n0_ n0_ []).length))) (r_ 46) lf) (r_ 47) av) (r_ 48) fo) hSh (-5) (by decide) (by decide)) (cwV 1 hts gX12_order_X12_no rfl rfl rfl (by decide +kernel) ⟨Nat.le_of_ble_eq_true rfl, Nat.le_of_ble_eq_true rfl⟩) (z_preV (k := 12) hK_ hE hw (mL hSh 0) (mK hSh 0) (by decide) rfl) rfl rfl hl.1 rfl (lv_room (Nat.le_of_ble_eq_true rfl)) dX12_order_74 ⟨Nat.le_of_ble_eq_true rfl, Nat.le_of_ble_eq_true rfl⟩) (fun v15 S16 H_ locs_ hp hw => ?_)
          obtain ⟨rfl, f17, rfl⟩ := hp
          have hSh : ShM (zsA (zsA (zsA (zsA (zsI (zsI S_ 1249 (r_ 0) (nI n0_)) 1250 (r_ 0) (nI (0 + (cG n0_ n0_ []).length))) (r_ 46) lf) (r_ 47) av) (r_ 48) fo) (r_ 2) f17) r_ := (sh_AM (sh_AM (sh_AM (sh_AM (sh_IM (sh_IM hSh0))))))
          exact z_iret (ty := .int) (v := (-5)) hcf hr rfl hlk hw ((Decidable.em (pq < 0)).elim (fun q_ => by unfold q_order; rw [if_pos (Or.inr q_)]) (fun q_ => (q_order_out c_37 q_ c_2 c_8 en hn8 (Or.inr (fun z_ => absurd c_45 (by rw [zx_lt] at z_; rw [zx_le]; omega)))).symm)) dX12_order_77
        · refine lv_iload_n hx hb_ dX12_order_48 rfl (lv_at hl 3 rfl) ?_
          refine lv_if_lt (tgt := 71) hx hb_ dX12_order_49 (by decide) (fun c_49 => ?_) (fun c_49 => ?_)
          · refine lv_aload_n hx hb_ dX12_order_71 rfl (lv_at hl 0 rfl) ?_
            refine lv_bipush (v := (-5)) hx hb_ dX12_order_72 (by decide) ?_
            refine z_ki hw hA (va_runV (As := [.int (-5)]) (rest := []) hcf (c_X12_no lau cD cy _ r_ (zsA (zsA (zsA (zsI (zsI S_ 1249 (r_ 0) (nI n0_)) 1250 (r_ 0) (nI (0 + (cG n0_ n0_ []).length))) (r_ 46) lf) (r_ 47) av) (r_ 48) fo) hSh (-5) (by decide) (by decide)) (cwV 1 hts gX12_order_X12_no rfl rfl rfl (by decide +kernel) ⟨Nat.le_of_ble_eq_true rfl, Nat.le_of_ble_eq_true rfl⟩) (z_preV (k := 12) hK_ hE hw (mL hSh 0) (mK hSh 0) (by decide) rfl) rfl rfl hl.1 rfl (lv_room (Nat.le_of_ble_eq_true rfl)) dX12_order_74 ⟨Nat.le_of_ble_eq_true rfl, Nat.le_of_ble_eq_true rfl⟩) (fun v18 S19 H_ locs_ hp hw => ?_)
            obtain ⟨rfl, f20, rfl⟩ := hp
            have hSh : ShM (zsA (zsA (zsA (zsA (zsI (zsI S_ 1249 (r_ 0) (nI n0_)) 1250 (r_ 0) (nI (0 + (cG n0_ n0_ []).length))) (r_ 46) lf) (r_ 47) av) (r_ 48) fo) (r_ 2) f20) r_ := (sh_AM (sh_AM (sh_AM (sh_AM (sh_IM (sh_IM hSh0))))))
            exact z_iret (ty := .int) (v := (-5)) hcf hr rfl hlk hw (by unfold q_order; rw [if_pos (Or.inr c_49)]) dX12_order_77
          · refine lv_iload_n hx hb_ dX12_order_52 rfl (lv_at hl 3 rfl) ?_
            refine lv_iload_n hx hb_ dX12_order_53 rfl (lv_at hl 1 rfl) ?_
            refine lv_icmp_ge (tgt := 71) hx hb_ dX12_order_54 (by decide) (fun c_54 => ?_) (fun c_54 => ?_)
            · refine lv_aload_n hx hb_ dX12_order_71 rfl (lv_at hl 0 rfl) ?_
              refine lv_bipush (v := (-5)) hx hb_ dX12_order_72 (by decide) ?_
              refine z_ki hw hA (va_runV (As := [.int (-5)]) (rest := []) hcf (c_X12_no lau cD cy _ r_ (zsA (zsA (zsA (zsI (zsI S_ 1249 (r_ 0) (nI n0_)) 1250 (r_ 0) (nI (0 + (cG n0_ n0_ []).length))) (r_ 46) lf) (r_ 47) av) (r_ 48) fo) hSh (-5) (by decide) (by decide)) (cwV 1 hts gX12_order_X12_no rfl rfl rfl (by decide +kernel) ⟨Nat.le_of_ble_eq_true rfl, Nat.le_of_ble_eq_true rfl⟩) (z_preV (k := 12) hK_ hE hw (mL hSh 0) (mK hSh 0) (by decide) rfl) rfl rfl hl.1 rfl (lv_room (Nat.le_of_ble_eq_true rfl)) dX12_order_74 ⟨Nat.le_of_ble_eq_true rfl, Nat.le_of_ble_eq_true rfl⟩) (fun v21 S22 H_ locs_ hp hw => ?_)
              obtain ⟨rfl, f23, rfl⟩ := hp
              have hSh : ShM (zsA (zsA (zsA (zsA (zsI (zsI S_ 1249 (r_ 0) (nI n0_)) 1250 (r_ 0) (nI (0 + (cG n0_ n0_ []).length))) (r_ 46) lf) (r_ 47) av) (r_ 48) fo) (r_ 2) f23) r_ := (sh_AM (sh_AM (sh_AM (sh_AM (sh_IM (sh_IM hSh0))))))
              exact z_iret (ty := .int) (v := (-5)) hcf hr rfl hlk hw ((q_order_out c_37 c_49 c_2 c_8 en hn8 (Or.inl (fun z_ => absurd c_54 (by rw [zx_lt] at z_; rw [zx_le]; omega)))).symm) dX12_order_77
            · obtain ⟨i0, hi31, ei0⟩ := nI_of c_37
              obtain ⟨p0, hp31, ep0⟩ := nI_of c_49
              have hlt : io < nI (cG n0_ n0_ []).length := by rw [zx_le] at c_45; rw [zx_lt]; omega
              have hi0 : i0 < (cG n0_ n0_ []).length := by rw [ei0, nI_ltI hi31 (by omega)] at hlt; exact hlt
              have hp0 : p0 < n0_ := by rw [ep0, en, nI_leI (by omega) hp31] at c_54; omega
              refine lv_aload_n hx hb_ dX12_order_57 rfl (lv_at hl 0 rfl) ?_
              refine z_get (k := 12) (i := 48) (j := 1248) (v := .ref (r_ 48)) (ref := "FoldedInHalfModel") (C := RX12) (T := TX12) (N := 56) hcf hK_ hw hin12 (mL hSh 0) (mK hSh 0) rfl (by decide) (by decide) rfl rfl (congrArg va_rf (mP hSh 48)) (List.mem_of_getElem? (i := 2) rfl) (fun _ h_ => h_) dX12_order_58 ?_
              refine lv_bipush (v := 8) hx hb_ dX12_order_61 (by decide) ?_
              refine lv_iload_n hx hb_ dX12_order_63 rfl (lv_at hl 2 rfl) ?_
              refine lv_imul hx hb_ dX12_order_64 ?_
              refine lv_iload_n hx hb_ dX12_order_65 rfl (lv_at hl 3 rfl) ?_
              refine lv_iadd hx hb_ dX12_order_66 ?_
              refine z_topi (y := (nI (8 * i0 + p0))) (by rw [ei0, ep0, show (8 : Int32) * nI i0 = nI (8 * i0) from pk_mul 8 i0, nI_add]) ?_
              refine z_iald (n := 11136) hcf hK_ hw (mL hSh 48) (mK hSh 48) (mN hSh 48) (vp_in_nI (by omega) (by decide)) dX12_order_67 ?_
              refine z_topi (y := (fo ((8 * i0 + p0)))) (by rw [(nI_clamp (show (8 * i0 + p0) < 2 ^ 31 by omega))]; exact congrFun (show zA (zsA (zsA (zsA (zsI (zsI S_ 1249 (r_ 0) (nI n0_)) 1250 (r_ 0) (nI (0 + (cG n0_ n0_ []).length))) (r_ 46) lf) (r_ 47) av) (r_ 48) fo) (r_ 48) = fo from (zA_zsA _ _ _)) _) ?_
              refine lv_goto (tgt := 77) hx hb_ dX12_order_68 (by decide) ?_
              exact z_iret (ty := .int) (v := (fo ((8 * i0 + p0)))) hcf hr rfl hlk hw (by rw [q_order_in c_37 c_49 c_2 c_8 en hn8 ei0 hi31 ep0 hp0 hlt]; exact hfo i0 hi0 p0 hp0) dX12_order_77
    · refine lv_aload_n hx hb_ dX12_order_11 rfl (lv_at hl 0 rfl) ?_
      refine lv_iload_n hx hb_ dX12_order_12 rfl (lv_at hl 3 rfl) ?_
      refine lv_if_lt (tgt := 20) hx hb_ dX12_order_13 (by decide) (fun c_13 => ?_) (fun c_13 => ?_)
      · refine lv_bipush (v := (-5)) hx hb_ dX12_order_20 (by decide) ?_
        refine lv_goto (tgt := 27) hx hb_ dX12_order_22 (by decide) ?_
        refine z_ki hw hA (va_runV (As := [.int (-5)]) (rest := []) hcf (c_X12_no lau cD cy _ r_ S_ hSh (-5) (by decide) (by decide)) (cwV 1 hts gX12_order_X12_no rfl rfl rfl (by decide +kernel) ⟨Nat.le_of_ble_eq_true rfl, Nat.le_of_ble_eq_true rfl⟩) (z_preV (k := 12) hK_ hE hw (mL hSh 0) (mK hSh 0) (by decide) rfl) rfl rfl hl.1 rfl (lv_room (Nat.le_of_ble_eq_true rfl)) dX12_order_27 ⟨Nat.le_of_ble_eq_true rfl, Nat.le_of_ble_eq_true rfl⟩) (fun v24 S25 H_ locs_ hp hw => ?_)
        obtain ⟨rfl, f26, rfl⟩ := hp
        have hSh : ShM (zsA S_ (r_ 2) f26) r_ := (sh_AM hSh0)
        exact z_iret (ty := .int) (v := (-5)) hcf hr rfl hlk hw (by unfold q_order; rw [if_pos (Or.inr c_13)]) dX12_order_30
      · refine lv_iload_n hx hb_ dX12_order_16 rfl (lv_at hl 2 rfl) ?_
        refine lv_if_ge (tgt := 25) hx hb_ dX12_order_17 (by decide) (fun c_17 => ?_) (fun c_17 => ?_)
        · refine lv_bipush (v := (-6)) hx hb_ dX12_order_25 (by decide) ?_
          refine z_ki hw hA (va_runV (As := [.int (-6)]) (rest := []) hcf (c_X12_no lau cD cy _ r_ S_ hSh (-6) (by decide) (by decide)) (cwV 1 hts gX12_order_X12_no rfl rfl rfl (by decide +kernel) ⟨Nat.le_of_ble_eq_true rfl, Nat.le_of_ble_eq_true rfl⟩) (z_preV (k := 12) hK_ hE hw (mL hSh 0) (mK hSh 0) (by decide) rfl) rfl rfl hl.1 rfl (lv_room (Nat.le_of_ble_eq_true rfl)) dX12_order_27 ⟨Nat.le_of_ble_eq_true rfl, Nat.le_of_ble_eq_true rfl⟩) (fun v27 S28 H_ locs_ hp hw => ?_)
          obtain ⟨rfl, f29, rfl⟩ := hp
          have hSh : ShM (zsA S_ (r_ 2) f29) r_ := (sh_AM hSh0)
          exact z_iret (ty := .int) (v := (-6)) hcf hr rfl hlk hw (by unfold q_order; rw [if_neg (fun z_ => z_.elim (fun q_ => by rw [zx_lt] at q_; rw [zx_le] at c_17; have z0 : (0 : Int32).toInt = 0 := rfl; omega) (fun q_ => c_13 q_)), if_pos (by simp [c_2, c_8])]) dX12_order_30
        · refine lv_bipush (v := (-5)) hx hb_ dX12_order_20 (by decide) ?_
          refine lv_goto (tgt := 27) hx hb_ dX12_order_22 (by decide) ?_
          refine z_ki hw hA (va_runV (As := [.int (-5)]) (rest := []) hcf (c_X12_no lau cD cy _ r_ S_ hSh (-5) (by decide) (by decide)) (cwV 1 hts gX12_order_X12_no rfl rfl rfl (by decide +kernel) ⟨Nat.le_of_ble_eq_true rfl, Nat.le_of_ble_eq_true rfl⟩) (z_preV (k := 12) hK_ hE hw (mL hSh 0) (mK hSh 0) (by decide) rfl) rfl rfl hl.1 rfl (lv_room (Nat.le_of_ble_eq_true rfl)) dX12_order_27 ⟨Nat.le_of_ble_eq_true rfl, Nat.le_of_ble_eq_true rfl⟩) (fun v30 S31 H_ locs_ hp hw => ?_)
          obtain ⟨rfl, f32, rfl⟩ := hp
          have hSh : ShM (zsA S_ (r_ 2) f32) r_ := (sh_AM hSh0)
          exact z_iret (ty := .int) (v := (-5)) hcf hr rfl hlk hw (by unfold q_order; rw [if_pos (Or.inl (by rw [zx_le] at c_17; rw [zx_lt]; omega))]) dX12_order_30
