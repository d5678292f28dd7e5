
set_option maxHeartbeats 4000000 in
set_option maxRecDepth 100000 in
/-- row on a_ model just made -/
theorem c_X12_row (l : Launch) (cD : va_G) (cy : Nat → ClassId) (sz_ : Nat) (r_ : Nat → Nat) (S_ : zS) (hSh : ShM S_ r_) (hF : FrM S_ r_) (a_ : Int32) (o_ : Int32) (n_ : Int32) : Met l yX12_row wsX12_row ({ frames := 1, cells := 0, slots := 0, locals := 21 } : Room) (va_Pc [.ref (r_ 0), .int a_, .int o_, .int n_] (zPre cD cy S_ sz_)) (va_Qi (fun (v_ : Int32) (S1 : zS) => v_ = q_row a_ o_ n_) (zPost cD cy (zAd cy S_ sz_)) (zAd cy S_ sz_)) 0 0 (zAd cy S_ sz_) := by
  refine z_ofW (cc := cX12_row) (maxL := 5) (ret := (some .int)) (own := RX12) (QQ := fun A_ => va_Qi (fun (v_ : Int32) (S1 : zS) => v_ = q_row a_ o_ n_) (zPost cD cy A_) A_) (by decide) rfl rfl (Nat.le_of_ble_eq_true rfl) ?_
  intro p_ e_ s_ m_ args_ below_ meth_ c_ A_ ls hcf hr hlk hnm hK_ hE hw hA hl
  obtain ⟨hx, hb_, hml, hown, hts⟩ := id hcf
  have hin12 : ∀ w_ ∈ wsX120, w_ ∈ wsX12_row := fun w_ h_ => (List.mem_cons_of_mem _ (List.mem_append_right _ h_))
  have hl : lv_has ls 5 [(0, .ref (r_ 0)), (1, .int a_), (2, .int o_), (3, .int n_)] := hl
  refine lv_aload_n hx hb_ dX12_row_0 rfl (lv_at hl 0 rfl) ?_
  refine lv_iload_n hx hb_ dX12_row_1 rfl (lv_at hl 1 rfl) ?_
  refine z_ki hw hA (va_runV (As := [.int a_]) (rest := []) hcf (c_X12_isShelf l cD cy _ r_ S_ hSh a_) (cwV 1 hts gX12_row_X12_isShelf rfl rfl rfl (by decide +kernel) ⟨Nat.le_of_ble_eq_true rfl, Nat.le_of_ble_eq_true rfl⟩) (z_preV (k := 12) hK_ hE hw (mL hSh 0) (mK hSh 0) (by decide) rfl) rfl rfl hl.1 rfl (lv_room (Nat.le_of_ble_eq_true rfl)) dX12_row_2 ⟨Nat.le_of_ble_eq_true rfl, Nat.le_of_ble_eq_true rfl⟩) (fun v1 S2 H_ locs_ hp hw => ?_)
  obtain ⟨hp, rfl⟩ := hp
  rcases hp with ⟨hs3, rfl⟩ | ⟨⟨ha3, hb3⟩, rfl⟩
  · refine lv_if_ne (tgt := 14) hx hb_ dX12_row_5 (by decide) (fun c_5 => absurd c_5 (by decide)) (fun _ => ?_)
    refine lv_aload_n hx hb_ dX12_row_8 rfl (lv_at hl 0 rfl) ?_
    refine lv_iconst (v := (-1)) hx hb_ dX12_row_9 (by decide) ?_
    refine z_ki hw hA (va_runV (As := [.int (-1)]) (rest := []) hcf (c_X12_no l cD cy _ r_ S_ hSh (-1) (by decide) (by decide)) (cwV 1 hts gX12_row_X12_no rfl rfl rfl (by decide +kernel) ⟨Nat.le_of_ble_eq_true rfl, Nat.le_of_ble_eq_true rfl⟩) (z_preV (k := 12) hK_ hE hw (mL hSh 0) (mK hSh 0) (by decide) rfl) rfl rfl hl.1 rfl (lv_room (Nat.le_of_ble_eq_true rfl)) dX12_row_10 ⟨Nat.le_of_ble_eq_true rfl, Nat.le_of_ble_eq_true rfl⟩) (fun v4 S5 H_ locs_ hp hw => ?_)
    obtain ⟨rfl, f6, rfl⟩ := hp
    exact z_iret (ty := .int) (v := (-1)) hcf hr rfl hlk hw (by first | (simp [q_row, hs3]; done) | (rcases hs3 with q_ | q_ <;> (simp [q_row, q_]; done)) | (simp_all [q_row]; done)) dX12_row_13
  · refine lv_if_ne (tgt := 14) hx hb_ dX12_row_5 (by decide) (fun _ => ?_) (fun c_5 => absurd c_5 (by decide))
    refine lv_iload_n hx hb_ dX12_row_14 rfl (lv_at hl 3 rfl) ?_
    refine lv_if_ge (tgt := 25) hx hb_ dX12_row_15 (by decide) (fun c_15 => ?_) (fun c_15 => ?_)
    · refine lv_iload_n hx hb_ dX12_row_25 rfl (lv_at hl 2 rfl) ?_
      refine lv_if_lt (tgt := 34) hx hb_ dX12_row_26 (by decide) (fun c_26 => ?_) (fun c_26 => ?_)
      · refine lv_aload_n hx hb_ dX12_row_34 rfl (lv_at hl 0 rfl) ?_
        refine lv_bipush (v := (-6)) hx hb_ dX12_row_35 (by decide) ?_
        refine z_ki hw hA (va_runV (As := [.int (-6)]) (rest := []) hcf (c_X12_no l cD cy _ r_ S_ hSh (-6) (by decide) (by decide)) (cwV 1 hts gX12_row_X12_no rfl rfl rfl (by decide +kernel) ⟨Nat.le_of_ble_eq_true rfl, Nat.le_of_ble_eq_true rfl⟩) (z_preV (k := 12) hK_ hE hw (mL hSh 0) (mK hSh 0) (by decide) rfl) rfl rfl hl.1 rfl (lv_room (Nat.le_of_ble_eq_true rfl)) dX12_row_37 ⟨Nat.le_of_ble_eq_true rfl, Nat.le_of_ble_eq_true rfl⟩) (fun v7 S8 H_ locs_ hp hw => ?_)
        obtain ⟨rfl, f9, rfl⟩ := hp
        exact z_iret (ty := .int) (v := (-6)) hcf hr rfl hlk hw (by first | (simp [q_row, ha3, hb3, c_15, c_26]; done) | (simp_all [q_row]; done)) dX12_row_40
      · refine lv_iload_n hx hb_ dX12_row_29 rfl (lv_at hl 2 rfl) ?_
        refine lv_iconst (v := 3) hx hb_ dX12_row_30 (by decide) ?_
        refine lv_icmp_le (tgt := 41) hx hb_ dX12_row_31 (by decide) (fun c_31 => ?_) (fun c_31 => ?_)
        · refine lv_iload_n hx hb_ dX12_row_41 rfl (lv_at hl 3 rfl) ?_
          refine lv_sipush (v := 160) hx hb_ dX12_row_42 (by decide) ?_
          refine lv_icmp_le (tgt := 55) hx hb_ dX12_row_45 (by decide) (fun c_45 => ?_) (fun c_45 => ?_)
          · refine lv_aload_n hx hb_ dX12_row_55 rfl (lv_at hl 0 rfl) ?_
            refine z_get (k := 12) (i := 7) (j := 1207) (v := .ref (r_ 7)) (ref := "FoldedInHalfModel") (C := RX12) (T := TX12) (N := 56) hcf hK_ hw hin12 (mL hSh 0) (mK hSh 0) rfl (by decide) (by decide) rfl rfl (congrArg va_rf (mP hSh 7)) (List.mem_of_getElem? (i := 1) rfl) (fun _ h_ => h_) dX12_row_56 ?_
            refine lv_iload_n hx hb_ dX12_row_59 rfl (lv_at hl 1 rfl) ?_
            refine lv_iconst (v := 1) hx hb_ dX12_row_60 (by decide) ?_
            refine z_iast (n := 8) hcf hK_ hw (mL hSh 7) (mK hSh 7) (mN hSh 7) (zx_in ha3 hb3 (by decide)) dX12_row_61 (fun H_ locs_ hw => ?_)
            refine lv_aload_n hx hb_ dX12_row_62 rfl (lv_at hl 0 rfl) ?_
            refine z_get (k := 12) (i := 8) (j := 1208) (v := .ref (r_ 8)) (ref := "FoldedInHalfModel") (C := RX12) (T := TX12) (N := 56) hcf hK_ hw hin12 (mL hSh 0) (mK hSh 0) rfl (by decide) (by decide) rfl rfl (congrArg va_rf (mP hSh 8)) (List.mem_of_getElem? (i := 2) rfl) (fun _ h_ => h_) dX12_row_63 ?_
            refine lv_iload_n hx hb_ dX12_row_66 rfl (lv_at hl 1 rfl) ?_
            refine lv_iload_n hx hb_ dX12_row_67 rfl (lv_at hl 2 rfl) ?_
            refine z_iast (n := 8) hcf hK_ hw (mL hSh 8) (mK hSh 8) (mN hSh 8) (zx_in ha3 hb3 (by decide)) dX12_row_68 (fun H_ locs_ hw => ?_)
            refine lv_aload_n hx hb_ dX12_row_69 rfl (lv_at hl 0 rfl) ?_
            refine z_get (k := 12) (i := 9) (j := 1209) (v := .ref (r_ 9)) (ref := "FoldedInHalfModel") (C := RX12) (T := TX12) (N := 56) hcf hK_ hw hin12 (mL hSh 0) (mK hSh 0) rfl (by decide) (by decide) rfl rfl (congrArg va_rf (mP hSh 9)) (List.mem_of_getElem? (i := 3) rfl) (fun _ h_ => h_) dX12_row_70 ?_
            refine lv_iload_n hx hb_ dX12_row_73 rfl (lv_at hl 1 rfl) ?_
            refine lv_iload_n hx hb_ dX12_row_74 rfl (lv_at hl 3 rfl) ?_
            refine z_iast (n := 8) hcf hK_ hw (mL hSh 9) (mK hSh 9) (mN hSh 9) (zx_in ha3 hb3 (by decide)) dX12_row_75 (fun H_ locs_ hw => ?_)
            refine lv_iconst (v := 0) hx hb_ dX12_row_76 (by decide) ?_
            refine lv_istore (lv' := [(4, .int 0), (0, .ref (r_ 0)), (1, .int a_), (2, .int o_), (3, .int n_)]) hx hb_ dX12_row_77 hl (by decide) rfl (fun ls hl => ?_)
            obtain ⟨ja, hja, eja⟩ : ∃ j_, j_ < 8 ∧ a_ = nI j_ := vp_in_of (zx_in ha3 hb3 (by decide)) (by decide)
            have J_ : ∀ (n0_ j_ : Nat) (i_ : Int32), i_ = nI j_ → j_ ≤ 160 → 160 < j_ + n0_ → ∀ (g_ : Nat → Int64) (H_ : Heap) (locs_ : List Loc), zPw cD cy A_ s_.heap (zsB (zsA (zsA (zsA S_ (r_ 7) (upd (zA S_ (r_ 7)) (a_ : Int32).toNatClampNeg 1)) (r_ 8) (upd (zA (zsA S_ (r_ 7) (upd (zA S_ (r_ 7)) (a_ : Int32).toNatClampNeg 1)) (r_ 8)) (a_ : Int32).toNatClampNeg o_)) (r_ 9) (upd (zA (zsA (zsA S_ (r_ 7) (upd (zA S_ (r_ 7)) (a_ : Int32).toNatClampNeg 1)) (r_ 8) (upd (zA (zsA S_ (r_ 7) (upd (zA S_ (r_ 7)) (a_ : Int32).toNatClampNeg 1)) (r_ 8)) (a_ : Int32).toNatClampNeg o_)) (r_ 9)) (a_ : Int32).toNatClampNeg n_)) (r_ 11) g_) H_ locs_ → ∀ ls : Array Slot, lv_has ls 5 [(0, .ref (r_ 0)), (1, .int a_), (2, .int o_), (3, .int n_), (4, .int i_)] → W p_ l e_ ({ frames := 1, cells := 0, slots := 0, locals := 21 } : Room) s_ m_ args_ below_ meth_ c_ H_ locs_ 0 0 (MQ below_ (va_Qi (fun (v_ : Int32) (S1 : zS) => v_ = q_row a_ o_ n_) (zPost cD cy A_) A_) args_ s_ 0 0 A_) (F0 m_ 79 ls []) := by
              intro n0_
              induction n0_ with
              | zero => intro j_ i_ _ _ h_; exact absurd h_ (by omega)
              | succ n0_ ih_ =>
                intro j_ i_ ei hj hm_ g_ H_ locs_ hw ls hl
                have eN_ : (160 : Int32) = nI 160 := by decide
                refine lv_iload hx hb_ dX12_row_79 (lv_at hl 4 rfl) ?_
                refine lv_sipush (v := 160) hx hb_ dX12_row_81 (by decide) ?_
                refine lv_icmp_ge (tgt := 107) hx hb_ dX12_row_84 (by decide) (fun c_84 => ?_) (fun c_84 => ?_)
                · refine lv_iconst (v := 1) hx hb_ dX12_row_107 (by decide) ?_
                  exact z_iret (ty := .int) (v := 1) hcf hr rfl hlk hw (by first | (simp [q_row, ha3, hb3, c_15, c_26, c_31, c_45, c_84]; done) | (simp_all [q_row]; done)) dX12_row_108
                · have hlt : j_ < 160 := zn_lt ei eN_ (by omega) c_84
                  refine lv_aload_n hx hb_ dX12_row_87 rfl (lv_at hl 0 rfl) ?_
                  refine z_get (k := 12) (i := 11) (j := 1211) (v := .ref (r_ 11)) (ref := "FoldedInHalfModel") (C := RX12) (T := TX12) (N := 56) hcf hK_ hw hin12 (mL hSh 0) (mK hSh 0) rfl (by decide) (by decide) rfl rfl (congrArg va_rf (mP hSh 11)) (List.mem_of_getElem? (i := 4) rfl) (fun _ h_ => h_) dX12_row_88 ?_
                  refine lv_sipush (v := 160) hx hb_ dX12_row_91 (by decide) ?_
                  refine lv_iload_n hx hb_ dX12_row_94 rfl (lv_at hl 1 rfl) ?_
                  refine lv_imul hx hb_ dX12_row_95 ?_
                  refine lv_iload hx hb_ dX12_row_96 (lv_at hl 4 rfl) ?_
                  refine lv_iadd hx hb_ dX12_row_98 ?_
                  refine lv_lconst (v := 0) hx hb_ dX12_row_99 (by decide) ?_
                  refine z_last (n := 1280) hcf hK_ hw (mL hSh 11) (mK hSh 11) (mN hSh 11) (by rw [ei, eja, show (160 : Int32) * nI ja = nI (160 * ja) from pk_mul 160 ja, nI_add]; exact vp_in_nI (by omega) (by decide)) dX12_row_100 (fun H_ locs_ hw => ?_)
                  obtain ⟨i2_, ei2⟩ : ∃ y_ : Int32, y_ = i_ + 1 := ⟨_, rfl⟩
                  refine lv_iinc (v := i2_) (lv' := [(4, .int i2_), (0, .ref (r_ 0)), (1, .int a_), (2, .int o_), (3, .int n_)]) hx hb_ dX12_row_101 hl (k := 4) rfl (by rw [ei2]; rfl) (by decide) rfl (fun ls hl => ?_)
                  refine lv_goto (tgt := 79) hx hb_ dX12_row_104 (by decide) ?_
                  rw [zsB_zsB] at hw
                  exact ih_ (j_ + 1) i2_ (by rw [ei2, ei]; exact nI_1 j_) hlt (by omega) _ _ _ hw ls (lv_sub hl [1, 2, 3, 4, 0] rfl)
            exact J_ 161 0 0 nI_0.symm (Nat.zero_le _) (by omega) (zB (zsA (zsA (zsA S_ (r_ 7) (upd (zA S_ (r_ 7)) (a_ : Int32).toNatClampNeg 1)) (r_ 8) (upd (zA (zsA S_ (r_ 7) (upd (zA S_ (r_ 7)) (a_ : Int32).toNatClampNeg 1)) (r_ 8)) (a_ : Int32).toNatClampNeg o_)) (r_ 9) (upd (zA (zsA (zsA S_ (r_ 7) (upd (zA S_ (r_ 7)) (a_ : Int32).toNatClampNeg 1)) (r_ 8) (upd (zA (zsA S_ (r_ 7) (upd (zA S_ (r_ 7)) (a_ : Int32).toNatClampNeg 1)) (r_ 8)) (a_ : Int32).toNatClampNeg o_)) (r_ 9)) (a_ : Int32).toNatClampNeg n_)) (r_ 11)) _ _ (by rw [zsB_self]; exact hw) ls (lv_sub hl [1, 2, 3, 4, 0] rfl)
          · refine lv_aload_n hx hb_ dX12_row_48 rfl (lv_at hl 0 rfl) ?_
            refine lv_bipush (v := (-7)) hx hb_ dX12_row_49 (by decide) ?_
            refine z_ki hw hA (va_runV (As := [.int (-7)]) (rest := []) hcf (c_X12_no l cD cy _ r_ S_ hSh (-7) (by decide) (by decide)) (cwV 1 hts gX12_row_X12_no rfl rfl rfl (by decide +kernel) ⟨Nat.le_of_ble_eq_true rfl, Nat.le_of_ble_eq_true rfl⟩) (z_preV (k := 12) hK_ hE hw (mL hSh 0) (mK hSh 0) (by decide) rfl) rfl rfl hl.1 rfl (lv_room (Nat.le_of_ble_eq_true rfl)) dX12_row_51 ⟨Nat.le_of_ble_eq_true rfl, Nat.le_of_ble_eq_true rfl⟩) (fun v10 S11 H_ locs_ hp hw => ?_)
            obtain ⟨rfl, f12, rfl⟩ := hp
            exact z_iret (ty := .int) (v := (-7)) hcf hr rfl hlk hw (by first | (simp [q_row, ha3, hb3, c_15, c_26, c_31, c_45]; done) | (simp_all [q_row]; done)) dX12_row_54
        · refine lv_aload_n hx hb_ dX12_row_34 rfl (lv_at hl 0 rfl) ?_
          refine lv_bipush (v := (-6)) hx hb_ dX12_row_35 (by decide) ?_
          refine z_ki hw hA (va_runV (As := [.int (-6)]) (rest := []) hcf (c_X12_no l cD cy _ r_ S_ hSh (-6) (by decide) (by decide)) (cwV 1 hts gX12_row_X12_no rfl rfl rfl (by decide +kernel) ⟨Nat.le_of_ble_eq_true rfl, Nat.le_of_ble_eq_true rfl⟩) (z_preV (k := 12) hK_ hE hw (mL hSh 0) (mK hSh 0) (by decide) rfl) rfl rfl hl.1 rfl (lv_room (Nat.le_of_ble_eq_true rfl)) dX12_row_37 ⟨Nat.le_of_ble_eq_true rfl, Nat.le_of_ble_eq_true rfl⟩) (fun v13 S14 H_ locs_ hp hw => ?_)
          obtain ⟨rfl, f15, rfl⟩ := hp
          exact z_iret (ty := .int) (v := (-6)) hcf hr rfl hlk hw (by first | (simp [q_row, ha3, hb3, c_15, c_26, c_31]; done) | (simp_all [q_row]; done)) dX12_row_40
    · refine lv_aload_n hx hb_ dX12_row_18 rfl (lv_at hl 0 rfl) ?_
      refine lv_bipush (v := (-4)) hx hb_ dX12_row_19 (by decide) ?_
      refine z_ki hw hA (va_runV (As := [.int (-4)]) (rest := []) hcf (c_X12_no l cD cy _ r_ S_ hSh (-4) (by decide) (by decide)) (cwV 1 hts gX12_row_X12_no rfl rfl rfl (by decide +kernel) ⟨Nat.le_of_ble_eq_true rfl, Nat.le_of_ble_eq_true rfl⟩) (z_preV (k := 12) hK_ hE hw (mL hSh 0) (mK hSh 0) (by decide) rfl) rfl rfl hl.1 rfl (lv_room (Nat.le_of_ble_eq_true rfl)) dX12_row_21 ⟨Nat.le_of_ble_eq_true rfl, Nat.le_of_ble_eq_true rfl⟩) (fun v16 S17 H_ locs_ hp hw => ?_)
      obtain ⟨rfl, f18, rfl⟩ := hp
      exact z_iret (ty := .int) (v := (-4)) hcf hr rfl hlk hw (by first | (simp [q_row, ha3, hb3, c_15]; done) | (simp_all [q_row]; done)) dX12_row_24

set_option maxHeartbeats 4000000 in
set_option maxRecDepth 100000 in
/-- set on a_ model just made -/
theorem c_X12_set (l : Launch) (cD : va_G) (cy : Nat → ClassId) (sz_ : Nat) (r_ : Nat → Nat) (S_ : zS) (hSh : ShM S_ r_) (hF : FrM S_ r_) (a_ : Int32) (i_ : Int32) (x_ : Int64) : Met l yX12_set wsX12_set ({ frames := 1, cells := 0, slots := 0, locals := 21 } : Room) (va_Pc [.ref (r_ 0), .int a_, .int i_, .long x_] (zPre cD cy S_ sz_)) (va_Qi (fun (v_ : Int32) (S1 : zS) => v_ = q_bad a_ (-1) (-3)) (zPost cD cy (zAd cy S_ sz_)) (zAd cy S_ sz_)) 0 0 (zAd cy S_ sz_) := by
  refine z_ofW (cc := cX12_set) (maxL := 5) (ret := (some .int)) (own := RX12) (QQ := fun A_ => va_Qi (fun (v_ : Int32) (S1 : zS) => v_ = q_bad a_ (-1) (-3)) (zPost cD cy A_) A_) (by decide) rfl rfl (Nat.le_of_ble_eq_true rfl) ?_
  intro p_ e_ s_ m_ args_ below_ meth_ c_ A_ ls hcf hr hlk hnm hK_ hE hw hA hl
  obtain ⟨hx, hb_, hml, hown, hts⟩ := id hcf
  have hin12 : ∀ w_ ∈ wsX120, w_ ∈ wsX12_set := fun w_ h_ => (List.mem_cons_of_mem _ (List.mem_append_right _ h_))
  have hl : lv_has ls 5 [(0, .ref (r_ 0)), (1, .int a_), (2, .int i_), (3, .long x_)] := hl
  refine lv_aload_n hx hb_ dX12_set_0 rfl (lv_at hl 0 rfl) ?_
  refine lv_iload_n hx hb_ dX12_set_1 rfl (lv_at hl 1 rfl) ?_
  refine z_ki hw hA (va_runV (As := [.int a_]) (rest := []) hcf (c_X12_isShelf l cD cy _ r_ S_ hSh a_) (cwV 1 hts gX12_set_X12_isShelf rfl rfl rfl (by decide +kernel) ⟨Nat.le_of_ble_eq_true rfl, Nat.le_of_ble_eq_true rfl⟩) (z_preV (k := 12) hK_ hE hw (mL hSh 0) (mK hSh 0) (by decide) rfl) rfl rfl hl.1 rfl (lv_room (Nat.le_of_ble_eq_true rfl)) dX12_set_2 ⟨Nat.le_of_ble_eq_true rfl, Nat.le_of_ble_eq_true rfl⟩) (fun v1 S2 H_ locs_ hp hw => ?_)
  obtain ⟨hp, rfl⟩ := hp
  rcases hp with ⟨hs3, rfl⟩ | ⟨⟨ha3, hb3⟩, rfl⟩
  · refine lv_if_ne (tgt := 14) hx hb_ dX12_set_5 (by decide) (fun c_5 => absurd c_5 (by decide)) (fun _ => ?_)
    refine lv_aload_n hx hb_ dX12_set_8 rfl (lv_at hl 0 rfl) ?_
    refine lv_iconst (v := (-1)) hx hb_ dX12_set_9 (by decide) ?_
    refine z_ki hw hA (va_runV (As := [.int (-1)]) (rest := []) hcf (c_X12_no l cD cy _ r_ S_ hSh (-1) (by decide) (by decide)) (cwV 1 hts gX12_set_X12_no rfl rfl rfl (by decide +kernel) ⟨Nat.le_of_ble_eq_true rfl, Nat.le_of_ble_eq_true rfl⟩) (z_preV (k := 12) hK_ hE hw (mL hSh 0) (mK hSh 0) (by decide) rfl) rfl rfl hl.1 rfl (lv_room (Nat.le_of_ble_eq_true rfl)) dX12_set_10 ⟨Nat.le_of_ble_eq_true rfl, Nat.le_of_ble_eq_true rfl⟩) (fun v4 S5 H_ locs_ hp hw => ?_)
    obtain ⟨rfl, f6, rfl⟩ := hp
    exact z_iret (ty := .int) (v := (-1)) hcf hr rfl hlk hw (by first | (simp [q_bad, hs3]; done) | (rcases hs3 with q_ | q_ <;> (simp [q_bad, q_]; done)) | (simp_all [q_bad]; done)) dX12_set_13
  · refine lv_if_ne (tgt := 14) hx hb_ dX12_set_5 (by decide) (fun _ => ?_) (fun c_5 => absurd c_5 (by decide))
    refine lv_aload_n hx hb_ dX12_set_14 rfl (lv_at hl 0 rfl) ?_
    refine z_get (k := 12) (i := 7) (j := 1207) (v := .ref (r_ 7)) (ref := "FoldedInHalfModel") (C := RX12) (T := TX12) (N := 56) hcf hK_ hw hin12 (mL hSh 0) (mK hSh 0) rfl (by decide) (by decide) rfl rfl (congrArg va_rf (mP hSh 7)) (List.mem_of_getElem? (i := 1) rfl) (fun _ h_ => h_) dX12_set_15 ?_
    refine lv_iload_n hx hb_ dX12_set_18 rfl (lv_at hl 1 rfl) ?_
    refine z_iald (n := 8) hcf hK_ hw (mL hSh 7) (mK hSh 7) (mN hSh 7) (zx_in ha3 hb3 (by decide)) dX12_set_19 ?_
    refine z_topi (y := 0) (hF.2.2.2.2.2.1 _) ?_
    refine lv_iconst (v := 2) hx hb_ dX12_set_20 (by decide) ?_
    refine lv_icmp_ne (tgt := 31) hx hb_ dX12_set_21 (by decide) (fun _ => ?_) (fun c_21 => absurd c_21 (by decide))
    refine lv_aload_n hx hb_ dX12_set_31 rfl (lv_at hl 0 rfl) ?_
    refine z_get (k := 12) (i := 7) (j := 1207) (v := .ref (r_ 7)) (ref := "FoldedInHalfModel") (C := RX12) (T := TX12) (N := 56) hcf hK_ hw hin12 (mL hSh 0) (mK hSh 0) rfl (by decide) (by decide) rfl rfl (congrArg va_rf (mP hSh 7)) (List.mem_of_getElem? (i := 1) rfl) (fun _ h_ => h_) dX12_set_32 ?_
    refine lv_iload_n hx hb_ dX12_set_35 rfl (lv_at hl 1 rfl) ?_
    refine z_iald (n := 8) hcf hK_ hw (mL hSh 7) (mK hSh 7) (mN hSh 7) (zx_in ha3 hb3 (by decide)) dX12_set_36 ?_
    refine z_topi (y := 0) (hF.2.2.2.2.2.1 _) ?_
    refine lv_if_ne (tgt := 47) hx hb_ dX12_set_37 (by decide) (fun c_37 => absurd c_37 (by decide)) (fun _ => ?_)
    refine lv_aload_n hx hb_ dX12_set_40 rfl (lv_at hl 0 rfl) ?_
    refine lv_bipush (v := (-3)) hx hb_ dX12_set_41 (by decide) ?_
    refine z_ki hw hA (va_runV (As := [.int (-3)]) (rest := []) hcf (c_X12_no l cD cy _ r_ S_ hSh (-3) (by decide) (by decide)) (cwV 1 hts gX12_set_X12_no rfl rfl rfl (by decide +kernel) ⟨Nat.le_of_ble_eq_true rfl, Nat.le_of_ble_eq_true rfl⟩) (z_preV (k := 12) hK_ hE hw (mL hSh 0) (mK hSh 0) (by decide) rfl) rfl rfl hl.1 rfl (lv_room (Nat.le_of_ble_eq_true rfl)) dX12_set_43 ⟨Nat.le_of_ble_eq_true rfl, Nat.le_of_ble_eq_true rfl⟩) (fun v7 S8 H_ locs_ hp hw => ?_)
    obtain ⟨rfl, f9, rfl⟩ := hp
    exact z_iret (ty := .int) (v := (-3)) hcf hr rfl hlk hw (by first | (simp [q_bad, ha3, hb3]; done) | (simp_all [q_bad]; done)) dX12_set_46

set_option maxHeartbeats 4000000 in
set_option maxRecDepth 100000 in
/-- copy on a_ model just made -/
theorem c_X12_copy (l : Launch) (cD : va_G) (cy : Nat → ClassId) (sz_ : Nat) (r_ : Nat → Nat) (S_ : zS) (hSh : ShM S_ r_) (hF : FrM S_ r_) (a_ : Int32) (b_ : Int32) (i_ : Int32) (j_ : Int32) (n_ : Int32) : Met l yX12_copy wsX12_copy ({ frames := 1, cells := 0, slots := 0, locals := 21 } : Room) (va_Pc [.ref (r_ 0), .int a_, .int b_, .int i_, .int j_, .int n_] (zPre cD cy S_ sz_)) (va_Qi (fun (v_ : Int32) (S1 : zS) => v_ = q_copy a_ b_) (zPost cD cy (zAd cy S_ sz_)) (zAd cy S_ sz_)) 0 0 (zAd cy S_ sz_) := by
  refine z_ofW (cc := cX12_copy) (maxL := 7) (ret := (some .int)) (own := RX12) (QQ := fun A_ => va_Qi (fun (v_ : Int32) (S1 : zS) => v_ = q_copy a_ b_) (zPost cD cy A_) A_) (by decide) rfl rfl (Nat.le_of_ble_eq_true rfl) ?_
  intro p_ e_ s_ m_ args_ below_ meth_ c_ A_ ls hcf hr hlk hnm hK_ hE hw hA hl
  obtain ⟨hx, hb_, hml, hown, hts⟩ := id hcf
  have hin12 : ∀ w_ ∈ wsX120, w_ ∈ wsX12_copy := fun w_ h_ => (List.mem_cons_of_mem _ (List.mem_append_right _ h_))
  have hl : lv_has ls 7 [(0, .ref (r_ 0)), (1, .int a_), (2, .int b_), (3, .int i_), (4, .int j_), (5, .int n_)] := hl
  refine lv_aload_n hx hb_ dX12_copy_0 rfl (lv_at hl 0 rfl) ?_
  refine lv_iload_n hx hb_ dX12_copy_1 rfl (lv_at hl 1 rfl) ?_
  refine z_ki hw hA (va_runV (As := [.int a_]) (rest := []) hcf (c_X12_isShelf l cD cy _ r_ S_ hSh a_) (cwV 1 hts gX12_copy_X12_isShelf rfl rfl rfl (by decide +kernel) ⟨Nat.le_of_ble_eq_true rfl, Nat.le_of_ble_eq_true rfl⟩) (z_preV (k := 12) hK_ hE hw (mL hSh 0) (mK hSh 0) (by decide) rfl) rfl rfl hl.1 rfl (lv_room (Nat.le_of_ble_eq_true rfl)) dX12_copy_2 ⟨Nat.le_of_ble_eq_true rfl, Nat.le_of_ble_eq_true rfl⟩) (fun v1 S2 H_ locs_ hp hw => ?_)
  obtain ⟨hp, rfl⟩ := hp
  rcases hp with ⟨hs3, rfl⟩ | ⟨⟨ha3, hb3⟩, rfl⟩
  · refine lv_if_eq (tgt := 16) hx hb_ dX12_copy_5 (by decide) (fun _ => ?_) (fun c_5 => absurd c_5 (by decide))
    refine lv_aload_n hx hb_ dX12_copy_16 rfl (lv_at hl 0 rfl) ?_
    refine lv_iconst (v := (-1)) hx hb_ dX12_copy_17 (by decide) ?_
    refine z_ki hw hA (va_runV (As := [.int (-1)]) (rest := []) hcf (c_X12_no l cD cy _ r_ S_ hSh (-1) (by decide) (by decide)) (cwV 1 hts gX12_copy_X12_no rfl rfl rfl (by decide +kernel) ⟨Nat.le_of_ble_eq_true rfl, Nat.le_of_ble_eq_true rfl⟩) (z_preV (k := 12) hK_ hE hw (mL hSh 0) (mK hSh 0) (by decide) rfl) rfl rfl hl.1 rfl (lv_room (Nat.le_of_ble_eq_true rfl)) dX12_copy_18 ⟨Nat.le_of_ble_eq_true rfl, Nat.le_of_ble_eq_true rfl⟩) (fun v4 S5 H_ locs_ hp hw => ?_)
    obtain ⟨rfl, f6, rfl⟩ := hp
    exact z_iret (ty := .int) (v := (-1)) hcf hr rfl hlk hw (by first | (simp [q_copy, hs3]; done) | (rcases hs3 with q_ | q_ <;> (simp [q_copy, q_]; done)) | (simp_all [q_copy]; done)) dX12_copy_21
  · refine lv_if_eq (tgt := 16) hx hb_ dX12_copy_5 (by decide) (fun c_5 => absurd c_5 (by decide)) (fun _ => ?_)
    refine lv_aload_n hx hb_ dX12_copy_8 rfl (lv_at hl 0 rfl) ?_
    refine lv_iload_n hx hb_ dX12_copy_9 rfl (lv_at hl 2 rfl) ?_
    refine z_ki hw hA (va_runV (As := [.int b_]) (rest := []) hcf (c_X12_isShelf l cD cy _ r_ S_ hSh b_) (cwV 1 hts gX12_copy_X12_isShelf rfl rfl rfl (by decide +kernel) ⟨Nat.le_of_ble_eq_true rfl, Nat.le_of_ble_eq_true rfl⟩) (z_preV (k := 12) hK_ hE hw (mL hSh 0) (mK hSh 0) (by decide) rfl) rfl rfl hl.1 rfl (lv_room (Nat.le_of_ble_eq_true rfl)) dX12_copy_10 ⟨Nat.le_of_ble_eq_true rfl, Nat.le_of_ble_eq_true rfl⟩) (fun v7 S8 H_ locs_ hp hw => ?_)
    obtain ⟨hp, rfl⟩ := hp
    rcases hp with ⟨hs9, rfl⟩ | ⟨⟨ha9, hb9⟩, rfl⟩
    · refine lv_if_ne (tgt := 22) hx hb_ dX12_copy_13 (by decide) (fun c_13 => absurd c_13 (by decide)) (fun _ => ?_)
      refine lv_aload_n hx hb_ dX12_copy_16 rfl (lv_at hl 0 rfl) ?_
      refine lv_iconst (v := (-1)) hx hb_ dX12_copy_17 (by decide) ?_
      refine z_ki hw hA (va_runV (As := [.int (-1)]) (rest := []) hcf (c_X12_no l cD cy _ r_ S_ hSh (-1) (by decide) (by decide)) (cwV 1 hts gX12_copy_X12_no rfl rfl rfl (by decide +kernel) ⟨Nat.le_of_ble_eq_true rfl, Nat.le_of_ble_eq_true rfl⟩) (z_preV (k := 12) hK_ hE hw (mL hSh 0) (mK hSh 0) (by decide) rfl) rfl rfl hl.1 rfl (lv_room (Nat.le_of_ble_eq_true rfl)) dX12_copy_18 ⟨Nat.le_of_ble_eq_true rfl, Nat.le_of_ble_eq_true rfl⟩) (fun v10 S11 H_ locs_ hp hw => ?_)
      obtain ⟨rfl, f12, rfl⟩ := hp
      exact z_iret (ty := .int) (v := (-1)) hcf hr rfl hlk hw (by first | (simp [q_copy, ha3, hb3, hs9]; done) | (rcases hs9 with q_ | q_ <;> (simp [q_copy, q_, ha3, hb3]; done)) | (simp_all [q_copy]; done)) dX12_copy_21
    · refine lv_if_ne (tgt := 22) hx hb_ dX12_copy_13 (by decide) (fun _ => ?_) (fun c_13 => absurd c_13 (by decide))
      refine lv_aload_n hx hb_ dX12_copy_22 rfl (lv_at hl 0 rfl) ?_
      refine z_get (k := 12) (i := 7) (j := 1207) (v := .ref (r_ 7)) (ref := "FoldedInHalfModel") (C := RX12) (T := TX12) (N := 56) hcf hK_ hw hin12 (mL hSh 0) (mK hSh 0) rfl (by decide) (by decide) rfl rfl (congrArg va_rf (mP hSh 7)) (List.mem_of_getElem? (i := 1) rfl) (fun _ h_ => h_) dX12_copy_23 ?_
      refine lv_iload_n hx hb_ dX12_copy_26 rfl (lv_at hl 1 rfl) ?_
      refine z_iald (n := 8) hcf hK_ hw (mL hSh 7) (mK hSh 7) (mN hSh 7) (zx_in ha3 hb3 (by decide)) dX12_copy_27 ?_
      refine z_topi (y := 0) (hF.2.2.2.2.2.1 _) ?_
      refine lv_iconst (v := 2) hx hb_ dX12_copy_28 (by decide) ?_
      refine lv_icmp_eq (tgt := 77) hx hb_ dX12_copy_29 (by decide) (fun c_29 => absurd c_29 (by decide)) (fun _ => ?_)
      refine lv_aload_n hx hb_ dX12_copy_32 rfl (lv_at hl 0 rfl) ?_
      refine z_get (k := 12) (i := 7) (j := 1207) (v := .ref (r_ 7)) (ref := "FoldedInHalfModel") (C := RX12) (T := TX12) (N := 56) hcf hK_ hw hin12 (mL hSh 0) (mK hSh 0) rfl (by decide) (by decide) rfl rfl (congrArg va_rf (mP hSh 7)) (List.mem_of_getElem? (i := 1) rfl) (fun _ h_ => h_) dX12_copy_33 ?_
      refine lv_iload_n hx hb_ dX12_copy_36 rfl (lv_at hl 2 rfl) ?_
      refine z_iald (n := 8) hcf hK_ hw (mL hSh 7) (mK hSh 7) (mN hSh 7) (zx_in ha9 hb9 (by decide)) dX12_copy_37 ?_
      refine z_topi (y := 0) (hF.2.2.2.2.2.1 _) ?_
      refine lv_iconst (v := 2) hx hb_ dX12_copy_38 (by decide) ?_
      refine lv_icmp_eq (tgt := 77) hx hb_ dX12_copy_39 (by decide) (fun c_39 => absurd c_39 (by decide)) (fun _ => ?_)
      refine lv_aload_n hx hb_ dX12_copy_42 rfl (lv_at hl 0 rfl) ?_
      refine z_get (k := 12) (i := 7) (j := 1207) (v := .ref (r_ 7)) (ref := "FoldedInHalfModel") (C := RX12) (T := TX12) (N := 56) hcf hK_ hw hin12 (mL hSh 0) (mK hSh 0) rfl (by decide) (by decide) rfl rfl (congrArg va_rf (mP hSh 7)) (List.mem_of_getElem? (i := 1) rfl) (fun _ h_ => h_) dX12_copy_43 ?_
      refine lv_iload_n hx hb_ dX12_copy_46 rfl (lv_at hl 1 rfl) ?_
      refine z_iald (n := 8) hcf hK_ hw (mL hSh 7) (mK hSh 7) (mN hSh 7) (zx_in ha3 hb3 (by decide)) dX12_copy_47 ?_
      refine z_topi (y := 0) (hF.2.2.2.2.2.1 _) ?_
      refine lv_iconst (v := 1) hx hb_ dX12_copy_48 (by decide) ?_
      refine lv_icmp_ne (tgt := 84) hx hb_ dX12_copy_49 (by decide) (fun _ => ?_) (fun c_49 => absurd c_49 (by decide))
      refine lv_aload_n hx hb_ dX12_copy_84 rfl (lv_at hl 0 rfl) ?_
      refine z_get (k := 12) (i := 7) (j := 1207) (v := .ref (r_ 7)) (ref := "FoldedInHalfModel") (C := RX12) (T := TX12) (N := 56) hcf hK_ hw hin12 (mL hSh 0) (mK hSh 0) rfl (by decide) (by decide) rfl rfl (congrArg va_rf (mP hSh 7)) (List.mem_of_getElem? (i := 1) rfl) (fun _ h_ => h_) dX12_copy_85 ?_
      refine lv_iload_n hx hb_ dX12_copy_88 rfl (lv_at hl 1 rfl) ?_
      refine z_iald (n := 8) hcf hK_ hw (mL hSh 7) (mK hSh 7) (mN hSh 7) (zx_in ha3 hb3 (by decide)) dX12_copy_89 ?_
      refine z_topi (y := 0) (hF.2.2.2.2.2.1 _) ?_
      refine lv_if_eq (tgt := 102) hx hb_ dX12_copy_90 (by decide) (fun _ => ?_) (fun c_90 => absurd c_90 (by decide))
      refine lv_aload_n hx hb_ dX12_copy_102 rfl (lv_at hl 0 rfl) ?_
      refine lv_bipush (v := (-3)) hx hb_ dX12_copy_103 (by decide) ?_
      refine z_ki hw hA (va_runV (As := [.int (-3)]) (rest := []) hcf (c_X12_no l cD cy _ r_ S_ hSh (-3) (by decide) (by decide)) (cwV 1 hts gX12_copy_X12_no rfl rfl rfl (by decide +kernel) ⟨Nat.le_of_ble_eq_true rfl, Nat.le_of_ble_eq_true rfl⟩) (z_preV (k := 12) hK_ hE hw (mL hSh 0) (mK hSh 0) (by decide) rfl) rfl rfl hl.1 rfl (lv_room (Nat.le_of_ble_eq_true rfl)) dX12_copy_105 ⟨Nat.le_of_ble_eq_true rfl, Nat.le_of_ble_eq_true rfl⟩) (fun v13 S14 H_ locs_ hp hw => ?_)
      obtain ⟨rfl, f15, rfl⟩ := hp
      exact z_iret (ty := .int) (v := (-3)) hcf hr rfl hlk hw (by first | (simp [q_copy, ha3, hb3, ha9, hb9]; done) | (simp_all [q_copy]; done)) dX12_copy_108

set_option maxHeartbeats 4000000 in
set_option maxRecDepth 100000 in
/-- element on a_ model just made -/
theorem c_X12_element (l : Launch) (cD : va_G) (cy : Nat → ClassId) (sz_ : Nat) (r_ : Nat → Nat) (S_ : zS) (hSh : ShM S_ r_) (hF : FrM S_ r_) (a_ : Int32) (i_ : Int32) : Met l yX12_element wsX12_element ({ frames := 1, cells := 0, slots := 0, locals := 21 } : Room) (va_Pc [.ref (r_ 0), .int a_, .int i_] (zPre cD cy S_ sz_)) (va_Ql (fun (v_ : Int64) (S1 : zS) => v_ = 0) (zPost cD cy (zAd cy S_ sz_)) (zAd cy S_ sz_)) 0 0 (zAd cy S_ sz_) := by
  refine z_ofW (cc := cX12_element) (maxL := 3) (ret := (some .long)) (own := RX12) (QQ := fun A_ => va_Ql (fun (v_ : Int64) (S1 : zS) => v_ = 0) (zPost cD cy A_) A_) (by decide) rfl rfl (Nat.le_of_ble_eq_true rfl) ?_
  intro p_ e_ s_ m_ args_ below_ meth_ c_ A_ ls hcf hr hlk hnm hK_ hE hw hA hl
  obtain ⟨hx, hb_, hml, hown, hts⟩ := id hcf
  have hin12 : ∀ w_ ∈ wsX120, w_ ∈ wsX12_element := fun w_ h_ => (List.mem_cons_of_mem _ (List.mem_append_right _ h_))
  have hl : lv_has ls 3 [(0, .ref (r_ 0)), (1, .int a_), (2, .int i_)] := hl
  refine lv_aload_n hx hb_ dX12_element_0 rfl (lv_at hl 0 rfl) ?_
  refine lv_iload_n hx hb_ dX12_element_1 rfl (lv_at hl 1 rfl) ?_
  refine z_ki hw hA (va_runV (As := [.int a_]) (rest := []) hcf (c_X12_isShelf l cD cy _ r_ S_ hSh a_) (cwV 1 hts gX12_element_X12_isShelf rfl rfl rfl (by decide +kernel) ⟨Nat.le_of_ble_eq_true rfl, Nat.le_of_ble_eq_true rfl⟩) (z_preV (k := 12) hK_ hE hw (mL hSh 0) (mK hSh 0) (by decide) rfl) rfl rfl hl.1 rfl (lv_room (Nat.le_of_ble_eq_true rfl)) dX12_element_2 ⟨Nat.le_of_ble_eq_true rfl, Nat.le_of_ble_eq_true rfl⟩) (fun v1 S2 H_ locs_ hp hw => ?_)
  obtain ⟨hp, rfl⟩ := hp
  rcases hp with ⟨hs3, rfl⟩ | ⟨⟨ha3, hb3⟩, rfl⟩
  · refine lv_if_eq (tgt := 47) hx hb_ dX12_element_5 (by decide) (fun _ => ?_) (fun c_5 => absurd c_5 (by decide))
    refine lv_lconst (v := 0) hx hb_ dX12_element_47 (by decide) ?_
    exact z_lret (v := 0) hcf hr hlk hw (rfl) dX12_element_48
  · refine lv_if_eq (tgt := 47) hx hb_ dX12_element_5 (by decide) (fun c_5 => absurd c_5 (by decide)) (fun _ => ?_)
    refine lv_aload_n hx hb_ dX12_element_8 rfl (lv_at hl 0 rfl) ?_
    refine z_get (k := 12) (i := 7) (j := 1207) (v := .ref (r_ 7)) (ref := "FoldedInHalfModel") (C := RX12) (T := TX12) (N := 56) hcf hK_ hw hin12 (mL hSh 0) (mK hSh 0) rfl (by decide) (by decide) rfl rfl (congrArg va_rf (mP hSh 7)) (List.mem_of_getElem? (i := 1) rfl) (fun _ h_ => h_) dX12_element_9 ?_
    refine lv_iload_n hx hb_ dX12_element_12 rfl (lv_at hl 1 rfl) ?_
    refine z_iald (n := 8) hcf hK_ hw (mL hSh 7) (mK hSh 7) (mN hSh 7) (zx_in ha3 hb3 (by decide)) dX12_element_13 ?_
    refine z_topi (y := 0) (hF.2.2.2.2.2.1 _) ?_
    refine lv_iconst (v := 1) hx hb_ dX12_element_14 (by decide) ?_
    refine lv_icmp_ne (tgt := 47) hx hb_ dX12_element_15 (by decide) (fun _ => ?_) (fun c_15 => absurd c_15 (by decide))
    refine lv_lconst (v := 0) hx hb_ dX12_element_47 (by decide) ?_
    exact z_lret (v := 0) hcf hr hlk hw (rfl) dX12_element_48

set_option maxHeartbeats 4000000 in
set_option maxRecDepth 100000 in
/-- show on a_ model just made -/
theorem c_X12_show (l : Launch) (cD : va_G) (cy : Nat → ClassId) (sz_ : Nat) (r_ : Nat → Nat) (S_ : zS) (hSh : ShM S_ r_) (hF : FrM S_ r_) (a_ : Int32) (t_ : Int32) : Met l yX12_show wsX12_show ({ frames := 1, cells := 0, slots := 0, locals := 21 } : Room) (va_Pc [.ref (r_ 0), .int a_, .int t_] (zPre cD cy S_ sz_)) (va_Qi (fun (v_ : Int32) (S1 : zS) => v_ = q_show a_ t_) (zPost cD cy (zAd cy S_ sz_)) (zAd cy S_ sz_)) 0 0 (zAd cy S_ sz_) := by
  refine z_ofW (cc := cX12_show) (maxL := 3) (ret := (some .int)) (own := RX12) (QQ := fun A_ => va_Qi (fun (v_ : Int32) (S1 : zS) => v_ = q_show a_ t_) (zPost cD cy A_) A_) (by decide) rfl rfl (Nat.le_of_ble_eq_true rfl) ?_
  intro p_ e_ s_ m_ args_ below_ meth_ c_ A_ ls hcf hr hlk hnm hK_ hE hw hA hl
  obtain ⟨hx, hb_, hml, hown, hts⟩ := id hcf
  have hin12 : ∀ w_ ∈ wsX120, w_ ∈ wsX12_show := fun w_ h_ => (List.mem_cons_of_mem _ (List.mem_append_right _ h_))
  have hl : lv_has ls 3 [(0, .ref (r_ 0)), (1, .int a_), (2, .int t_)] := hl
  refine lv_aload_n hx hb_ dX12_show_0 rfl (lv_at hl 0 rfl) ?_
  refine lv_iload_n hx hb_ dX12_show_1 rfl (lv_at hl 1 rfl) ?_
  refine z_ki hw hA (va_runV (As := [.int a_]) (rest := []) hcf (c_X12_isShelf l cD cy _ r_ S_ hSh a_) (cwV 1 hts gX12_show_X12_isShelf rfl rfl rfl (by decide +kernel) ⟨Nat.le_of_ble_eq_true rfl, Nat.le_of_ble_eq_true rfl⟩) (z_preV (k := 12) hK_ hE hw (mL hSh 0) (mK hSh 0) (by decide) rfl) rfl rfl hl.1 rfl (lv_room (Nat.le_of_ble_eq_true rfl)) dX12_show_2 ⟨Nat.le_of_ble_eq_true rfl, Nat.le_of_ble_eq_true rfl⟩) (fun v1 S2 H_ locs_ hp hw => ?_)
  obtain ⟨hp, rfl⟩ := hp
  rcases hp with ⟨hs3, rfl⟩ | ⟨⟨ha3, hb3⟩, rfl⟩
  · refine lv_if_eq (tgt := 21) hx hb_ dX12_show_5 (by decide) (fun _ => ?_) (fun c_5 => absurd c_5 (by decide))
    refine lv_aload_n hx hb_ dX12_show_21 rfl (lv_at hl 0 rfl) ?_
    refine lv_iconst (v := (-1)) hx hb_ dX12_show_22 (by decide) ?_
    refine z_ki hw hA (va_runV (As := [.int (-1)]) (rest := []) hcf (c_X12_no l cD cy _ r_ S_ hSh (-1) (by decide) (by decide)) (cwV 1 hts gX12_show_X12_no rfl rfl rfl (by decide +kernel) ⟨Nat.le_of_ble_eq_true rfl, Nat.le_of_ble_eq_true rfl⟩) (z_preV (k := 12) hK_ hE hw (mL hSh 0) (mK hSh 0) (by decide) rfl) rfl rfl hl.1 rfl (lv_room (Nat.le_of_ble_eq_true rfl)) dX12_show_23 ⟨Nat.le_of_ble_eq_true rfl, Nat.le_of_ble_eq_true rfl⟩) (fun v4 S5 H_ locs_ hp hw => ?_)
    obtain ⟨rfl, f6, rfl⟩ := hp
    exact z_iret (ty := .int) (v := (-1)) hcf hr rfl hlk hw (by first | (simp [q_show, hs3]; done) | (rcases hs3 with q_ | q_ <;> (simp [q_show, q_]; done)) | (simp_all [q_show]; done)) dX12_show_26
  · refine lv_if_eq (tgt := 21) hx hb_ dX12_show_5 (by decide) (fun c_5 => absurd c_5 (by decide)) (fun _ => ?_)
    refine lv_iload_n hx hb_ dX12_show_8 rfl (lv_at hl 2 rfl) ?_
    refine lv_iconst (v := (-1)) hx hb_ dX12_show_9 (by decide) ?_
    refine lv_icmp_eq (tgt := 27) hx hb_ dX12_show_10 (by decide) (fun c_10 => ?_) (fun c_10 => ?_)
    · refine lv_aload_n hx hb_ dX12_show_27 rfl (lv_at hl 0 rfl) ?_
      refine z_get (k := 12) (i := 7) (j := 1207) (v := .ref (r_ 7)) (ref := "FoldedInHalfModel") (C := RX12) (T := TX12) (N := 56) hcf hK_ hw hin12 (mL hSh 0) (mK hSh 0) rfl (by decide) (by decide) rfl rfl (congrArg va_rf (mP hSh 7)) (List.mem_of_getElem? (i := 1) rfl) (fun _ h_ => h_) dX12_show_28 ?_
      refine lv_iload_n hx hb_ dX12_show_31 rfl (lv_at hl 1 rfl) ?_
      refine lv_iload_n hx hb_ dX12_show_32 rfl (lv_at hl 2 rfl) ?_
      refine lv_iconst (v := (-1)) hx hb_ dX12_show_33 (by decide) ?_
      refine lv_icmp_ne (tgt := 41) hx hb_ dX12_show_34 (by decide) (fun c_34 => ?_) (fun c_34 => ?_)
      · refine lv_iconst (v := 2) hx hb_ dX12_show_41 (by decide) ?_
        refine z_iast (n := 8) hcf hK_ hw (mL hSh 7) (mK hSh 7) (mN hSh 7) (zx_in ha3 hb3 (by decide)) dX12_show_42 (fun H_ locs_ hw => ?_)
        refine lv_aload_n hx hb_ dX12_show_43 rfl (lv_at hl 0 rfl) ?_
        refine z_get (k := 12) (i := 10) (j := 1210) (v := .ref (r_ 10)) (ref := "FoldedInHalfModel") (C := RX12) (T := TX12) (N := 56) hcf hK_ hw hin12 (mL hSh 0) (mK hSh 0) rfl (by decide) (by decide) rfl rfl (congrArg va_rf (mP hSh 10)) (List.mem_of_getElem? (i := 2) rfl) (fun _ h_ => h_) dX12_show_44 ?_
        refine lv_iload_n hx hb_ dX12_show_47 rfl (lv_at hl 1 rfl) ?_
        refine lv_iload_n hx hb_ dX12_show_48 rfl (lv_at hl 2 rfl) ?_
        refine z_iast (n := 8) hcf hK_ hw (mL hSh 10) (mK hSh 10) (mN hSh 10) (zx_in ha3 hb3 (by decide)) dX12_show_49 (fun H_ locs_ hw => ?_)
        refine lv_iload_n hx hb_ dX12_show_50 rfl (lv_at hl 2 rfl) ?_
        refine lv_iconst (v := (-1)) hx hb_ dX12_show_51 (by decide) ?_
        refine lv_icmp_ne (tgt := 59) hx hb_ dX12_show_52 (by decide) (fun c_52 => ?_) (fun c_52 => ?_)
        · refine lv_iconst (v := 1) hx hb_ dX12_show_59 (by decide) ?_
          exact z_iret (ty := .int) (v := 1) hcf hr rfl hlk hw (by first | (simp [q_show, ha3, hb3, c_10, c_34, c_52]; done) | (simp_all [q_show]; done)) dX12_show_60
        · refine lv_iconst (v := 0) hx hb_ dX12_show_55 (by decide) ?_
          refine lv_goto (tgt := 60) hx hb_ dX12_show_56 (by decide) ?_
          exact z_iret (ty := .int) (v := 0) hcf hr rfl hlk hw (by first | (simp [q_show, ha3, hb3, c_10, c_34, c_52]; done) | (simp_all [q_show]; done)) dX12_show_60
      · refine lv_iconst (v := 0) hx hb_ dX12_show_37 (by decide) ?_
        refine lv_goto (tgt := 42) hx hb_ dX12_show_38 (by decide) ?_
        refine z_iast (n := 8) hcf hK_ hw (mL hSh 7) (mK hSh 7) (mN hSh 7) (zx_in ha3 hb3 (by decide)) dX12_show_42 (fun H_ locs_ hw => ?_)
        refine lv_aload_n hx hb_ dX12_show_43 rfl (lv_at hl 0 rfl) ?_
        refine z_get (k := 12) (i := 10) (j := 1210) (v := .ref (r_ 10)) (ref := "FoldedInHalfModel") (C := RX12) (T := TX12) (N := 56) hcf hK_ hw hin12 (mL hSh 0) (mK hSh 0) rfl (by decide) (by decide) rfl rfl (congrArg va_rf (mP hSh 10)) (List.mem_of_getElem? (i := 2) rfl) (fun _ h_ => h_) dX12_show_44 ?_
        refine lv_iload_n hx hb_ dX12_show_47 rfl (lv_at hl 1 rfl) ?_
        refine lv_iload_n hx hb_ dX12_show_48 rfl (lv_at hl 2 rfl) ?_
        refine z_iast (n := 8) hcf hK_ hw (mL hSh 10) (mK hSh 10) (mN hSh 10) (zx_in ha3 hb3 (by decide)) dX12_show_49 (fun H_ locs_ hw => ?_)
        refine lv_iload_n hx hb_ dX12_show_50 rfl (lv_at hl 2 rfl) ?_
        refine lv_iconst (v := (-1)) hx hb_ dX12_show_51 (by decide) ?_
        refine lv_icmp_ne (tgt := 59) hx hb_ dX12_show_52 (by decide) (fun c_52 => ?_) (fun c_52 => ?_)
        · refine lv_iconst (v := 1) hx hb_ dX12_show_59 (by decide) ?_
          exact z_iret (ty := .int) (v := 1) hcf hr rfl hlk hw (by first | (simp [q_show, ha3, hb3, c_10, c_34, c_52]; done) | (simp_all [q_show]; done)) dX12_show_60
        · refine lv_iconst (v := 0) hx hb_ dX12_show_55 (by decide) ?_
          refine lv_goto (tgt := 60) hx hb_ dX12_show_56 (by decide) ?_
          exact z_iret (ty := .int) (v := 0) hcf hr rfl hlk hw (by first | (simp [q_show, ha3, hb3, c_10, c_34, c_52]; done) | (simp_all [q_show]; done)) dX12_show_60
    · refine lv_aload_n hx hb_ dX12_show_13 rfl (lv_at hl 0 rfl) ?_
      refine lv_iload_n hx hb_ dX12_show_14 rfl (lv_at hl 2 rfl) ?_
      refine z_ki hw hA (va_runV (As := [.int t_]) (rest := []) hcf (c_X12_isStrip l cD cy _ r_ S_ hSh hF.1 t_) (cwV 1 hts gX12_show_X12_isStrip rfl rfl rfl (by decide +kernel) ⟨Nat.le_of_ble_eq_true rfl, Nat.le_of_ble_eq_true rfl⟩) (z_preV (k := 12) hK_ hE hw (mL hSh 0) (mK hSh 0) (by decide) rfl) rfl rfl hl.1 rfl (lv_room (Nat.le_of_ble_eq_true rfl)) dX12_show_15 ⟨Nat.le_of_ble_eq_true rfl, Nat.le_of_ble_eq_true rfl⟩) (fun v7 S8 H_ locs_ hp hw => ?_)
      obtain ⟨rfl, rfl⟩ := hp
      refine lv_if_ne (tgt := 27) hx hb_ dX12_show_18 (by decide) (fun c_18 => absurd c_18 (by decide)) (fun _ => ?_)
      refine lv_aload_n hx hb_ dX12_show_21 rfl (lv_at hl 0 rfl) ?_
      refine lv_iconst (v := (-1)) hx hb_ dX12_show_22 (by decide) ?_
      refine z_ki hw hA (va_runV (As := [.int (-1)]) (rest := []) hcf (c_X12_no l cD cy _ r_ S_ hSh (-1) (by decide) (by decide)) (cwV 1 hts gX12_show_X12_no rfl rfl rfl (by decide +kernel) ⟨Nat.le_of_ble_eq_true rfl, Nat.le_of_ble_eq_true rfl⟩) (z_preV (k := 12) hK_ hE hw (mL hSh 0) (mK hSh 0) (by decide) rfl) rfl rfl hl.1 rfl (lv_room (Nat.le_of_ble_eq_true rfl)) dX12_show_23 ⟨Nat.le_of_ble_eq_true rfl, Nat.le_of_ble_eq_true rfl⟩) (fun v9 S10 H_ locs_ hp hw => ?_)
      obtain ⟨rfl, f11, rfl⟩ := hp
      exact z_iret (ty := .int) (v := (-1)) hcf hr rfl hlk hw (by first | (simp [q_show, ha3, hb3, c_10]; done) | (simp_all [q_show]; done)) dX12_show_26

set_option maxHeartbeats 4000000 in
set_option maxRecDepth 100000 in
/-- holds on a_ model just made -/
theorem c_X12_holds (l : Launch) (cD : va_G) (cy : Nat → ClassId) (sz_ : Nat) (r_ : Nat → Nat) (S_ : zS) (hSh : ShM S_ r_) (hF : FrM S_ r_) (a_ : Int32) : Met l yX12_holds wsX12_holds ({ frames := 1, cells := 0, slots := 0, locals := 21 } : Room) (va_Pc [.ref (r_ 0), .int a_] (zPre cD cy S_ sz_)) (va_Qi (fun (v_ : Int32) (S1 : zS) => v_ = -1) (zPost cD cy (zAd cy S_ sz_)) (zAd cy S_ sz_)) 0 0 (zAd cy S_ sz_) := by
  refine z_ofW (cc := cX12_holds) (maxL := 2) (ret := (some .int)) (own := RX12) (QQ := fun A_ => va_Qi (fun (v_ : Int32) (S1 : zS) => v_ = -1) (zPost cD cy A_) A_) (by decide) rfl rfl (Nat.le_of_ble_eq_true rfl) ?_
  intro p_ e_ s_ m_ args_ below_ meth_ c_ A_ ls hcf hr hlk hnm hK_ hE hw hA hl
  obtain ⟨hx, hb_, hml, hown, hts⟩ := id hcf
  have hin12 : ∀ w_ ∈ wsX120, w_ ∈ wsX12_holds := fun w_ h_ => (List.mem_cons_of_mem _ (List.mem_append_right _ h_))
  have hl : lv_has ls 2 [(0, .ref (r_ 0)), (1, .int a_)] := hl
  refine lv_aload_n hx hb_ dX12_holds_0 rfl (lv_at hl 0 rfl) ?_
  refine lv_iload_n hx hb_ dX12_holds_1 rfl (lv_at hl 1 rfl) ?_
  refine z_ki hw hA (va_runV (As := [.int a_]) (rest := []) hcf (c_X12_isShelf l cD cy _ r_ S_ hSh a_) (cwV 1 hts gX12_holds_X12_isShelf rfl rfl rfl (by decide +kernel) ⟨Nat.le_of_ble_eq_true rfl, Nat.le_of_ble_eq_true rfl⟩) (z_preV (k := 12) hK_ hE hw (mL hSh 0) (mK hSh 0) (by decide) rfl) rfl rfl hl.1 rfl (lv_room (Nat.le_of_ble_eq_true rfl)) dX12_holds_2 ⟨Nat.le_of_ble_eq_true rfl, Nat.le_of_ble_eq_true rfl⟩) (fun v1 S2 H_ locs_ hp hw => ?_)
  obtain ⟨hp, rfl⟩ := hp
  rcases hp with ⟨hs3, rfl⟩ | ⟨⟨ha3, hb3⟩, rfl⟩
  · refine lv_if_eq (tgt := 17) hx hb_ dX12_holds_5 (by decide) (fun _ => ?_) (fun c_5 => absurd c_5 (by decide))
    refine lv_iconst (v := (-1)) hx hb_ dX12_holds_17 (by decide) ?_
    exact z_iret (ty := .int) (v := (-1)) hcf hr rfl hlk hw (rfl) dX12_holds_18
  · refine lv_if_eq (tgt := 17) hx hb_ dX12_holds_5 (by decide) (fun c_5 => absurd c_5 (by decide)) (fun _ => ?_)
    refine lv_aload_n hx hb_ dX12_holds_8 rfl (lv_at hl 0 rfl) ?_
    refine z_get (k := 12) (i := 7) (j := 1207) (v := .ref (r_ 7)) (ref := "FoldedInHalfModel") (C := RX12) (T := TX12) (N := 56) hcf hK_ hw hin12 (mL hSh 0) (mK hSh 0) rfl (by decide) (by decide) rfl rfl (congrArg va_rf (mP hSh 7)) (List.mem_of_getElem? (i := 1) rfl) (fun _ h_ => h_) dX12_holds_9 ?_
    refine lv_iload_n hx hb_ dX12_holds_12 rfl (lv_at hl 1 rfl) ?_
    refine z_iald (n := 8) hcf hK_ hw (mL hSh 7) (mK hSh 7) (mN hSh 7) (zx_in ha3 hb3 (by decide)) dX12_holds_13 ?_
    refine z_topi (y := 0) (hF.2.2.2.2.2.1 _) ?_
    refine lv_if_ne (tgt := 19) hx hb_ dX12_holds_14 (by decide) (fun c_14 => absurd c_14 (by decide)) (fun _ => ?_)
    refine lv_iconst (v := (-1)) hx hb_ dX12_holds_17 (by decide) ?_
    exact z_iret (ty := .int) (v := (-1)) hcf hr rfl hlk hw (rfl) dX12_holds_18

set_option maxHeartbeats 4000000 in
set_option maxRecDepth 100000 in
/-- says on a_ model just made -/
theorem c_X12_says (l : Launch) (cD : va_G) (cy : Nat → ClassId) (sz_ : Nat) (r_ : Nat → Nat) (S_ : zS) (hSh : ShM S_ r_) (hF : FrM S_ r_) (a_ : Int32) (k_ : Int32) : Met l yX12_says wsX12_says ({ frames := 1, cells := 0, slots := 0, locals := 21 } : Room) (va_Pc [.ref (r_ 0), .int a_, .int k_] (zPre cD cy S_ sz_)) (va_Qi (fun (v_ : Int32) (S1 : zS) => v_ = q_says a_ k_) (zPost cD cy (zAd cy S_ sz_)) (zAd cy S_ sz_)) 0 0 (zAd cy S_ sz_) := by
  refine z_ofW (cc := cX12_says) (maxL := 5) (ret := (some .int)) (own := RX12) (QQ := fun A_ => va_Qi (fun (v_ : Int32) (S1 : zS) => v_ = q_says a_ k_) (zPost cD cy A_) A_) (by decide) rfl rfl (Nat.le_of_ble_eq_true rfl) ?_
  intro p_ e_ s_ m_ args_ below_ meth_ c_ A_ ls hcf hr hlk hnm hK_ hE hw hA hl
  obtain ⟨hx, hb_, hml, hown, hts⟩ := id hcf
  have hin12 : ∀ w_ ∈ wsX120, w_ ∈ wsX12_says := fun w_ h_ => (List.mem_cons_of_mem _ (List.mem_append_right _ h_))
  have hl : lv_has ls 5 [(0, .ref (r_ 0)), (1, .int a_), (2, .int k_)] := hl
  refine lv_aload_n hx hb_ dX12_says_0 rfl (lv_at hl 0 rfl) ?_
  refine lv_iload_n hx hb_ dX12_says_1 rfl (lv_at hl 1 rfl) ?_
  refine z_ki hw hA (va_runV (As := [.int a_]) (rest := []) hcf (c_X12_isShelf l cD cy _ r_ S_ hSh a_) (cwV 1 hts gX12_says_X12_isShelf rfl rfl rfl (by decide +kernel) ⟨Nat.le_of_ble_eq_true rfl, Nat.le_of_ble_eq_true rfl⟩) (z_preV (k := 12) hK_ hE hw (mL hSh 0) (mK hSh 0) (by decide) rfl) rfl rfl hl.1 rfl (lv_room (Nat.le_of_ble_eq_true rfl)) dX12_says_2 ⟨Nat.le_of_ble_eq_true rfl, Nat.le_of_ble_eq_true rfl⟩) (fun v1 S2 H_ locs_ hp hw => ?_)
  obtain ⟨hp, rfl⟩ := hp
  rcases hp with ⟨hs3, rfl⟩ | ⟨⟨ha3, hb3⟩, rfl⟩
  · refine lv_if_eq (tgt := 18) hx hb_ dX12_says_5 (by decide) (fun _ => ?_) (fun c_5 => absurd c_5 (by decide))
    refine lv_aload_n hx hb_ dX12_says_18 rfl (lv_at hl 0 rfl) ?_
    refine lv_iconst (v := (-1)) hx hb_ dX12_says_19 (by decide) ?_
    refine z_ki hw hA (va_runV (As := [.int (-1)]) (rest := []) hcf (c_X12_no l cD cy _ r_ S_ hSh (-1) (by decide) (by decide)) (cwV 1 hts gX12_says_X12_no rfl rfl rfl (by decide +kernel) ⟨Nat.le_of_ble_eq_true rfl, Nat.le_of_ble_eq_true rfl⟩) (z_preV (k := 12) hK_ hE hw (mL hSh 0) (mK hSh 0) (by decide) rfl) rfl rfl hl.1 rfl (lv_room (Nat.le_of_ble_eq_true rfl)) dX12_says_20 ⟨Nat.le_of_ble_eq_true rfl, Nat.le_of_ble_eq_true rfl⟩) (fun v4 S5 H_ locs_ hp hw => ?_)
    obtain ⟨rfl, f6, rfl⟩ := hp
    exact z_iret (ty := .int) (v := (-1)) hcf hr rfl hlk hw (by first | (simp [q_says, hs3]; done) | (rcases hs3 with q_ | q_ <;> (simp [q_says, q_]; done)) | (simp_all [q_says]; done)) dX12_says_23
  · refine lv_if_eq (tgt := 18) hx hb_ dX12_says_5 (by decide) (fun c_5 => absurd c_5 (by decide)) (fun _ => ?_)
    refine lv_iload_n hx hb_ dX12_says_8 rfl (lv_at hl 2 rfl) ?_
    refine lv_if_lt (tgt := 18) hx hb_ dX12_says_9 (by decide) (fun c_9 => ?_) (fun c_9 => ?_)
    · refine lv_aload_n hx hb_ dX12_says_18 rfl (lv_at hl 0 rfl) ?_
      refine lv_iconst (v := (-1)) hx hb_ dX12_says_19 (by decide) ?_
      refine z_ki hw hA (va_runV (As := [.int (-1)]) (rest := []) hcf (c_X12_no l cD cy _ r_ S_ hSh (-1) (by decide) (by decide)) (cwV 1 hts gX12_says_X12_no rfl rfl rfl (by decide +kernel) ⟨Nat.le_of_ble_eq_true rfl, Nat.le_of_ble_eq_true rfl⟩) (z_preV (k := 12) hK_ hE hw (mL hSh 0) (mK hSh 0) (by decide) rfl) rfl rfl hl.1 rfl (lv_room (Nat.le_of_ble_eq_true rfl)) dX12_says_20 ⟨Nat.le_of_ble_eq_true rfl, Nat.le_of_ble_eq_true rfl⟩) (fun v7 S8 H_ locs_ hp hw => ?_)
      obtain ⟨rfl, f9, rfl⟩ := hp
      exact z_iret (ty := .int) (v := (-1)) hcf hr rfl hlk hw (by first | (simp [q_says, ha3, hb3, c_9]; done) | (simp_all [q_says]; done)) dX12_says_23
    · refine lv_iload_n hx hb_ dX12_says_12 rfl (lv_at hl 2 rfl) ?_
      refine lv_bipush (v := 6) hx hb_ dX12_says_13 (by decide) ?_
      refine lv_icmp_le (tgt := 24) hx hb_ dX12_says_15 (by decide) (fun c_15 => ?_) (fun c_15 => ?_)
      · refine lv_aload_n hx hb_ dX12_says_24 rfl (lv_at hl 0 rfl) ?_
        refine z_get (k := 12) (i := 7) (j := 1207) (v := .ref (r_ 7)) (ref := "FoldedInHalfModel") (C := RX12) (T := TX12) (N := 56) hcf hK_ hw hin12 (mL hSh 0) (mK hSh 0) rfl (by decide) (by decide) rfl rfl (congrArg va_rf (mP hSh 7)) (List.mem_of_getElem? (i := 1) rfl) (fun _ h_ => h_) dX12_says_25 ?_
        refine lv_iload_n hx hb_ dX12_says_28 rfl (lv_at hl 1 rfl) ?_
        refine z_iald (n := 8) hcf hK_ hw (mL hSh 7) (mK hSh 7) (mN hSh 7) (zx_in ha3 hb3 (by decide)) dX12_says_29 ?_
        refine z_topi (y := 0) (hF.2.2.2.2.2.1 _) ?_
        refine lv_iconst (v := 1) hx hb_ dX12_says_30 (by decide) ?_
        refine lv_icmp_ne (tgt := 41) hx hb_ dX12_says_31 (by decide) (fun _ => ?_) (fun c_31 => absurd c_31 (by decide))
        refine lv_aload_n hx hb_ dX12_says_41 rfl (lv_at hl 0 rfl) ?_
        refine z_get (k := 12) (i := 7) (j := 1207) (v := .ref (r_ 7)) (ref := "FoldedInHalfModel") (C := RX12) (T := TX12) (N := 56) hcf hK_ hw hin12 (mL hSh 0) (mK hSh 0) rfl (by decide) (by decide) rfl rfl (congrArg va_rf (mP hSh 7)) (List.mem_of_getElem? (i := 1) rfl) (fun _ h_ => h_) dX12_says_42 ?_
        refine lv_iload_n hx hb_ dX12_says_45 rfl (lv_at hl 1 rfl) ?_
        refine z_iald (n := 8) hcf hK_ hw (mL hSh 7) (mK hSh 7) (mN hSh 7) (zx_in ha3 hb3 (by decide)) dX12_says_46 ?_
        refine z_topi (y := 0) (hF.2.2.2.2.2.1 _) ?_
        refine lv_if_ne (tgt := 57) hx hb_ dX12_says_47 (by decide) (fun c_47 => absurd c_47 (by decide)) (fun _ => ?_)
        refine lv_aload_n hx hb_ dX12_says_50 rfl (lv_at hl 0 rfl) ?_
        refine lv_bipush (v := (-3)) hx hb_ dX12_says_51 (by decide) ?_
        refine z_ki hw hA (va_runV (As := [.int (-3)]) (rest := []) hcf (c_X12_no l cD cy _ r_ S_ hSh (-3) (by decide) (by decide)) (cwV 1 hts gX12_says_X12_no rfl rfl rfl (by decide +kernel) ⟨Nat.le_of_ble_eq_true rfl, Nat.le_of_ble_eq_true rfl⟩) (z_preV (k := 12) hK_ hE hw (mL hSh 0) (mK hSh 0) (by decide) rfl) rfl rfl hl.1 rfl (lv_room (Nat.le_of_ble_eq_true rfl)) dX12_says_53 ⟨Nat.le_of_ble_eq_true rfl, Nat.le_of_ble_eq_true rfl⟩) (fun v10 S11 H_ locs_ hp hw => ?_)
        obtain ⟨rfl, f12, rfl⟩ := hp
        exact z_iret (ty := .int) (v := (-3)) hcf hr rfl hlk hw (by first | (simp [q_says, ha3, hb3, c_9, c_15]; done) | (simp_all [q_says]; done)) dX12_says_56
      · refine lv_aload_n hx hb_ dX12_says_18 rfl (lv_at hl 0 rfl) ?_
        refine lv_iconst (v := (-1)) hx hb_ dX12_says_19 (by decide) ?_
        refine z_ki hw hA (va_runV (As := [.int (-1)]) (rest := []) hcf (c_X12_no l cD cy _ r_ S_ hSh (-1) (by decide) (by decide)) (cwV 1 hts gX12_says_X12_no rfl rfl rfl (by decide +kernel) ⟨Nat.le_of_ble_eq_true rfl, Nat.le_of_ble_eq_true rfl⟩) (z_preV (k := 12) hK_ hE hw (mL hSh 0) (mK hSh 0) (by decide) rfl) rfl rfl hl.1 rfl (lv_room (Nat.le_of_ble_eq_true rfl)) dX12_says_20 ⟨Nat.le_of_ble_eq_true rfl, Nat.le_of_ble_eq_true rfl⟩) (fun v13 S14 H_ locs_ hp hw => ?_)
        obtain ⟨rfl, f15, rfl⟩ := hp
        exact z_iret (ty := .int) (v := (-1)) hcf hr rfl hlk hw (by first | (simp [q_says, ha3, hb3, c_9, c_15]; done) | (simp_all [q_says]; done)) dX12_says_23

set_option maxHeartbeats 4000000 in
set_option maxRecDepth 100000 in
/-- strip on a_ model just made -/
theorem c_X12_strip (l : Launch) (cD : va_G) (cy : Nat → ClassId) (sz_ : Nat) (r_ : Nat → Nat) (S_ : zS) (hSh : ShM S_ r_) (hF : FrM S_ r_) (k_ : Int32) (x_ : Int32) (a_ : Int32) (n_ : Int32) : Met l yX12_strip wsX12_strip ({ frames := 3, cells := 0, slots := 0, locals := 65 } : Room) (va_Pc [.ref (r_ 0), .int k_, .int x_, .int a_, .int n_] (zPre cD cy S_ sz_)) (va_Qi (fun (v_ : Int32) (S1 : zS) => v_ = q_says a_ k_) (zPost cD cy (zAd cy S_ sz_)) (zAd cy S_ sz_)) 0 0 (zAd cy S_ sz_) := by
  refine z_ofW (cc := cX12_strip) (maxL := 9) (ret := (some .int)) (own := RX12) (QQ := fun A_ => va_Qi (fun (v_ : Int32) (S1 : zS) => v_ = q_says a_ k_) (zPost cD cy A_) A_) (by decide) rfl rfl (Nat.le_of_ble_eq_true rfl) ?_
  intro p_ e_ s_ m_ args_ below_ meth_ c_ A_ ls hcf hr hlk hnm hK_ hE hw hA hl
  obtain ⟨hx, hb_, hml, hown, hts⟩ := id hcf
  have hl : lv_has ls 9 [(0, .ref (r_ 0)), (1, .int k_), (2, .int x_), (3, .int a_), (4, .int n_)] := hl
  refine lv_aload_n hx hb_ dX12_strip_0 rfl (lv_at hl 0 rfl) ?_
  refine lv_iload_n hx hb_ dX12_strip_1 rfl (lv_at hl 3 rfl) ?_
  refine z_ki hw hA (va_runV (As := [.int a_]) (rest := []) hcf (c_X12_isShelf l cD cy _ r_ S_ hSh a_) (cwV 1 hts gX12_strip_X12_isShelf rfl rfl rfl (by decide +kernel) ⟨Nat.le_of_ble_eq_true rfl, Nat.le_of_ble_eq_true rfl⟩) (z_preV (k := 12) hK_ hE hw (mL hSh 0) (mK hSh 0) (by decide) rfl) rfl rfl hl.1 rfl (lv_room (Nat.le_of_ble_eq_true rfl)) dX12_strip_2 ⟨Nat.le_of_ble_eq_true rfl, Nat.le_of_ble_eq_true rfl⟩) (fun v1 S2 H_ locs_ hp hw => ?_)
  obtain ⟨hp, rfl⟩ := hp
  rcases hp with ⟨hs3, rfl⟩ | ⟨⟨ha3, hb3⟩, rfl⟩
  · refine lv_if_eq (tgt := 18) hx hb_ dX12_strip_5 (by decide) (fun _ => ?_) (fun c_5 => absurd c_5 (by decide))
    refine lv_aload_n hx hb_ dX12_strip_18 rfl (lv_at hl 0 rfl) ?_
    refine lv_iconst (v := (-1)) hx hb_ dX12_strip_19 (by decide) ?_
    refine z_ki hw hA (va_runV (As := [.int (-1)]) (rest := []) hcf (c_X12_no l cD cy _ r_ S_ hSh (-1) (by decide) (by decide)) (cwV 1 hts gX12_strip_X12_no rfl rfl rfl (by decide +kernel) ⟨Nat.le_of_ble_eq_true rfl, Nat.le_of_ble_eq_true rfl⟩) (z_preV (k := 12) hK_ hE hw (mL hSh 0) (mK hSh 0) (by decide) rfl) rfl rfl hl.1 rfl (lv_room (Nat.le_of_ble_eq_true rfl)) dX12_strip_20 ⟨Nat.le_of_ble_eq_true rfl, Nat.le_of_ble_eq_true rfl⟩) (fun v4 S5 H_ locs_ hp hw => ?_)
    obtain ⟨rfl, f6, rfl⟩ := hp
    exact z_iret (ty := .int) (v := (-1)) hcf hr rfl hlk hw (by first | (simp [q_says, hs3]; done) | (rcases hs3 with q_ | q_ <;> (simp [q_says, q_]; done)) | (simp_all [q_says]; done)) dX12_strip_23
  · refine lv_if_eq (tgt := 18) hx hb_ dX12_strip_5 (by decide) (fun c_5 => absurd c_5 (by decide)) (fun _ => ?_)
    refine lv_iload_n hx hb_ dX12_strip_8 rfl (lv_at hl 1 rfl) ?_
    refine lv_if_lt (tgt := 18) hx hb_ dX12_strip_9 (by decide) (fun c_9 => ?_) (fun c_9 => ?_)
    · refine lv_aload_n hx hb_ dX12_strip_18 rfl (lv_at hl 0 rfl) ?_
      refine lv_iconst (v := (-1)) hx hb_ dX12_strip_19 (by decide) ?_
      refine z_ki hw hA (va_runV (As := [.int (-1)]) (rest := []) hcf (c_X12_no l cD cy _ r_ S_ hSh (-1) (by decide) (by decide)) (cwV 1 hts gX12_strip_X12_no rfl rfl rfl (by decide +kernel) ⟨Nat.le_of_ble_eq_true rfl, Nat.le_of_ble_eq_true rfl⟩) (z_preV (k := 12) hK_ hE hw (mL hSh 0) (mK hSh 0) (by decide) rfl) rfl rfl hl.1 rfl (lv_room (Nat.le_of_ble_eq_true rfl)) dX12_strip_20 ⟨Nat.le_of_ble_eq_true rfl, Nat.le_of_ble_eq_true rfl⟩) (fun v7 S8 H_ locs_ hp hw => ?_)
      obtain ⟨rfl, f9, rfl⟩ := hp
      exact z_iret (ty := .int) (v := (-1)) hcf hr rfl hlk hw (by first | (simp [q_says, ha3, hb3, c_9]; done) | (simp_all [q_says]; done)) dX12_strip_23
    · refine lv_iload_n hx hb_ dX12_strip_12 rfl (lv_at hl 1 rfl) ?_
      refine lv_bipush (v := 6) hx hb_ dX12_strip_13 (by decide) ?_
      refine lv_icmp_le (tgt := 24) hx hb_ dX12_strip_15 (by decide) (fun c_15 => ?_) (fun c_15 => ?_)
      · refine lv_aload_n hx hb_ dX12_strip_24 rfl (lv_at hl 0 rfl) ?_
        refine lv_iload_n hx hb_ dX12_strip_25 rfl (lv_at hl 3 rfl) ?_
        refine lv_iload hx hb_ dX12_strip_26 (lv_at hl 4 rfl) ?_
        refine z_ki hw hA (va_runV (As := [.int a_, .int n_]) (rest := []) hcf (c_X12_bars l cD cy _ r_ S_ hSh hF a_ n_) (cwV 2 hts gX12_strip_X12_bars rfl rfl rfl (by decide +kernel) ⟨Nat.le_of_ble_eq_true rfl, Nat.le_of_ble_eq_true rfl⟩) (z_preV (k := 12) hK_ hE hw (mL hSh 0) (mK hSh 0) (by decide) rfl) rfl rfl hl.1 rfl (lv_room (Nat.le_of_ble_eq_true rfl)) dX12_strip_28 ⟨Nat.le_of_ble_eq_true rfl, Nat.le_of_ble_eq_true rfl⟩) (fun v10 S11 H_ locs_ hp hw => ?_)
        obtain ⟨hp, rfl⟩ := hp
        rcases hp with ⟨hs12, rfl⟩ | ⟨⟨ha12, hb12⟩, rfl⟩
        · refine lv_istore (lv' := [(5, .int (-1)), (0, .ref (r_ 0)), (1, .int k_), (2, .int x_), (3, .int a_), (4, .int n_)]) hx hb_ dX12_strip_31 hl (by decide) rfl (fun ls hl => ?_)
          refine lv_iload hx hb_ dX12_strip_33 (lv_at hl 0 rfl) ?_
          refine lv_if_eq (tgt := 45) hx hb_ dX12_strip_35 (by decide) (fun c_35 => absurd c_35 (by decide)) (fun _ => ?_)
          refine lv_aload_n hx hb_ dX12_strip_38 rfl (lv_at hl 1 rfl) ?_
          refine lv_iload hx hb_ dX12_strip_39 (lv_at hl 0 rfl) ?_
          refine z_ki hw hA (va_runV (As := [.int (-1)]) (rest := []) hcf (c_X12_no l cD cy _ r_ S_ hSh (-1) (by decide) (by decide)) (cwV 1 hts gX12_strip_X12_no rfl rfl rfl (by decide +kernel) ⟨Nat.le_of_ble_eq_true rfl, Nat.le_of_ble_eq_true rfl⟩) (z_preV (k := 12) hK_ hE hw (mL hSh 0) (mK hSh 0) (by decide) rfl) rfl rfl hl.1 rfl (lv_room (Nat.le_of_ble_eq_true rfl)) dX12_strip_41 ⟨Nat.le_of_ble_eq_true rfl, Nat.le_of_ble_eq_true rfl⟩) (fun v13 S14 H_ locs_ hp hw => ?_)
          obtain ⟨rfl, f15, rfl⟩ := hp
          exact z_iret (ty := .int) (v := (-1)) hcf hr rfl hlk hw (by first | (simp [q_says, ha3, hb3, c_9, c_15, hs12]; done) | (rcases hs12 with q_ | q_ <;> (simp [q_says, q_, ha3, hb3, c_9, c_15]; done)) | (simp_all [q_says]; done)) dX12_strip_44
        · refine lv_istore (lv' := [(5, .int (-3)), (0, .ref (r_ 0)), (1, .int k_), (2, .int x_), (3, .int a_), (4, .int n_)]) hx hb_ dX12_strip_31 hl (by decide) rfl (fun ls hl => ?_)
          refine lv_iload hx hb_ dX12_strip_33 (lv_at hl 0 rfl) ?_
          refine lv_if_eq (tgt := 45) hx hb_ dX12_strip_35 (by decide) (fun c_35 => absurd c_35 (by decide)) (fun _ => ?_)
          refine lv_aload_n hx hb_ dX12_strip_38 rfl (lv_at hl 1 rfl) ?_
          refine lv_iload hx hb_ dX12_strip_39 (lv_at hl 0 rfl) ?_
          refine z_ki hw hA (va_runV (As := [.int (-3)]) (rest := []) hcf (c_X12_no l cD cy _ r_ S_ hSh (-3) (by decide) (by decide)) (cwV 1 hts gX12_strip_X12_no rfl rfl rfl (by decide +kernel) ⟨Nat.le_of_ble_eq_true rfl, Nat.le_of_ble_eq_true rfl⟩) (z_preV (k := 12) hK_ hE hw (mL hSh 0) (mK hSh 0) (by decide) rfl) rfl rfl hl.1 rfl (lv_room (Nat.le_of_ble_eq_true rfl)) dX12_strip_41 ⟨Nat.le_of_ble_eq_true rfl, Nat.le_of_ble_eq_true rfl⟩) (fun v16 S17 H_ locs_ hp hw => ?_)
          obtain ⟨rfl, f18, rfl⟩ := hp
          exact z_iret (ty := .int) (v := (-3)) hcf hr rfl hlk hw (by first | (simp [q_says, ha3, hb3, c_9, c_15, ha12, hb12]; done) | (simp_all [q_says]; done)) dX12_strip_44
      · refine lv_aload_n hx hb_ dX12_strip_18 rfl (lv_at hl 0 rfl) ?_
        refine lv_iconst (v := (-1)) hx hb_ dX12_strip_19 (by decide) ?_
        refine z_ki hw hA (va_runV (As := [.int (-1)]) (rest := []) hcf (c_X12_no l cD cy _ r_ S_ hSh (-1) (by decide) (by decide)) (cwV 1 hts gX12_strip_X12_no rfl rfl rfl (by decide +kernel) ⟨Nat.le_of_ble_eq_true rfl, Nat.le_of_ble_eq_true rfl⟩) (z_preV (k := 12) hK_ hE hw (mL hSh 0) (mK hSh 0) (by decide) rfl) rfl rfl hl.1 rfl (lv_room (Nat.le_of_ble_eq_true rfl)) dX12_strip_20 ⟨Nat.le_of_ble_eq_true rfl, Nat.le_of_ble_eq_true rfl⟩) (fun v19 S20 H_ locs_ hp hw => ?_)
        obtain ⟨rfl, f21, rfl⟩ := hp
        exact z_iret (ty := .int) (v := (-1)) hcf hr rfl hlk hw (by first | (simp [q_says, ha3, hb3, c_9, c_15]; done) | (simp_all [q_says]; done)) dX12_strip_23

set_option maxHeartbeats 4000000 in
set_option maxRecDepth 100000 in
/-- stripOf on a_ model just made -/
theorem c_X12_stripOf (l : Launch) (cD : va_G) (cy : Nat → ClassId) (sz_ : Nat) (r_ : Nat → Nat) (S_ : zS) (hSh : ShM S_ r_) (hF : FrM S_ r_) (t_ : Int32) (x_ : Int32) : Met l yX12_stripOf wsX12_stripOf ({ frames := 1, cells := 0, slots := 0, locals := 21 } : Room) (va_Pc [.ref (r_ 0), .int t_, .int x_] (zPre cD cy S_ sz_)) (va_Qi (fun (v_ : Int32) (S1 : zS) => v_ = -5) (zPost cD cy (zAd cy S_ sz_)) (zAd cy S_ sz_)) 0 0 (zAd cy S_ sz_) := by
  refine z_ofW (cc := cX12_stripOf) (maxL := 3) (ret := (some .int)) (own := RX12) (QQ := fun A_ => va_Qi (fun (v_ : Int32) (S1 : zS) => v_ = -5) (zPost cD cy A_) A_) (by decide) rfl rfl (Nat.le_of_ble_eq_true rfl) ?_
  intro p_ e_ s_ m_ args_ below_ meth_ c_ A_ ls hcf hr hlk hnm hK_ hE hw hA hl
  obtain ⟨hx, hb_, hml, hown, hts⟩ := id hcf
  have hl : lv_has ls 3 [(0, .ref (r_ 0)), (1, .int t_), (2, .int x_)] := hl
  refine lv_aload_n hx hb_ dX12_stripOf_0 rfl (lv_at hl 0 rfl) ?_
  refine lv_iload_n hx hb_ dX12_stripOf_1 rfl (lv_at hl 1 rfl) ?_
  refine z_ki hw hA (va_runV (As := [.int t_]) (rest := []) hcf (c_X12_isStrip l cD cy _ r_ S_ hSh hF.1 t_) (cwV 1 hts gX12_stripOf_X12_isStrip rfl rfl rfl (by decide +kernel) ⟨Nat.le_of_ble_eq_true rfl, Nat.le_of_ble_eq_true rfl⟩) (z_preV (k := 12) hK_ hE hw (mL hSh 0) (mK hSh 0) (by decide) rfl) rfl rfl hl.1 rfl (lv_room (Nat.le_of_ble_eq_true rfl)) dX12_stripOf_2 ⟨Nat.le_of_ble_eq_true rfl, Nat.le_of_ble_eq_true rfl⟩) (fun v1 S2 H_ locs_ hp hw => ?_)
  obtain ⟨rfl, rfl⟩ := hp
  refine lv_if_ne (tgt := 15) hx hb_ dX12_stripOf_5 (by decide) (fun c_5 => absurd c_5 (by decide)) (fun _ => ?_)
  refine lv_aload_n hx hb_ dX12_stripOf_8 rfl (lv_at hl 0 rfl) ?_
  refine lv_bipush (v := (-5)) hx hb_ dX12_stripOf_9 (by decide) ?_
  refine z_ki hw hA (va_runV (As := [.int (-5)]) (rest := []) hcf (c_X12_no l cD cy _ r_ S_ hSh (-5) (by decide) (by decide)) (cwV 1 hts gX12_stripOf_X12_no rfl rfl rfl (by decide +kernel) ⟨Nat.le_of_ble_eq_true rfl, Nat.le_of_ble_eq_true rfl⟩) (z_preV (k := 12) hK_ hE hw (mL hSh 0) (mK hSh 0) (by decide) rfl) rfl rfl hl.1 rfl (lv_room (Nat.le_of_ble_eq_true rfl)) dX12_stripOf_11 ⟨Nat.le_of_ble_eq_true rfl, Nat.le_of_ble_eq_true rfl⟩) (fun v3 S4 H_ locs_ hp hw => ?_)
  obtain ⟨rfl, f5, rfl⟩ := hp
  exact z_iret (ty := .int) (v := (-5)) hcf hr rfl hlk hw (rfl) dX12_stripOf_14

set_option maxHeartbeats 4000000 in
set_option maxRecDepth 100000 in
/-- turn on a_ model just made -/
theorem c_X12_turn (l : Launch) (cD : va_G) (cy : Nat → ClassId) (sz_ : Nat) (r_ : Nat → Nat) (S_ : zS) (hSh : ShM S_ r_) (hF : FrM S_ r_) (t_ : Int32) (x_ : Int32) : Met l yX12_turn wsX12_turn ({ frames := 1, cells := 0, slots := 0, locals := 21 } : Room) (va_Pc [.ref (r_ 0), .int t_, .int x_] (zPre cD cy S_ sz_)) (va_Qi (fun (v_ : Int32) (S1 : zS) => v_ = -1) (zPost cD cy (zAd cy S_ sz_)) (zAd cy S_ sz_)) 0 0 (zAd cy S_ sz_) := by
  refine z_ofW (cc := cX12_turn) (maxL := 4) (ret := (some .int)) (own := RX12) (QQ := fun A_ => va_Qi (fun (v_ : Int32) (S1 : zS) => v_ = -1) (zPost cD cy A_) A_) (by decide) rfl rfl (Nat.le_of_ble_eq_true rfl) ?_
  intro p_ e_ s_ m_ args_ below_ meth_ c_ A_ ls hcf hr hlk hnm hK_ hE hw hA hl
  obtain ⟨hx, hb_, hml, hown, hts⟩ := id hcf
  have hl : lv_has ls 4 [(0, .ref (r_ 0)), (1, .int t_), (2, .int x_)] := hl
  refine lv_aload_n hx hb_ dX12_turn_0 rfl (lv_at hl 0 rfl) ?_
  refine lv_iload_n hx hb_ dX12_turn_1 rfl (lv_at hl 1 rfl) ?_
  refine z_ki hw hA (va_runV (As := [.int t_]) (rest := []) hcf (c_X12_isStrip l cD cy _ r_ S_ hSh hF.1 t_) (cwV 1 hts gX12_turn_X12_isStrip rfl rfl rfl (by decide +kernel) ⟨Nat.le_of_ble_eq_true rfl, Nat.le_of_ble_eq_true rfl⟩) (z_preV (k := 12) hK_ hE hw (mL hSh 0) (mK hSh 0) (by decide) rfl) rfl rfl hl.1 rfl (lv_room (Nat.le_of_ble_eq_true rfl)) dX12_turn_2 ⟨Nat.le_of_ble_eq_true rfl, Nat.le_of_ble_eq_true rfl⟩) (fun v1 S2 H_ locs_ hp hw => ?_)
  obtain ⟨rfl, rfl⟩ := hp
  refine lv_if_ne (tgt := 14) hx hb_ dX12_turn_5 (by decide) (fun c_5 => absurd c_5 (by decide)) (fun _ => ?_)
  refine lv_aload_n hx hb_ dX12_turn_8 rfl (lv_at hl 0 rfl) ?_
  refine lv_iconst (v := (-1)) hx hb_ dX12_turn_9 (by decide) ?_
  refine z_ki hw hA (va_runV (As := [.int (-1)]) (rest := []) hcf (c_X12_no l cD cy _ r_ S_ hSh (-1) (by decide) (by decide)) (cwV 1 hts gX12_turn_X12_no rfl rfl rfl (by decide +kernel) ⟨Nat.le_of_ble_eq_true rfl, Nat.le_of_ble_eq_true rfl⟩) (z_preV (k := 12) hK_ hE hw (mL hSh 0) (mK hSh 0) (by decide) rfl) rfl rfl hl.1 rfl (lv_room (Nat.le_of_ble_eq_true rfl)) dX12_turn_10 ⟨Nat.le_of_ble_eq_true rfl, Nat.le_of_ble_eq_true rfl⟩) (fun v3 S4 H_ locs_ hp hw => ?_)
  obtain ⟨rfl, f5, rfl⟩ := hp
  exact z_iret (ty := .int) (v := (-1)) hcf hr rfl hlk hw (rfl) dX12_turn_13

set_option maxHeartbeats 4000000 in
set_option maxRecDepth 100000 in
/-- read on a_ model just made -/
theorem c_X12_read (l : Launch) (cD : va_G) (cy : Nat → ClassId) (sz_ : Nat) (r_ : Nat → Nat) (S_ : zS) (hSh : ShM S_ r_) (hF : FrM S_ r_) (a_ : Int32) : Met l yX12_read wsX12_read ({ frames := 2, cells := 0, slots := 0, locals := 42 } : Room) (va_Pc [.ref (r_ 0), .int a_] (zPre cD cy S_ sz_)) (va_Qi (fun (v_ : Int32) (S1 : zS) => v_ = q_bad a_ (-1) (-3)) (zPost cD cy (zAd cy S_ sz_)) (zAd cy S_ sz_)) 0 0 (zAd cy S_ sz_) := by
  refine z_ofW (cc := cX12_read) (maxL := 5) (ret := (some .int)) (own := RX12) (QQ := fun A_ => va_Qi (fun (v_ : Int32) (S1 : zS) => v_ = q_bad a_ (-1) (-3)) (zPost cD cy A_) A_) (by decide) rfl rfl (Nat.le_of_ble_eq_true rfl) ?_
  intro p_ e_ s_ m_ args_ below_ meth_ c_ A_ ls hcf hr hlk hnm hK_ hE hw hA hl
  obtain ⟨hx, hb_, hml, hown, hts⟩ := id hcf
  have hl : lv_has ls 5 [(0, .ref (r_ 0)), (1, .int a_)] := hl
  refine lv_aload_n hx hb_ dX12_read_0 rfl (lv_at hl 0 rfl) ?_
  refine lv_iload_n hx hb_ dX12_read_1 rfl (lv_at hl 1 rfl) ?_
  refine z_ki hw hA (va_runV (As := [.int a_]) (rest := []) hcf (c_X12_wants l cD cy _ r_ S_ hSh hF a_) (cwV 1 hts gX12_read_X12_wants rfl rfl rfl (by decide +kernel) ⟨Nat.le_of_ble_eq_true rfl, Nat.le_of_ble_eq_true rfl⟩) (z_preV (k := 12) hK_ hE hw (mL hSh 0) (mK hSh 0) (by decide) rfl) rfl rfl hl.1 rfl (lv_room (Nat.le_of_ble_eq_true rfl)) dX12_read_2 ⟨Nat.le_of_ble_eq_true rfl, Nat.le_of_ble_eq_true rfl⟩) (fun v1 S2 H_ locs_ hp hw => ?_)
  obtain ⟨hp, rfl⟩ := hp
  rcases hp with ⟨hs3, rfl⟩ | ⟨⟨ha3, hb3⟩, rfl⟩
  · refine lv_istore_n (lv' := [(2, .int (-1)), (0, .ref (r_ 0)), (1, .int a_)]) hx hb_ dX12_read_5 rfl hl (by decide) rfl (fun ls hl => ?_)
    refine lv_iload_n hx hb_ dX12_read_6 rfl (lv_at hl 0 rfl) ?_
    refine lv_if_eq (tgt := 16) hx hb_ dX12_read_7 (by decide) (fun c_7 => absurd c_7 (by decide)) (fun _ => ?_)
    refine lv_aload_n hx hb_ dX12_read_10 rfl (lv_at hl 1 rfl) ?_
    refine lv_iload_n hx hb_ dX12_read_11 rfl (lv_at hl 0 rfl) ?_
    refine z_ki hw hA (va_runV (As := [.int (-1)]) (rest := []) hcf (c_X12_no l cD cy _ r_ S_ hSh (-1) (by decide) (by decide)) (cwV 1 hts gX12_read_X12_no rfl rfl rfl (by decide +kernel) ⟨Nat.le_of_ble_eq_true rfl, Nat.le_of_ble_eq_true rfl⟩) (z_preV (k := 12) hK_ hE hw (mL hSh 0) (mK hSh 0) (by decide) rfl) rfl rfl hl.1 rfl (lv_room (Nat.le_of_ble_eq_true rfl)) dX12_read_12 ⟨Nat.le_of_ble_eq_true rfl, Nat.le_of_ble_eq_true rfl⟩) (fun v4 S5 H_ locs_ hp hw => ?_)
    obtain ⟨rfl, f6, rfl⟩ := hp
    exact z_iret (ty := .int) (v := (-1)) hcf hr rfl hlk hw (by first | (simp [q_bad, hs3]; done) | (rcases hs3 with q_ | q_ <;> (simp [q_bad, q_]; done)) | (simp_all [q_bad]; done)) dX12_read_15
  · refine lv_istore_n (lv' := [(2, .int (-3)), (0, .ref (r_ 0)), (1, .int a_)]) hx hb_ dX12_read_5 rfl hl (by decide) rfl (fun ls hl => ?_)
    refine lv_iload_n hx hb_ dX12_read_6 rfl (lv_at hl 0 rfl) ?_
    refine lv_if_eq (tgt := 16) hx hb_ dX12_read_7 (by decide) (fun c_7 => absurd c_7 (by decide)) (fun _ => ?_)
    refine lv_aload_n hx hb_ dX12_read_10 rfl (lv_at hl 1 rfl) ?_
    refine lv_iload_n hx hb_ dX12_read_11 rfl (lv_at hl 0 rfl) ?_
    refine z_ki hw hA (va_runV (As := [.int (-3)]) (rest := []) hcf (c_X12_no l cD cy _ r_ S_ hSh (-3) (by decide) (by decide)) (cwV 1 hts gX12_read_X12_no rfl rfl rfl (by decide +kernel) ⟨Nat.le_of_ble_eq_true rfl, Nat.le_of_ble_eq_true rfl⟩) (z_preV (k := 12) hK_ hE hw (mL hSh 0) (mK hSh 0) (by decide) rfl) rfl rfl hl.1 rfl (lv_room (Nat.le_of_ble_eq_true rfl)) dX12_read_12 ⟨Nat.le_of_ble_eq_true rfl, Nat.le_of_ble_eq_true rfl⟩) (fun v7 S8 H_ locs_ hp hw => ?_)
    obtain ⟨rfl, f9, rfl⟩ := hp
    exact z_iret (ty := .int) (v := (-3)) hcf hr rfl hlk hw (by first | (simp [q_bad, ha3, hb3]; done) | (simp_all [q_bad]; done)) dX12_read_15

set_option maxHeartbeats 4000000 in
set_option maxRecDepth 100000 in
/-- fault on a_ model just made -/
theorem c_X12_fault (l : Launch) (cD : va_G) (cy : Nat → ClassId) (sz_ : Nat) (r_ : Nat → Nat) (S_ : zS) (hSh : ShM S_ r_) (hF : FrM S_ r_) : Met l yX12_fault wsX12_fault ({ frames := 0, cells := 0, slots := 0, locals := 0 } : Room) (va_Pc [.ref (r_ 0)] (zPre cD cy S_ sz_)) (va_Qi (fun (v_ : Int32) (S1 : zS) => v_ = -1) (zPost cD cy (zAd cy S_ sz_)) (zAd cy S_ sz_)) 0 0 (zAd cy S_ sz_) := by
  refine z_ofW (cc := cX12_fault) (maxL := 1) (ret := (some .int)) (own := RX12) (QQ := fun A_ => va_Qi (fun (v_ : Int32) (S1 : zS) => v_ = -1) (zPost cD cy A_) A_) (by decide) rfl rfl (Nat.le_of_ble_eq_true rfl) ?_
  intro p_ e_ s_ m_ args_ below_ meth_ c_ A_ ls hcf hr hlk hnm hK_ hE hw hA hl
  obtain ⟨hx, hb_, hml, hown, hts⟩ := id hcf
  have hin12 : ∀ w_ ∈ wsX120, w_ ∈ wsX12_fault := fun w_ h_ => (List.mem_cons_of_mem _ (List.mem_append_right _ h_))
  have hl : lv_has ls 1 [(0, .ref (r_ 0))] := hl
  refine lv_aload_n hx hb_ dX12_fault_0 rfl (lv_at hl 0 rfl) ?_
  refine z_get (k := 12) (i := 1) (j := 1201) (v := .int (-1)) (ref := "FoldedInHalfModel") (C := RX12) (T := TX12) (N := 56) hcf hK_ hw hin12 (mL hSh 0) (mK hSh 0) rfl (by decide) (by decide) rfl rfl (congrArg Value.int hF.2.1) (List.mem_of_getElem? (i := 1) rfl) (fun _ h_ => h_) dX12_fault_1 ?_
  exact z_iret (ty := .int) (v := (-1)) hcf hr rfl hlk hw (rfl) dX12_fault_4

set_option maxHeartbeats 4000000 in
set_option maxRecDepth 100000 in
/-- creases on a_ model just made -/
theorem c_X12_creases (l : Launch) (cD : va_G) (cy : Nat → ClassId) (sz_ : Nat) (r_ : Nat → Nat) (S_ : zS) (hSh : ShM S_ r_) (hF : FrM S_ r_) (t_ : Int32) : Met l yX12_creases wsX12_creases ({ frames := 1, cells := 0, slots := 0, locals := 21 } : Room) (va_Pc [.ref (r_ 0), .int t_] (zPre cD cy S_ sz_)) (va_Ql (fun (v_ : Int64) (S1 : zS) => v_ = -1) (zPost cD cy (zAd cy S_ sz_)) (zAd cy S_ sz_)) 0 0 (zAd cy S_ sz_) := by
  refine z_ofW (cc := cX12_creases) (maxL := 2) (ret := (some .long)) (own := RX12) (QQ := fun A_ => va_Ql (fun (v_ : Int64) (S1 : zS) => v_ = -1) (zPost cD cy A_) A_) (by decide) rfl rfl (Nat.le_of_ble_eq_true rfl) ?_
  intro p_ e_ s_ m_ args_ below_ meth_ c_ A_ ls hcf hr hlk hnm hK_ hE hw hA hl
  obtain ⟨hx, hb_, hml, hown, hts⟩ := id hcf
  have hl : lv_has ls 2 [(0, .ref (r_ 0)), (1, .int t_)] := hl
  refine lv_aload_n hx hb_ dX12_creases_0 rfl (lv_at hl 0 rfl) ?_
  refine lv_iload_n hx hb_ dX12_creases_1 rfl (lv_at hl 1 rfl) ?_
  refine z_ki hw hA (va_runV (As := [.int t_]) (rest := []) hcf (c_X12_isStrip l cD cy _ r_ S_ hSh hF.1 t_) (cwV 1 hts gX12_creases_X12_isStrip rfl rfl rfl (by decide +kernel) ⟨Nat.le_of_ble_eq_true rfl, Nat.le_of_ble_eq_true rfl⟩) (z_preV (k := 12) hK_ hE hw (mL hSh 0) (mK hSh 0) (by decide) rfl) rfl rfl hl.1 rfl (lv_room (Nat.le_of_ble_eq_true rfl)) dX12_creases_2 ⟨Nat.le_of_ble_eq_true rfl, Nat.le_of_ble_eq_true rfl⟩) (fun v1 S2 H_ locs_ hp hw => ?_)
  obtain ⟨rfl, rfl⟩ := hp
  refine lv_if_eq (tgt := 16) hx hb_ dX12_creases_5 (by decide) (fun _ => ?_) (fun c_5 => absurd c_5 (by decide))
  refine lv_aload_n hx hb_ dX12_creases_16 rfl (lv_at hl 0 rfl) ?_
  refine lv_iconst (v := (-1)) hx hb_ dX12_creases_17 (by decide) ?_
  refine z_ki hw hA (va_runV (As := [.int (-1)]) (rest := []) hcf (c_X12_no l cD cy _ r_ S_ hSh (-1) (by decide) (by decide)) (cwV 1 hts gX12_creases_X12_no rfl rfl rfl (by decide +kernel) ⟨Nat.le_of_ble_eq_true rfl, Nat.le_of_ble_eq_true rfl⟩) (z_preV (k := 12) hK_ hE hw (mL hSh 0) (mK hSh 0) (by decide) rfl) rfl rfl hl.1 rfl (lv_room (Nat.le_of_ble_eq_true rfl)) dX12_creases_18 ⟨Nat.le_of_ble_eq_true rfl, Nat.le_of_ble_eq_true rfl⟩) (fun v3 S4 H_ locs_ hp hw => ?_)
  obtain ⟨rfl, f5, rfl⟩ := hp
  refine lv_i2l (v := (-1)) hx hb_ dX12_creases_21 (by decide) ?_
  exact z_lret (v := (-1)) hcf hr hlk hw (rfl) dX12_creases_22

set_option maxHeartbeats 4000000 in
set_option maxRecDepth 100000 in
/-- crease on a_ model just made -/
theorem c_X12_crease (l : Launch) (cD : va_G) (cy : Nat → ClassId) (sz_ : Nat) (r_ : Nat → Nat) (S_ : zS) (hSh : ShM S_ r_) (hF : FrM S_ r_) (t_ : Int32) (x_ : Int64) : Met l yX12_crease wsX12_crease ({ frames := 1, cells := 0, slots := 0, locals := 21 } : Room) (va_Pc [.ref (r_ 0), .int t_, .long x_] (zPre cD cy S_ sz_)) (va_Qi (fun (v_ : Int32) (S1 : zS) => v_ = -1) (zPost cD cy (zAd cy S_ sz_)) (zAd cy S_ sz_)) 0 0 (zAd cy S_ sz_) := by
  refine z_ofW (cc := cX12_crease) (maxL := 4) (ret := (some .int)) (own := RX12) (QQ := fun A_ => va_Qi (fun (v_ : Int32) (S1 : zS) => v_ = -1) (zPost cD cy A_) A_) (by decide) rfl rfl (Nat.le_of_ble_eq_true rfl) ?_
  intro p_ e_ s_ m_ args_ below_ meth_ c_ A_ ls hcf hr hlk hnm hK_ hE hw hA hl
  obtain ⟨hx, hb_, hml, hown, hts⟩ := id hcf
  have hl : lv_has ls 4 [(0, .ref (r_ 0)), (1, .int t_), (2, .long x_)] := hl
  refine lv_aload_n hx hb_ dX12_crease_0 rfl (lv_at hl 0 rfl) ?_
  refine lv_iload_n hx hb_ dX12_crease_1 rfl (lv_at hl 1 rfl) ?_
  refine z_ki hw hA (va_runV (As := [.int t_]) (rest := []) hcf (c_X12_isStrip l cD cy _ r_ S_ hSh hF.1 t_) (cwV 1 hts gX12_crease_X12_isStrip rfl rfl rfl (by decide +kernel) ⟨Nat.le_of_ble_eq_true rfl, Nat.le_of_ble_eq_true rfl⟩) (z_preV (k := 12) hK_ hE hw (mL hSh 0) (mK hSh 0) (by decide) rfl) rfl rfl hl.1 rfl (lv_room (Nat.le_of_ble_eq_true rfl)) dX12_crease_2 ⟨Nat.le_of_ble_eq_true rfl, Nat.le_of_ble_eq_true rfl⟩) (fun v1 S2 H_ locs_ hp hw => ?_)
  obtain ⟨rfl, rfl⟩ := hp
  refine lv_if_ne (tgt := 14) hx hb_ dX12_crease_5 (by decide) (fun c_5 => absurd c_5 (by decide)) (fun _ => ?_)
  refine lv_aload_n hx hb_ dX12_crease_8 rfl (lv_at hl 0 rfl) ?_
  refine lv_iconst (v := (-1)) hx hb_ dX12_crease_9 (by decide) ?_
  refine z_ki hw hA (va_runV (As := [.int (-1)]) (rest := []) hcf (c_X12_no l cD cy _ r_ S_ hSh (-1) (by decide) (by decide)) (cwV 1 hts gX12_crease_X12_no rfl rfl rfl (by decide +kernel) ⟨Nat.le_of_ble_eq_true rfl, Nat.le_of_ble_eq_true rfl⟩) (z_preV (k := 12) hK_ hE hw (mL hSh 0) (mK hSh 0) (by decide) rfl) rfl rfl hl.1 rfl (lv_room (Nat.le_of_ble_eq_true rfl)) dX12_crease_10 ⟨Nat.le_of_ble_eq_true rfl, Nat.le_of_ble_eq_true rfl⟩) (fun v3 S4 H_ locs_ hp hw => ?_)
  obtain ⟨rfl, f5, rfl⟩ := hp
  exact z_iret (ty := .int) (v := (-1)) hcf hr rfl hlk hw (rfl) dX12_crease_13

set_option maxHeartbeats 4000000 in
set_option maxRecDepth 100000 in
/-- way on a_ model just made -/
theorem c_X12_way (l : Launch) (cD : va_G) (cy : Nat → ClassId) (sz_ : Nat) (r_ : Nat → Nat) (S_ : zS) (hSh : ShM S_ r_) (hF : FrM S_ r_) (t_ : Int32) (x_ : Int64) : Met l yX12_way wsX12_way ({ frames := 1, cells := 0, slots := 0, locals := 21 } : Room) (va_Pc [.ref (r_ 0), .int t_, .long x_] (zPre cD cy S_ sz_)) (va_Qi (fun (v_ : Int32) (S1 : zS) => v_ = -1) (zPost cD cy (zAd cy S_ sz_)) (zAd cy S_ sz_)) 0 0 (zAd cy S_ sz_) := by
  refine z_ofW (cc := cX12_way) (maxL := 4) (ret := (some .int)) (own := RX12) (QQ := fun A_ => va_Qi (fun (v_ : Int32) (S1 : zS) => v_ = -1) (zPost cD cy A_) A_) (by decide) rfl rfl (Nat.le_of_ble_eq_true rfl) ?_
  intro p_ e_ s_ m_ args_ below_ meth_ c_ A_ ls hcf hr hlk hnm hK_ hE hw hA hl
  obtain ⟨hx, hb_, hml, hown, hts⟩ := id hcf
  have hl : lv_has ls 4 [(0, .ref (r_ 0)), (1, .int t_), (2, .long x_)] := hl
  refine lv_aload_n hx hb_ dX12_way_0 rfl (lv_at hl 0 rfl) ?_
  refine lv_iload_n hx hb_ dX12_way_1 rfl (lv_at hl 1 rfl) ?_
  refine z_ki hw hA (va_runV (As := [.int t_]) (rest := []) hcf (c_X12_isStrip l cD cy _ r_ S_ hSh hF.1 t_) (cwV 1 hts gX12_way_X12_isStrip rfl rfl rfl (by decide +kernel) ⟨Nat.le_of_ble_eq_true rfl, Nat.le_of_ble_eq_true rfl⟩) (z_preV (k := 12) hK_ hE hw (mL hSh 0) (mK hSh 0) (by decide) rfl) rfl rfl hl.1 rfl (lv_room (Nat.le_of_ble_eq_true rfl)) dX12_way_2 ⟨Nat.le_of_ble_eq_true rfl, Nat.le_of_ble_eq_true rfl⟩) (fun v1 S2 H_ locs_ hp hw => ?_)
  obtain ⟨rfl, rfl⟩ := hp
  refine lv_if_ne (tgt := 14) hx hb_ dX12_way_5 (by decide) (fun c_5 => absurd c_5 (by decide)) (fun _ => ?_)
  refine lv_aload_n hx hb_ dX12_way_8 rfl (lv_at hl 0 rfl) ?_
  refine lv_iconst (v := (-1)) hx hb_ dX12_way_9 (by decide) ?_
  refine z_ki hw hA (va_runV (As := [.int (-1)]) (rest := []) hcf (c_X12_no l cD cy _ r_ S_ hSh (-1) (by decide) (by decide)) (cwV 1 hts gX12_way_X12_no rfl rfl rfl (by decide +kernel) ⟨Nat.le_of_ble_eq_true rfl, Nat.le_of_ble_eq_true rfl⟩) (z_preV (k := 12) hK_ hE hw (mL hSh 0) (mK hSh 0) (by decide) rfl) rfl rfl hl.1 rfl (lv_room (Nat.le_of_ble_eq_true rfl)) dX12_way_10 ⟨Nat.le_of_ble_eq_true rfl, Nat.le_of_ble_eq_true rfl⟩) (fun v3 S4 H_ locs_ hp hw => ?_)
  obtain ⟨rfl, f5, rfl⟩ := hp
  exact z_iret (ty := .int) (v := (-1)) hcf hr rfl hlk hw (rfl) dX12_way_13

set_option maxHeartbeats 4000000 in
set_option maxRecDepth 100000 in
/-- place on a_ model just made -/
theorem c_X12_place (l : Launch) (cD : va_G) (cy : Nat → ClassId) (sz_ : Nat) (r_ : Nat → Nat) (S_ : zS) (hSh : ShM S_ r_) (hF : FrM S_ r_) (t_ : Int32) (x_ : Int64) (u_ : Int32) : Met l yX12_place wsX12_place ({ frames := 1, cells := 0, slots := 0, locals := 21 } : Room) (va_Pc [.ref (r_ 0), .int t_, .long x_, .int u_] (zPre cD cy S_ sz_)) (va_Ql (fun (v_ : Int64) (S1 : zS) => v_ = -2000000000000001) (zPost cD cy (zAd cy S_ sz_)) (zAd cy S_ sz_)) 0 0 (zAd cy S_ sz_) := by
  refine z_ofW (cc := cX12_place) (maxL := 5) (ret := (some .long)) (own := RX12) (QQ := fun A_ => va_Ql (fun (v_ : Int64) (S1 : zS) => v_ = -2000000000000001) (zPost cD cy A_) A_) (by decide) rfl rfl (Nat.le_of_ble_eq_true rfl) ?_
  intro p_ e_ s_ m_ args_ below_ meth_ c_ A_ ls hcf hr hlk hnm hK_ hE hw hA hl
  obtain ⟨hx, hb_, hml, hown, hts⟩ := id hcf
  have hl : lv_has ls 5 [(0, .ref (r_ 0)), (1, .int t_), (2, .long x_), (4, .int u_)] := hl
  refine lv_aload_n hx hb_ dX12_place_0 rfl (lv_at hl 0 rfl) ?_
  refine lv_iload_n hx hb_ dX12_place_1 rfl (lv_at hl 1 rfl) ?_
  refine z_ki hw hA (va_runV (As := [.int t_]) (rest := []) hcf (c_X12_isStrip l cD cy _ r_ S_ hSh hF.1 t_) (cwV 1 hts gX12_place_X12_isStrip rfl rfl rfl (by decide +kernel) ⟨Nat.le_of_ble_eq_true rfl, Nat.le_of_ble_eq_true rfl⟩) (z_preV (k := 12) hK_ hE hw (mL hSh 0) (mK hSh 0) (by decide) rfl) rfl rfl hl.1 rfl (lv_room (Nat.le_of_ble_eq_true rfl)) dX12_place_2 ⟨Nat.le_of_ble_eq_true rfl, Nat.le_of_ble_eq_true rfl⟩) (fun v1 S2 H_ locs_ hp hw => ?_)
  obtain ⟨rfl, rfl⟩ := hp
  refine lv_if_ne (tgt := 19) hx hb_ dX12_place_5 (by decide) (fun c_5 => absurd c_5 (by decide)) (fun _ => ?_)
  refine lv_ldc2 (v := (-2000000000000000)) hx hb_ hown (hts (.constantLong RX12 269 (-2000000000000000)) (by decide +kernel)) dX12_place_8 ?_
  refine lv_aload_n hx hb_ dX12_place_11 rfl (lv_at hl 0 rfl) ?_
  refine lv_iconst (v := (-1)) hx hb_ dX12_place_12 (by decide) ?_
  refine z_ki hw hA (va_runV (As := [.int (-1)]) (rest := [.long (-2000000000000000)]) hcf (c_X12_no l cD cy _ r_ S_ hSh (-1) (by decide) (by decide)) (cwV 1 hts gX12_place_X12_no rfl rfl rfl (by decide +kernel) ⟨Nat.le_of_ble_eq_true rfl, Nat.le_of_ble_eq_true rfl⟩) (z_preV (k := 12) hK_ hE hw (mL hSh 0) (mK hSh 0) (by decide) rfl) rfl rfl hl.1 rfl (lv_room (Nat.le_of_ble_eq_true rfl)) dX12_place_13 ⟨Nat.le_of_ble_eq_true rfl, Nat.le_of_ble_eq_true rfl⟩) (fun v3 S4 H_ locs_ hp hw => ?_)
  obtain ⟨rfl, f5, rfl⟩ := hp
  refine lv_i2l (v := (-1)) hx hb_ dX12_place_16 (by decide) ?_
  refine lv_ladd hx hb_ dX12_place_17 ?_
  exact z_lret (v := ((-2000000000000000) + (-1))) hcf hr hlk hw (rfl) dX12_place_18

set_option maxHeartbeats 4000000 in
set_option maxRecDepth 100000 in
/-- passed on a_ model just made -/
theorem c_X12_passed (l : Launch) (cD : va_G) (cy : Nat → ClassId) (sz_ : Nat) (r_ : Nat → Nat) (S_ : zS) (hSh : ShM S_ r_) (hF : FrM S_ r_) (t_ : Int32) (n_ : Int32) (x_ : Int32) (y_ : Int32) : Met l yX12_passed wsX12_passed ({ frames := 2, cells := 0, slots := 0, locals := 43 } : Room) (va_Pc [.ref (r_ 0), .int t_, .int n_, .int x_, .int y_] (zPre cD cy S_ sz_)) (va_Qi (fun (v_ : Int32) (S1 : zS) => v_ = -1) (zPost cD cy (zAd cy S_ sz_)) (zAd cy S_ sz_)) 0 0 (zAd cy S_ sz_) := by
  refine z_ofW (cc := cX12_passed) (maxL := 8) (ret := (some .int)) (own := RX12) (QQ := fun A_ => va_Qi (fun (v_ : Int32) (S1 : zS) => v_ = -1) (zPost cD cy A_) A_) (by decide) rfl rfl (Nat.le_of_ble_eq_true rfl) ?_
  intro p_ e_ s_ m_ args_ below_ meth_ c_ A_ ls hcf hr hlk hnm hK_ hE hw hA hl
  obtain ⟨hx, hb_, hml, hown, hts⟩ := id hcf
  have hl : lv_has ls 8 [(0, .ref (r_ 0)), (1, .int t_), (2, .int n_), (3, .int x_), (4, .int y_)] := hl
  refine lv_aload_n hx hb_ dX12_passed_0 rfl (lv_at hl 0 rfl) ?_
  refine lv_iload_n hx hb_ dX12_passed_1 rfl (lv_at hl 1 rfl) ?_
  refine lv_iload_n hx hb_ dX12_passed_2 rfl (lv_at hl 2 rfl) ?_
  refine z_ki hw hA (va_runV (As := [.int t_, .int n_]) (rest := []) hcf (c_X12_walks l cD cy _ r_ S_ hSh hF t_ n_) (cwV 2 hts gX12_passed_X12_walks rfl rfl rfl (by decide +kernel) ⟨Nat.le_of_ble_eq_true rfl, Nat.le_of_ble_eq_true rfl⟩) (z_preV (k := 12) hK_ hE hw (mL hSh 0) (mK hSh 0) (by decide) rfl) rfl rfl hl.1 rfl (lv_room (Nat.le_of_ble_eq_true rfl)) dX12_passed_3 ⟨Nat.le_of_ble_eq_true rfl, Nat.le_of_ble_eq_true rfl⟩) (fun v1 S2 H_ locs_ hp hw => ?_)
  obtain ⟨rfl, rfl⟩ := hp
  refine lv_istore (lv' := [(5, .int (-1)), (0, .ref (r_ 0)), (1, .int t_), (2, .int n_), (3, .int x_), (4, .int y_)]) hx hb_ dX12_passed_6 hl (by decide) rfl (fun ls hl => ?_)
  refine lv_iload hx hb_ dX12_passed_8 (lv_at hl 0 rfl) ?_
  refine lv_if_eq (tgt := 20) hx hb_ dX12_passed_10 (by decide) (fun c_10 => absurd c_10 (by decide)) (fun _ => ?_)
  refine lv_aload_n hx hb_ dX12_passed_13 rfl (lv_at hl 1 rfl) ?_
  refine lv_iload hx hb_ dX12_passed_14 (lv_at hl 0 rfl) ?_
  refine z_ki hw hA (va_runV (As := [.int (-1)]) (rest := []) hcf (c_X12_no l cD cy _ r_ S_ hSh (-1) (by decide) (by decide)) (cwV 1 hts gX12_passed_X12_no rfl rfl rfl (by decide +kernel) ⟨Nat.le_of_ble_eq_true rfl, Nat.le_of_ble_eq_true rfl⟩) (z_preV (k := 12) hK_ hE hw (mL hSh 0) (mK hSh 0) (by decide) rfl) rfl rfl hl.1 rfl (lv_room (Nat.le_of_ble_eq_true rfl)) dX12_passed_16 ⟨Nat.le_of_ble_eq_true rfl, Nat.le_of_ble_eq_true rfl⟩) (fun v3 S4 H_ locs_ hp hw => ?_)
  obtain ⟨rfl, f5, rfl⟩ := hp
  exact z_iret (ty := .int) (v := (-1)) hcf hr rfl hlk hw (rfl) dX12_passed_19

set_option maxHeartbeats 4000000 in
set_option maxRecDepth 100000 in
/-- most on a_ model just made -/
theorem c_X12_most (l : Launch) (cD : va_G) (cy : Nat → ClassId) (sz_ : Nat) (r_ : Nat → Nat) (S_ : zS) (hSh : ShM S_ r_) (hF : FrM S_ r_) (t_ : Int32) (n_ : Int32) : Met l yX12_most wsX12_most ({ frames := 2, cells := 0, slots := 0, locals := 43 } : Room) (va_Pc [.ref (r_ 0), .int t_, .int n_] (zPre cD cy S_ sz_)) (va_Qi (fun (v_ : Int32) (S1 : zS) => v_ = -1) (zPost cD cy (zAd cy S_ sz_)) (zAd cy S_ sz_)) 0 0 (zAd cy S_ sz_) := by
  refine z_ofW (cc := cX12_most) (maxL := 7) (ret := (some .int)) (own := RX12) (QQ := fun A_ => va_Qi (fun (v_ : Int32) (S1 : zS) => v_ = -1) (zPost cD cy A_) A_) (by decide) rfl rfl (Nat.le_of_ble_eq_true rfl) ?_
  intro p_ e_ s_ m_ args_ below_ meth_ c_ A_ ls hcf hr hlk hnm hK_ hE hw hA hl
  obtain ⟨hx, hb_, hml, hown, hts⟩ := id hcf
  have hl : lv_has ls 7 [(0, .ref (r_ 0)), (1, .int t_), (2, .int n_)] := hl
  refine lv_aload_n hx hb_ dX12_most_0 rfl (lv_at hl 0 rfl) ?_
  refine lv_iload_n hx hb_ dX12_most_1 rfl (lv_at hl 1 rfl) ?_
  refine lv_iload_n hx hb_ dX12_most_2 rfl (lv_at hl 2 rfl) ?_
  refine z_ki hw hA (va_runV (As := [.int t_, .int n_]) (rest := []) hcf (c_X12_walks l cD cy _ r_ S_ hSh hF t_ n_) (cwV 2 hts gX12_most_X12_walks rfl rfl rfl (by decide +kernel) ⟨Nat.le_of_ble_eq_true rfl, Nat.le_of_ble_eq_true rfl⟩) (z_preV (k := 12) hK_ hE hw (mL hSh 0) (mK hSh 0) (by decide) rfl) rfl rfl hl.1 rfl (lv_room (Nat.le_of_ble_eq_true rfl)) dX12_most_3 ⟨Nat.le_of_ble_eq_true rfl, Nat.le_of_ble_eq_true rfl⟩) (fun v1 S2 H_ locs_ hp hw => ?_)
  obtain ⟨rfl, rfl⟩ := hp
  refine lv_istore_n (lv' := [(3, .int (-1)), (0, .ref (r_ 0)), (1, .int t_), (2, .int n_)]) hx hb_ dX12_most_6 rfl hl (by decide) rfl (fun ls hl => ?_)
  refine lv_iload_n hx hb_ dX12_most_7 rfl (lv_at hl 0 rfl) ?_
  refine lv_if_eq (tgt := 17) hx hb_ dX12_most_8 (by decide) (fun c_8 => absurd c_8 (by decide)) (fun _ => ?_)
  refine lv_aload_n hx hb_ dX12_most_11 rfl (lv_at hl 1 rfl) ?_
  refine lv_iload_n hx hb_ dX12_most_12 rfl (lv_at hl 0 rfl) ?_
  refine z_ki hw hA (va_runV (As := [.int (-1)]) (rest := []) hcf (c_X12_no l cD cy _ r_ S_ hSh (-1) (by decide) (by decide)) (cwV 1 hts gX12_most_X12_no rfl rfl rfl (by decide +kernel) ⟨Nat.le_of_ble_eq_true rfl, Nat.le_of_ble_eq_true rfl⟩) (z_preV (k := 12) hK_ hE hw (mL hSh 0) (mK hSh 0) (by decide) rfl) rfl rfl hl.1 rfl (lv_room (Nat.le_of_ble_eq_true rfl)) dX12_most_13 ⟨Nat.le_of_ble_eq_true rfl, Nat.le_of_ble_eq_true rfl⟩) (fun v3 S4 H_ locs_ hp hw => ?_)
  obtain ⟨rfl, f5, rfl⟩ := hp
  exact z_iret (ty := .int) (v := (-1)) hcf hr rfl hlk hw (rfl) dX12_most_16

set_option maxHeartbeats 4000000 in
set_option maxRecDepth 100000 in
/-- twice on a_ model just made -/
theorem c_X12_twice (l : Launch) (cD : va_G) (cy : Nat → ClassId) (sz_ : Nat) (r_ : Nat → Nat) (S_ : zS) (hSh : ShM S_ r_) (hF : FrM S_ r_) (t_ : Int32) (n_ : Int32) : Met l yX12_twice wsX12_twice ({ frames := 2, cells := 0, slots := 0, locals := 43 } : Room) (va_Pc [.ref (r_ 0), .int t_, .int n_] (zPre cD cy S_ sz_)) (va_Qi (fun (v_ : Int32) (S1 : zS) => v_ = -1) (zPost cD cy (zAd cy S_ sz_)) (zAd cy S_ sz_)) 0 0 (zAd cy S_ sz_) := by
  refine z_ofW (cc := cX12_twice) (maxL := 8) (ret := (some .int)) (own := RX12) (QQ := fun A_ => va_Qi (fun (v_ : Int32) (S1 : zS) => v_ = -1) (zPost cD cy A_) A_) (by decide) rfl rfl (Nat.le_of_ble_eq_true rfl) ?_
  intro p_ e_ s_ m_ args_ below_ meth_ c_ A_ ls hcf hr hlk hnm hK_ hE hw hA hl
  obtain ⟨hx, hb_, hml, hown, hts⟩ := id hcf
  have hl : lv_has ls 8 [(0, .ref (r_ 0)), (1, .int t_), (2, .int n_)] := hl
  refine lv_aload_n hx hb_ dX12_twice_0 rfl (lv_at hl 0 rfl) ?_
  refine lv_iload_n hx hb_ dX12_twice_1 rfl (lv_at hl 1 rfl) ?_
  refine lv_iload_n hx hb_ dX12_twice_2 rfl (lv_at hl 2 rfl) ?_
  refine z_ki hw hA (va_runV (As := [.int t_, .int n_]) (rest := []) hcf (c_X12_walks l cD cy _ r_ S_ hSh hF t_ n_) (cwV 2 hts gX12_twice_X12_walks rfl rfl rfl (by decide +kernel) ⟨Nat.le_of_ble_eq_true rfl, Nat.le_of_ble_eq_true rfl⟩) (z_preV (k := 12) hK_ hE hw (mL hSh 0) (mK hSh 0) (by decide) rfl) rfl rfl hl.1 rfl (lv_room (Nat.le_of_ble_eq_true rfl)) dX12_twice_3 ⟨Nat.le_of_ble_eq_true rfl, Nat.le_of_ble_eq_true rfl⟩) (fun v1 S2 H_ locs_ hp hw => ?_)
  obtain ⟨rfl, rfl⟩ := hp
  refine lv_istore_n (lv' := [(3, .int (-1)), (0, .ref (r_ 0)), (1, .int t_), (2, .int n_)]) hx hb_ dX12_twice_6 rfl hl (by decide) rfl (fun ls hl => ?_)
  refine lv_iload_n hx hb_ dX12_twice_7 rfl (lv_at hl 0 rfl) ?_
  refine lv_if_eq (tgt := 17) hx hb_ dX12_twice_8 (by decide) (fun c_8 => absurd c_8 (by decide)) (fun _ => ?_)
  refine lv_aload_n hx hb_ dX12_twice_11 rfl (lv_at hl 1 rfl) ?_
  refine lv_iload_n hx hb_ dX12_twice_12 rfl (lv_at hl 0 rfl) ?_
  refine z_ki hw hA (va_runV (As := [.int (-1)]) (rest := []) hcf (c_X12_no l cD cy _ r_ S_ hSh (-1) (by decide) (by decide)) (cwV 1 hts gX12_twice_X12_no rfl rfl rfl (by decide +kernel) ⟨Nat.le_of_ble_eq_true rfl, Nat.le_of_ble_eq_true rfl⟩) (z_preV (k := 12) hK_ hE hw (mL hSh 0) (mK hSh 0) (by decide) rfl) rfl rfl hl.1 rfl (lv_room (Nat.le_of_ble_eq_true rfl)) dX12_twice_13 ⟨Nat.le_of_ble_eq_true rfl, Nat.le_of_ble_eq_true rfl⟩) (fun v3 S4 H_ locs_ hp hw => ?_)
  obtain ⟨rfl, f5, rfl⟩ := hp
  exact z_iret (ty := .int) (v := (-1)) hcf hr rfl hlk hw (rfl) dX12_twice_16

set_option maxHeartbeats 4000000 in
set_option maxRecDepth 100000 in
/-- cover on a_ model just made -/
theorem c_X12_cover (l : Launch) (cD : va_G) (cy : Nat → ClassId) (sz_ : Nat) (r_ : Nat → Nat) (S_ : zS) (hSh : ShM S_ r_) (hF : FrM S_ r_) (t_ : Int32) (n_ : Int32) : Met l yX12_cover wsX12_cover ({ frames := 2, cells := 0, slots := 0, locals := 43 } : Room) (va_Pc [.ref (r_ 0), .int t_, .int n_] (zPre cD cy S_ sz_)) (va_Qi (fun (v_ : Int32) (S1 : zS) => v_ = -1) (zPost cD cy (zAd cy S_ sz_)) (zAd cy S_ sz_)) 0 0 (zAd cy S_ sz_) := by
  refine z_ofW (cc := cX12_cover) (maxL := 5) (ret := (some .int)) (own := RX12) (QQ := fun A_ => va_Qi (fun (v_ : Int32) (S1 : zS) => v_ = -1) (zPost cD cy A_) A_) (by decide) rfl rfl (Nat.le_of_ble_eq_true rfl) ?_
  intro p_ e_ s_ m_ args_ below_ meth_ c_ A_ ls hcf hr hlk hnm hK_ hE hw hA hl
  obtain ⟨hx, hb_, hml, hown, hts⟩ := id hcf
  have hl : lv_has ls 5 [(0, .ref (r_ 0)), (1, .int t_), (2, .int n_)] := hl
  refine lv_aload_n hx hb_ dX12_cover_0 rfl (lv_at hl 0 rfl) ?_
  refine lv_iload_n hx hb_ dX12_cover_1 rfl (lv_at hl 1 rfl) ?_
  refine lv_iload_n hx hb_ dX12_cover_2 rfl (lv_at hl 2 rfl) ?_
  refine z_ki hw hA (va_runV (As := [.int t_, .int n_]) (rest := []) hcf (c_X12_walks l cD cy _ r_ S_ hSh hF t_ n_) (cwV 2 hts gX12_cover_X12_walks rfl rfl rfl (by decide +kernel) ⟨Nat.le_of_ble_eq_true rfl, Nat.le_of_ble_eq_true rfl⟩) (z_preV (k := 12) hK_ hE hw (mL hSh 0) (mK hSh 0) (by decide) rfl) rfl rfl hl.1 rfl (lv_room (Nat.le_of_ble_eq_true rfl)) dX12_cover_3 ⟨Nat.le_of_ble_eq_true rfl, Nat.le_of_ble_eq_true rfl⟩) (fun v1 S2 H_ locs_ hp hw => ?_)
  obtain ⟨rfl, rfl⟩ := hp
  refine lv_istore_n (lv' := [(3, .int (-1)), (0, .ref (r_ 0)), (1, .int t_), (2, .int n_)]) hx hb_ dX12_cover_6 rfl hl (by decide) rfl (fun ls hl => ?_)
  refine lv_iload_n hx hb_ dX12_cover_7 rfl (lv_at hl 0 rfl) ?_
  refine lv_if_eq (tgt := 17) hx hb_ dX12_cover_8 (by decide) (fun c_8 => absurd c_8 (by decide)) (fun _ => ?_)
  refine lv_aload_n hx hb_ dX12_cover_11 rfl (lv_at hl 1 rfl) ?_
  refine lv_iload_n hx hb_ dX12_cover_12 rfl (lv_at hl 0 rfl) ?_
  refine z_ki hw hA (va_runV (As := [.int (-1)]) (rest := []) hcf (c_X12_no l cD cy _ r_ S_ hSh (-1) (by decide) (by decide)) (cwV 1 hts gX12_cover_X12_no rfl rfl rfl (by decide +kernel) ⟨Nat.le_of_ble_eq_true rfl, Nat.le_of_ble_eq_true rfl⟩) (z_preV (k := 12) hK_ hE hw (mL hSh 0) (mK hSh 0) (by decide) rfl) rfl rfl hl.1 rfl (lv_room (Nat.le_of_ble_eq_true rfl)) dX12_cover_13 ⟨Nat.le_of_ble_eq_true rfl, Nat.le_of_ble_eq_true rfl⟩) (fun v3 S4 H_ locs_ hp hw => ?_)
  obtain ⟨rfl, f5, rfl⟩ := hp
  exact z_iret (ty := .int) (v := (-1)) hcf hr rfl hlk hw (rfl) dX12_cover_16

set_option maxHeartbeats 4000000 in
set_option maxRecDepth 100000 in
/-- near on a_ model just made -/
theorem c_X12_near (l : Launch) (cD : va_G) (cy : Nat → ClassId) (sz_ : Nat) (r_ : Nat → Nat) (S_ : zS) (hSh : ShM S_ r_) (hF : FrM S_ r_) (t_ : Int32) (u_ : Int32) (n_ : Int32) (x_ : Int32) (y_ : Int32) (q_ : Int32) : Met l yX12_near wsX12_near ({ frames := 1, cells := 0, slots := 0, locals := 21 } : Room) (va_Pc [.ref (r_ 0), .int t_, .int u_, .int n_, .int x_, .int y_, .int q_] (zPre cD cy S_ sz_)) (va_Qi (fun (v_ : Int32) (S1 : zS) => v_ = -1) (zPost cD cy (zAd cy S_ sz_)) (zAd cy S_ sz_)) 0 0 (zAd cy S_ sz_) := by
  refine z_ofW (cc := cX12_near) (maxL := 13) (ret := (some .int)) (own := RX12) (QQ := fun A_ => va_Qi (fun (v_ : Int32) (S1 : zS) => v_ = -1) (zPost cD cy A_) A_) (by decide) rfl rfl (Nat.le_of_ble_eq_true rfl) ?_
  intro p_ e_ s_ m_ args_ below_ meth_ c_ A_ ls hcf hr hlk hnm hK_ hE hw hA hl
  obtain ⟨hx, hb_, hml, hown, hts⟩ := id hcf
  have hl : lv_has ls 13 [(0, .ref (r_ 0)), (1, .int t_), (2, .int u_), (3, .int n_), (4, .int x_), (5, .int y_), (6, .int q_)] := hl
  refine lv_aload_n hx hb_ dX12_near_0 rfl (lv_at hl 0 rfl) ?_
  refine lv_iload_n hx hb_ dX12_near_1 rfl (lv_at hl 1 rfl) ?_
  refine z_ki hw hA (va_runV (As := [.int t_]) (rest := []) hcf (c_X12_isStrip l cD cy _ r_ S_ hSh hF.1 t_) (cwV 1 hts gX12_near_X12_isStrip rfl rfl rfl (by decide +kernel) ⟨Nat.le_of_ble_eq_true rfl, Nat.le_of_ble_eq_true rfl⟩) (z_preV (k := 12) hK_ hE hw (mL hSh 0) (mK hSh 0) (by decide) rfl) rfl rfl hl.1 rfl (lv_room (Nat.le_of_ble_eq_true rfl)) dX12_near_2 ⟨Nat.le_of_ble_eq_true rfl, Nat.le_of_ble_eq_true rfl⟩) (fun v1 S2 H_ locs_ hp hw => ?_)
  obtain ⟨rfl, rfl⟩ := hp
  refine lv_if_eq (tgt := 16) hx hb_ dX12_near_5 (by decide) (fun _ => ?_) (fun c_5 => absurd c_5 (by decide))
  refine lv_aload_n hx hb_ dX12_near_16 rfl (lv_at hl 0 rfl) ?_
  refine lv_iconst (v := (-1)) hx hb_ dX12_near_17 (by decide) ?_
  refine z_ki hw hA (va_runV (As := [.int (-1)]) (rest := []) hcf (c_X12_no l cD cy _ r_ S_ hSh (-1) (by decide) (by decide)) (cwV 1 hts gX12_near_X12_no rfl rfl rfl (by decide +kernel) ⟨Nat.le_of_ble_eq_true rfl, Nat.le_of_ble_eq_true rfl⟩) (z_preV (k := 12) hK_ hE hw (mL hSh 0) (mK hSh 0) (by decide) rfl) rfl rfl hl.1 rfl (lv_room (Nat.le_of_ble_eq_true rfl)) dX12_near_18 ⟨Nat.le_of_ble_eq_true rfl, Nat.le_of_ble_eq_true rfl⟩) (fun v3 S4 H_ locs_ hp hw => ?_)
  obtain ⟨rfl, f5, rfl⟩ := hp
  exact z_iret (ty := .int) (v := (-1)) hcf hr rfl hlk hw (rfl) dX12_near_21

set_option maxHeartbeats 4000000 in
set_option maxRecDepth 100000 in
/-- four on a_ model just made -/
theorem c_X12_four (l : Launch) (cD : va_G) (cy : Nat → ClassId) (sz_ : Nat) (r_ : Nat → Nat) (S_ : zS) (hSh : ShM S_ r_) (hF : FrM S_ r_) (t_ : Int32) (n_ : Int32) : Met l yX12_four wsX12_four ({ frames := 1, cells := 0, slots := 0, locals := 21 } : Room) (va_Pc [.ref (r_ 0), .int t_, .int n_] (zPre cD cy S_ sz_)) (va_Qi (fun (v_ : Int32) (S1 : zS) => v_ = -1) (zPost cD cy (zAd cy S_ sz_)) (zAd cy S_ sz_)) 0 0 (zAd cy S_ sz_) := by
  refine z_ofW (cc := cX12_four) (maxL := 7) (ret := (some .int)) (own := RX12) (QQ := fun A_ => va_Qi (fun (v_ : Int32) (S1 : zS) => v_ = -1) (zPost cD cy A_) A_) (by decide) rfl rfl (Nat.le_of_ble_eq_true rfl) ?_
  intro p_ e_ s_ m_ args_ below_ meth_ c_ A_ ls hcf hr hlk hnm hK_ hE hw hA hl
  obtain ⟨hx, hb_, hml, hown, hts⟩ := id hcf
  have hl : lv_has ls 7 [(0, .ref (r_ 0)), (1, .int t_), (2, .int n_)] := hl
  refine lv_aload_n hx hb_ dX12_four_0 rfl (lv_at hl 0 rfl) ?_
  refine lv_iload_n hx hb_ dX12_four_1 rfl (lv_at hl 1 rfl) ?_
  refine z_ki hw hA (va_runV (As := [.int t_]) (rest := []) hcf (c_X12_isStrip l cD cy _ r_ S_ hSh hF.1 t_) (cwV 1 hts gX12_four_X12_isStrip rfl rfl rfl (by decide +kernel) ⟨Nat.le_of_ble_eq_true rfl, Nat.le_of_ble_eq_true rfl⟩) (z_preV (k := 12) hK_ hE hw (mL hSh 0) (mK hSh 0) (by decide) rfl) rfl rfl hl.1 rfl (lv_room (Nat.le_of_ble_eq_true rfl)) dX12_four_2 ⟨Nat.le_of_ble_eq_true rfl, Nat.le_of_ble_eq_true rfl⟩) (fun v1 S2 H_ locs_ hp hw => ?_)
  obtain ⟨rfl, rfl⟩ := hp
  refine lv_if_ne (tgt := 14) hx hb_ dX12_four_5 (by decide) (fun c_5 => absurd c_5 (by decide)) (fun _ => ?_)
  refine lv_aload_n hx hb_ dX12_four_8 rfl (lv_at hl 0 rfl) ?_
  refine lv_iconst (v := (-1)) hx hb_ dX12_four_9 (by decide) ?_
  refine z_ki hw hA (va_runV (As := [.int (-1)]) (rest := []) hcf (c_X12_no l cD cy _ r_ S_ hSh (-1) (by decide) (by decide)) (cwV 1 hts gX12_four_X12_no rfl rfl rfl (by decide +kernel) ⟨Nat.le_of_ble_eq_true rfl, Nat.le_of_ble_eq_true rfl⟩) (z_preV (k := 12) hK_ hE hw (mL hSh 0) (mK hSh 0) (by decide) rfl) rfl rfl hl.1 rfl (lv_room (Nat.le_of_ble_eq_true rfl)) dX12_four_10 ⟨Nat.le_of_ble_eq_true rfl, Nat.le_of_ble_eq_true rfl⟩) (fun v3 S4 H_ locs_ hp hw => ?_)
  obtain ⟨rfl, f5, rfl⟩ := hp
  exact z_iret (ty := .int) (v := (-1)) hcf hr rfl hlk hw (rfl) dX12_four_13

set_option maxHeartbeats 4000000 in
set_option maxRecDepth 100000 in
/-- piece on a_ model just made -/
theorem c_X12_piece (l : Launch) (cD : va_G) (cy : Nat → ClassId) (sz_ : Nat) (r_ : Nat → Nat) (S_ : zS) (hSh : ShM S_ r_) (hF : FrM S_ r_) (t_ : Int32) (a_ : Int32) (n_ : Int32) (q_ : Int32) : Met l yX12_piece wsX12_piece ({ frames := 1, cells := 0, slots := 0, locals := 21 } : Room) (va_Pc [.ref (r_ 0), .int t_, .int a_, .int n_, .int q_] (zPre cD cy S_ sz_)) (va_Qi (fun (v_ : Int32) (S1 : zS) => v_ = -1) (zPost cD cy (zAd cy S_ sz_)) (zAd cy S_ sz_)) 0 0 (zAd cy S_ sz_) := by
  refine z_ofW (cc := cX12_piece) (maxL := 12) (ret := (some .int)) (own := RX12) (QQ := fun A_ => va_Qi (fun (v_ : Int32) (S1 : zS) => v_ = -1) (zPost cD cy A_) A_) (by decide) rfl rfl (Nat.le_of_ble_eq_true rfl) ?_
  intro p_ e_ s_ m_ args_ below_ meth_ c_ A_ ls hcf hr hlk hnm hK_ hE hw hA hl
  obtain ⟨hx, hb_, hml, hown, hts⟩ := id hcf
  have hl : lv_has ls 12 [(0, .ref (r_ 0)), (1, .int t_), (2, .int a_), (3, .int n_), (4, .int q_)] := hl
  refine lv_aload_n hx hb_ dX12_piece_0 rfl (lv_at hl 0 rfl) ?_
  refine lv_iload_n hx hb_ dX12_piece_1 rfl (lv_at hl 1 rfl) ?_
  refine z_ki hw hA (va_runV (As := [.int t_]) (rest := []) hcf (c_X12_isStrip l cD cy _ r_ S_ hSh hF.1 t_) (cwV 1 hts gX12_piece_X12_isStrip rfl rfl rfl (by decide +kernel) ⟨Nat.le_of_ble_eq_true rfl, Nat.le_of_ble_eq_true rfl⟩) (z_preV (k := 12) hK_ hE hw (mL hSh 0) (mK hSh 0) (by decide) rfl) rfl rfl hl.1 rfl (lv_room (Nat.le_of_ble_eq_true rfl)) dX12_piece_2 ⟨Nat.le_of_ble_eq_true rfl, Nat.le_of_ble_eq_true rfl⟩) (fun v1 S2 H_ locs_ hp hw => ?_)
  obtain ⟨rfl, rfl⟩ := hp
  refine lv_if_ne (tgt := 14) hx hb_ dX12_piece_5 (by decide) (fun c_5 => absurd c_5 (by decide)) (fun _ => ?_)
  refine lv_aload_n hx hb_ dX12_piece_8 rfl (lv_at hl 0 rfl) ?_
  refine lv_iconst (v := (-1)) hx hb_ dX12_piece_9 (by decide) ?_
  refine z_ki hw hA (va_runV (As := [.int (-1)]) (rest := []) hcf (c_X12_no l cD cy _ r_ S_ hSh (-1) (by decide) (by decide)) (cwV 1 hts gX12_piece_X12_no rfl rfl rfl (by decide +kernel) ⟨Nat.le_of_ble_eq_true rfl, Nat.le_of_ble_eq_true rfl⟩) (z_preV (k := 12) hK_ hE hw (mL hSh 0) (mK hSh 0) (by decide) rfl) rfl rfl hl.1 rfl (lv_room (Nat.le_of_ble_eq_true rfl)) dX12_piece_10 ⟨Nat.le_of_ble_eq_true rfl, Nat.le_of_ble_eq_true rfl⟩) (fun v3 S4 H_ locs_ hp hw => ?_)
  obtain ⟨rfl, f5, rfl⟩ := hp
  exact z_iret (ty := .int) (v := (-1)) hcf hr rfl hlk hw (rfl) dX12_piece_13

set_option maxHeartbeats 4000000 in
set_option maxRecDepth 100000 in
/-- when on a_ model just made -/
theorem c_X12_when (l : Launch) (cD : va_G) (cy : Nat → ClassId) (sz_ : Nat) (r_ : Nat → Nat) (S_ : zS) (hSh : ShM S_ r_) (hF : FrM S_ r_) (t_ : Int32) (x_ : Int32) (y_ : Int32) (i_ : Int32) : Met l yX12_when wsX12_when ({ frames := 1, cells := 0, slots := 0, locals := 21 } : Room) (va_Pc [.ref (r_ 0), .int t_, .int x_, .int y_, .int i_] (zPre cD cy S_ sz_)) (va_Qi (fun (v_ : Int32) (S1 : zS) => v_ = -11) (zPost cD cy (zAd cy S_ sz_)) (zAd cy S_ sz_)) 0 0 (zAd cy S_ sz_) := by
  refine z_ofW (cc := cX12_when) (maxL := 8) (ret := (some .int)) (own := RX12) (QQ := fun A_ => va_Qi (fun (v_ : Int32) (S1 : zS) => v_ = -11) (zPost cD cy A_) A_) (by decide) rfl rfl (Nat.le_of_ble_eq_true rfl) ?_
  intro p_ e_ s_ m_ args_ below_ meth_ c_ A_ ls hcf hr hlk hnm hK_ hE hw hA hl
  obtain ⟨hx, hb_, hml, hown, hts⟩ := id hcf
  have hl : lv_has ls 8 [(0, .ref (r_ 0)), (1, .int t_), (2, .int x_), (3, .int y_), (4, .int i_)] := hl
  refine lv_aload_n hx hb_ dX12_when_0 rfl (lv_at hl 0 rfl) ?_
  refine lv_iload_n hx hb_ dX12_when_1 rfl (lv_at hl 1 rfl) ?_
  refine z_ki hw hA (va_runV (As := [.int t_]) (rest := []) hcf (c_X12_isStrip l cD cy _ r_ S_ hSh hF.1 t_) (cwV 1 hts gX12_when_X12_isStrip rfl rfl rfl (by decide +kernel) ⟨Nat.le_of_ble_eq_true rfl, Nat.le_of_ble_eq_true rfl⟩) (z_preV (k := 12) hK_ hE hw (mL hSh 0) (mK hSh 0) (by decide) rfl) rfl rfl hl.1 rfl (lv_room (Nat.le_of_ble_eq_true rfl)) dX12_when_2 ⟨Nat.le_of_ble_eq_true rfl, Nat.le_of_ble_eq_true rfl⟩) (fun v1 S2 H_ locs_ hp hw => ?_)
  obtain ⟨rfl, rfl⟩ := hp
  refine lv_if_ne (tgt := 14) hx hb_ dX12_when_5 (by decide) (fun c_5 => absurd c_5 (by decide)) (fun _ => ?_)
  refine lv_aload_n hx hb_ dX12_when_8 rfl (lv_at hl 0 rfl) ?_
  refine lv_iconst (v := (-1)) hx hb_ dX12_when_9 (by decide) ?_
  refine z_ki hw hA (va_runV (As := [.int (-1)]) (rest := []) hcf (c_X12_noTen l cD cy _ r_ S_ hSh (-1) (by decide) (by decide)) (cwV 1 hts gX12_when_X12_noTen rfl rfl rfl (by decide +kernel) ⟨Nat.le_of_ble_eq_true rfl, Nat.le_of_ble_eq_true rfl⟩) (z_preV (k := 12) hK_ hE hw (mL hSh 0) (mK hSh 0) (by decide) rfl) rfl rfl hl.1 rfl (lv_room (Nat.le_of_ble_eq_true rfl)) dX12_when_10 ⟨Nat.le_of_ble_eq_true rfl, Nat.le_of_ble_eq_true rfl⟩) (fun v3 S4 H_ locs_ hp hw => ?_)
  obtain ⟨rfl, f5, rfl⟩ := hp
  refine z_topi (y := (-11)) (by decide) ?_
  exact z_iret (ty := .int) (v := (-11)) hcf hr rfl hlk hw (rfl) dX12_when_13

set_option maxHeartbeats 4000000 in
set_option maxRecDepth 100000 in
/-- words on a_ model just made -/
theorem c_X12_words (l : Launch) (cD : va_G) (cy : Nat → ClassId) (sz_ : Nat) (r_ : Nat → Nat) (S_ : zS) (hSh : ShM S_ r_) (hF : FrM S_ r_) (a_ : Int32) (n_ : Int32) (q_ : Int32) : Met l yX12_words wsX12_words ({ frames := 3, cells := 0, slots := 0, locals := 65 } : Room) (va_Pc [.ref (r_ 0), .int a_, .int n_, .int q_] (zPre cD cy S_ sz_)) (va_Qi (fun (v_ : Int32) (S1 : zS) => v_ = q_bad a_ (-11) (-13)) (zPost cD cy (zAd cy S_ sz_)) (zAd cy S_ sz_)) 0 0 (zAd cy S_ sz_) := by
  refine z_ofW (cc := cX12_words) (maxL := 7) (ret := (some .int)) (own := RX12) (QQ := fun A_ => va_Qi (fun (v_ : Int32) (S1 : zS) => v_ = q_bad a_ (-11) (-13)) (zPost cD cy A_) A_) (by decide) rfl rfl (Nat.le_of_ble_eq_true rfl) ?_
  intro p_ e_ s_ m_ args_ below_ meth_ c_ A_ ls hcf hr hlk hnm hK_ hE hw hA hl
  obtain ⟨hx, hb_, hml, hown, hts⟩ := id hcf
  have hl : lv_has ls 7 [(0, .ref (r_ 0)), (1, .int a_), (2, .int n_), (3, .int q_)] := hl
  refine lv_aload_n hx hb_ dX12_words_0 rfl (lv_at hl 0 rfl) ?_
  refine lv_iload_n hx hb_ dX12_words_1 rfl (lv_at hl 1 rfl) ?_
  refine lv_iload_n hx hb_ dX12_words_2 rfl (lv_at hl 2 rfl) ?_
  refine z_ki hw hA (va_runV (As := [.int a_, .int n_]) (rest := []) hcf (c_X12_bars l cD cy _ r_ S_ hSh hF a_ n_) (cwV 2 hts gX12_words_X12_bars rfl rfl rfl (by decide +kernel) ⟨Nat.le_of_ble_eq_true rfl, Nat.le_of_ble_eq_true rfl⟩) (z_preV (k := 12) hK_ hE hw (mL hSh 0) (mK hSh 0) (by decide) rfl) rfl rfl hl.1 rfl (lv_room (Nat.le_of_ble_eq_true rfl)) dX12_words_3 ⟨Nat.le_of_ble_eq_true rfl, Nat.le_of_ble_eq_true rfl⟩) (fun v1 S2 H_ locs_ hp hw => ?_)
  obtain ⟨hp, rfl⟩ := hp
  rcases hp with ⟨hs3, rfl⟩ | ⟨⟨ha3, hb3⟩, rfl⟩
  · refine lv_istore (lv' := [(4, .int (-1)), (0, .ref (r_ 0)), (1, .int a_), (2, .int n_), (3, .int q_)]) hx hb_ dX12_words_6 hl (by decide) rfl (fun ls hl => ?_)
    refine lv_iload hx hb_ dX12_words_8 (lv_at hl 0 rfl) ?_
    refine lv_if_eq (tgt := 20) hx hb_ dX12_words_10 (by decide) (fun c_10 => absurd c_10 (by decide)) (fun _ => ?_)
    refine lv_aload_n hx hb_ dX12_words_13 rfl (lv_at hl 1 rfl) ?_
    refine lv_iload hx hb_ dX12_words_14 (lv_at hl 0 rfl) ?_
    refine z_ki hw hA (va_runV (As := [.int (-1)]) (rest := []) hcf (c_X12_noTen l cD cy _ r_ S_ hSh (-1) (by decide) (by decide)) (cwV 1 hts gX12_words_X12_noTen rfl rfl rfl (by decide +kernel) ⟨Nat.le_of_ble_eq_true rfl, Nat.le_of_ble_eq_true rfl⟩) (z_preV (k := 12) hK_ hE hw (mL hSh 0) (mK hSh 0) (by decide) rfl) rfl rfl hl.1 rfl (lv_room (Nat.le_of_ble_eq_true rfl)) dX12_words_16 ⟨Nat.le_of_ble_eq_true rfl, Nat.le_of_ble_eq_true rfl⟩) (fun v4 S5 H_ locs_ hp hw => ?_)
    obtain ⟨rfl, f6, rfl⟩ := hp
    refine z_topi (y := (-11)) (by decide) ?_
    exact z_iret (ty := .int) (v := (-11)) hcf hr rfl hlk hw (by first | (simp [q_bad, hs3]; done) | (rcases hs3 with q_ | q_ <;> (simp [q_bad, q_]; done)) | (simp_all [q_bad]; done)) dX12_words_19
  · refine lv_istore (lv' := [(4, .int (-3)), (0, .ref (r_ 0)), (1, .int a_), (2, .int n_), (3, .int q_)]) hx hb_ dX12_words_6 hl (by decide) rfl (fun ls hl => ?_)
    refine lv_iload hx hb_ dX12_words_8 (lv_at hl 0 rfl) ?_
    refine lv_if_eq (tgt := 20) hx hb_ dX12_words_10 (by decide) (fun c_10 => absurd c_10 (by decide)) (fun _ => ?_)
    refine lv_aload_n hx hb_ dX12_words_13 rfl (lv_at hl 1 rfl) ?_
    refine lv_iload hx hb_ dX12_words_14 (lv_at hl 0 rfl) ?_
    refine z_ki hw hA (va_runV (As := [.int (-3)]) (rest := []) hcf (c_X12_noTen l cD cy _ r_ S_ hSh (-3) (by decide) (by decide)) (cwV 1 hts gX12_words_X12_noTen rfl rfl rfl (by decide +kernel) ⟨Nat.le_of_ble_eq_true rfl, Nat.le_of_ble_eq_true rfl⟩) (z_preV (k := 12) hK_ hE hw (mL hSh 0) (mK hSh 0) (by decide) rfl) rfl rfl hl.1 rfl (lv_room (Nat.le_of_ble_eq_true rfl)) dX12_words_16 ⟨Nat.le_of_ble_eq_true rfl, Nat.le_of_ble_eq_true rfl⟩) (fun v7 S8 H_ locs_ hp hw => ?_)
    obtain ⟨rfl, f9, rfl⟩ := hp
    refine z_topi (y := (-13)) (by decide) ?_
    exact z_iret (ty := .int) (v := (-13)) hcf hr rfl hlk hw (by first | (simp [q_bad, ha3, hb3]; done) | (simp_all [q_bad]; done)) dX12_words_19

set_option maxHeartbeats 4000000 in
set_option maxRecDepth 100000 in
/-- wrong on a_ model just made -/
theorem c_X12_wrong (l : Launch) (cD : va_G) (cy : Nat → ClassId) (sz_ : Nat) (r_ : Nat → Nat) (S_ : zS) (hSh : ShM S_ r_) (hF : FrM S_ r_) (a_ : Int32) (n_ : Int32) : Met l yX12_wrong wsX12_wrong ({ frames := 3, cells := 0, slots := 0, locals := 65 } : Room) (va_Pc [.ref (r_ 0), .int a_, .int n_] (zPre cD cy S_ sz_)) (va_Qi (fun (v_ : Int32) (S1 : zS) => v_ = q_bad a_ (-11) (-13)) (zPost cD cy (zAd cy S_ sz_)) (zAd cy S_ sz_)) 0 0 (zAd cy S_ sz_) := by
  refine z_ofW (cc := cX12_wrong) (maxL := 4) (ret := (some .int)) (own := RX12) (QQ := fun A_ => va_Qi (fun (v_ : Int32) (S1 : zS) => v_ = q_bad a_ (-11) (-13)) (zPost cD cy A_) A_) (by decide) rfl rfl (Nat.le_of_ble_eq_true rfl) ?_
  intro p_ e_ s_ m_ args_ below_ meth_ c_ A_ ls hcf hr hlk hnm hK_ hE hw hA hl
  obtain ⟨hx, hb_, hml, hown, hts⟩ := id hcf
  have hl : lv_has ls 4 [(0, .ref (r_ 0)), (1, .int a_), (2, .int n_)] := hl
  refine lv_aload_n hx hb_ dX12_wrong_0 rfl (lv_at hl 0 rfl) ?_
  refine lv_iload_n hx hb_ dX12_wrong_1 rfl (lv_at hl 1 rfl) ?_
  refine lv_iload_n hx hb_ dX12_wrong_2 rfl (lv_at hl 2 rfl) ?_
  refine z_ki hw hA (va_runV (As := [.int a_, .int n_]) (rest := []) hcf (c_X12_bars l cD cy _ r_ S_ hSh hF a_ n_) (cwV 2 hts gX12_wrong_X12_bars rfl rfl rfl (by decide +kernel) ⟨Nat.le_of_ble_eq_true rfl, Nat.le_of_ble_eq_true rfl⟩) (z_preV (k := 12) hK_ hE hw (mL hSh 0) (mK hSh 0) (by decide) rfl) rfl rfl hl.1 rfl (lv_room (Nat.le_of_ble_eq_true rfl)) dX12_wrong_3 ⟨Nat.le_of_ble_eq_true rfl, Nat.le_of_ble_eq_true rfl⟩) (fun v1 S2 H_ locs_ hp hw => ?_)
  obtain ⟨hp, rfl⟩ := hp
  rcases hp with ⟨hs3, rfl⟩ | ⟨⟨ha3, hb3⟩, rfl⟩
  · refine lv_istore_n (lv' := [(3, .int (-1)), (0, .ref (r_ 0)), (1, .int a_), (2, .int n_)]) hx hb_ dX12_wrong_6 rfl hl (by decide) rfl (fun ls hl => ?_)
    refine lv_iload_n hx hb_ dX12_wrong_7 rfl (lv_at hl 0 rfl) ?_
    refine lv_if_eq (tgt := 17) hx hb_ dX12_wrong_8 (by decide) (fun c_8 => absurd c_8 (by decide)) (fun _ => ?_)
    refine lv_aload_n hx hb_ dX12_wrong_11 rfl (lv_at hl 1 rfl) ?_
    refine lv_iload_n hx hb_ dX12_wrong_12 rfl (lv_at hl 0 rfl) ?_
    refine z_ki hw hA (va_runV (As := [.int (-1)]) (rest := []) hcf (c_X12_noTen l cD cy _ r_ S_ hSh (-1) (by decide) (by decide)) (cwV 1 hts gX12_wrong_X12_noTen rfl rfl rfl (by decide +kernel) ⟨Nat.le_of_ble_eq_true rfl, Nat.le_of_ble_eq_true rfl⟩) (z_preV (k := 12) hK_ hE hw (mL hSh 0) (mK hSh 0) (by decide) rfl) rfl rfl hl.1 rfl (lv_room (Nat.le_of_ble_eq_true rfl)) dX12_wrong_13 ⟨Nat.le_of_ble_eq_true rfl, Nat.le_of_ble_eq_true rfl⟩) (fun v4 S5 H_ locs_ hp hw => ?_)
    obtain ⟨rfl, f6, rfl⟩ := hp
    refine z_topi (y := (-11)) (by decide) ?_
    exact z_iret (ty := .int) (v := (-11)) hcf hr rfl hlk hw (by first | (simp [q_bad, hs3]; done) | (rcases hs3 with q_ | q_ <;> (simp [q_bad, q_]; done)) | (simp_all [q_bad]; done)) dX12_wrong_16
  · refine lv_istore_n (lv' := [(3, .int (-3)), (0, .ref (r_ 0)), (1, .int a_), (2, .int n_)]) hx hb_ dX12_wrong_6 rfl hl (by decide) rfl (fun ls hl => ?_)
    refine lv_iload_n hx hb_ dX12_wrong_7 rfl (lv_at hl 0 rfl) ?_
    refine lv_if_eq (tgt := 17) hx hb_ dX12_wrong_8 (by decide) (fun c_8 => absurd c_8 (by decide)) (fun _ => ?_)
    refine lv_aload_n hx hb_ dX12_wrong_11 rfl (lv_at hl 1 rfl) ?_
    refine lv_iload_n hx hb_ dX12_wrong_12 rfl (lv_at hl 0 rfl) ?_
    refine z_ki hw hA (va_runV (As := [.int (-3)]) (rest := []) hcf (c_X12_noTen l cD cy _ r_ S_ hSh (-3) (by decide) (by decide)) (cwV 1 hts gX12_wrong_X12_noTen rfl rfl rfl (by decide +kernel) ⟨Nat.le_of_ble_eq_true rfl, Nat.le_of_ble_eq_true rfl⟩) (z_preV (k := 12) hK_ hE hw (mL hSh 0) (mK hSh 0) (by decide) rfl) rfl rfl hl.1 rfl (lv_room (Nat.le_of_ble_eq_true rfl)) dX12_wrong_13 ⟨Nat.le_of_ble_eq_true rfl, Nat.le_of_ble_eq_true rfl⟩) (fun v7 S8 H_ locs_ hp hw => ?_)
    obtain ⟨rfl, f9, rfl⟩ := hp
    refine z_topi (y := (-13)) (by decide) ?_
    exact z_iret (ty := .int) (v := (-13)) hcf hr rfl hlk hw (by first | (simp [q_bad, ha3, hb3]; done) | (simp_all [q_bad]; done)) dX12_wrong_16

set_option maxHeartbeats 4000000 in
set_option maxRecDepth 100000 in
/-- mend on a_ model just made -/
theorem c_X12_mend (l : Launch) (cD : va_G) (cy : Nat → ClassId) (sz_ : Nat) (r_ : Nat → Nat) (S_ : zS) (hSh : ShM S_ r_) (hF : FrM S_ r_) (a_ : Int32) (n_ : Int32) : Met l yX12_mend wsX12_mend ({ frames := 3, cells := 0, slots := 0, locals := 65 } : Room) (va_Pc [.ref (r_ 0), .int a_, .int n_] (zPre cD cy S_ sz_)) (va_Qi (fun (v_ : Int32) (S1 : zS) => v_ = q_bad a_ (-1) (-3)) (zPost cD cy (zAd cy S_ sz_)) (zAd cy S_ sz_)) 0 0 (zAd cy S_ sz_) := by
  refine z_ofW (cc := cX12_mend) (maxL := 6) (ret := (some .int)) (own := RX12) (QQ := fun A_ => va_Qi (fun (v_ : Int32) (S1 : zS) => v_ = q_bad a_ (-1) (-3)) (zPost cD cy A_) A_) (by decide) rfl rfl (Nat.le_of_ble_eq_true rfl) ?_
  intro p_ e_ s_ m_ args_ below_ meth_ c_ A_ ls hcf hr hlk hnm hK_ hE hw hA hl
  obtain ⟨hx, hb_, hml, hown, hts⟩ := id hcf
  have hl : lv_has ls 6 [(0, .ref (r_ 0)), (1, .int a_), (2, .int n_)] := hl
  refine lv_aload_n hx hb_ dX12_mend_0 rfl (lv_at hl 0 rfl) ?_
  refine lv_iload_n hx hb_ dX12_mend_1 rfl (lv_at hl 1 rfl) ?_
  refine lv_iload_n hx hb_ dX12_mend_2 rfl (lv_at hl 2 rfl) ?_
  refine z_ki hw hA (va_runV (As := [.int a_, .int n_]) (rest := []) hcf (c_X12_bars l cD cy _ r_ S_ hSh hF a_ n_) (cwV 2 hts gX12_mend_X12_bars rfl rfl rfl (by decide +kernel) ⟨Nat.le_of_ble_eq_true rfl, Nat.le_of_ble_eq_true rfl⟩) (z_preV (k := 12) hK_ hE hw (mL hSh 0) (mK hSh 0) (by decide) rfl) rfl rfl hl.1 rfl (lv_room (Nat.le_of_ble_eq_true rfl)) dX12_mend_3 ⟨Nat.le_of_ble_eq_true rfl, Nat.le_of_ble_eq_true rfl⟩) (fun v1 S2 H_ locs_ hp hw => ?_)
  obtain ⟨hp, rfl⟩ := hp
  rcases hp with ⟨hs3, rfl⟩ | ⟨⟨ha3, hb3⟩, rfl⟩
  · refine lv_istore_n (lv' := [(3, .int (-1)), (0, .ref (r_ 0)), (1, .int a_), (2, .int n_)]) hx hb_ dX12_mend_6 rfl hl (by decide) rfl (fun ls hl => ?_)
    refine lv_iload_n hx hb_ dX12_mend_7 rfl (lv_at hl 0 rfl) ?_
    refine lv_if_eq (tgt := 17) hx hb_ dX12_mend_8 (by decide) (fun c_8 => absurd c_8 (by decide)) (fun _ => ?_)
    refine lv_aload_n hx hb_ dX12_mend_11 rfl (lv_at hl 1 rfl) ?_
    refine lv_iload_n hx hb_ dX12_mend_12 rfl (lv_at hl 0 rfl) ?_
    refine z_ki hw hA (va_runV (As := [.int (-1)]) (rest := []) hcf (c_X12_no l cD cy _ r_ S_ hSh (-1) (by decide) (by decide)) (cwV 1 hts gX12_mend_X12_no rfl rfl rfl (by decide +kernel) ⟨Nat.le_of_ble_eq_true rfl, Nat.le_of_ble_eq_true rfl⟩) (z_preV (k := 12) hK_ hE hw (mL hSh 0) (mK hSh 0) (by decide) rfl) rfl rfl hl.1 rfl (lv_room (Nat.le_of_ble_eq_true rfl)) dX12_mend_13 ⟨Nat.le_of_ble_eq_true rfl, Nat.le_of_ble_eq_true rfl⟩) (fun v4 S5 H_ locs_ hp hw => ?_)
    obtain ⟨rfl, f6, rfl⟩ := hp
    exact z_iret (ty := .int) (v := (-1)) hcf hr rfl hlk hw (by first | (simp [q_bad, hs3]; done) | (rcases hs3 with q_ | q_ <;> (simp [q_bad, q_]; done)) | (simp_all [q_bad]; done)) dX12_mend_16
  · refine lv_istore_n (lv' := [(3, .int (-3)), (0, .ref (r_ 0)), (1, .int a_), (2, .int n_)]) hx hb_ dX12_mend_6 rfl hl (by decide) rfl (fun ls hl => ?_)
    refine lv_iload_n hx hb_ dX12_mend_7 rfl (lv_at hl 0 rfl) ?_
    refine lv_if_eq (tgt := 17) hx hb_ dX12_mend_8 (by decide) (fun c_8 => absurd c_8 (by decide)) (fun _ => ?_)
    refine lv_aload_n hx hb_ dX12_mend_11 rfl (lv_at hl 1 rfl) ?_
    refine lv_iload_n hx hb_ dX12_mend_12 rfl (lv_at hl 0 rfl) ?_
    refine z_ki hw hA (va_runV (As := [.int (-3)]) (rest := []) hcf (c_X12_no l cD cy _ r_ S_ hSh (-3) (by decide) (by decide)) (cwV 1 hts gX12_mend_X12_no rfl rfl rfl (by decide +kernel) ⟨Nat.le_of_ble_eq_true rfl, Nat.le_of_ble_eq_true rfl⟩) (z_preV (k := 12) hK_ hE hw (mL hSh 0) (mK hSh 0) (by decide) rfl) rfl rfl hl.1 rfl (lv_room (Nat.le_of_ble_eq_true rfl)) dX12_mend_13 ⟨Nat.le_of_ble_eq_true rfl, Nat.le_of_ble_eq_true rfl⟩) (fun v7 S8 H_ locs_ hp hw => ?_)
    obtain ⟨rfl, f9, rfl⟩ := hp
    exact z_iret (ty := .int) (v := (-3)) hcf hr rfl hlk hw (by first | (simp [q_bad, ha3, hb3]; done) | (simp_all [q_bad]; done)) dX12_mend_16

set_option maxHeartbeats 4000000 in
set_option maxRecDepth 100000 in
/-- judge on a_ model just made -/
theorem c_X12_judge (l : Launch) (cD : va_G) (cy : Nat → ClassId) (sz_ : Nat) (r_ : Nat → Nat) (S_ : zS) (hSh : ShM S_ r_) (hF : FrM S_ r_) (t_ : Int32) (a_ : Int32) (n_ : Int32) : Met l yX12_judge wsX12_judge ({ frames := 1, cells := 0, slots := 0, locals := 21 } : Room) (va_Pc [.ref (r_ 0), .int t_, .int a_, .int n_] (zPre cD cy S_ sz_)) (va_Qi (fun (v_ : Int32) (S1 : zS) => v_ = -11) (zPost cD cy (zAd cy S_ sz_)) (zAd cy S_ sz_)) 0 0 (zAd cy S_ sz_) := by
  refine z_ofW (cc := cX12_judge) (maxL := 7) (ret := (some .int)) (own := RX12) (QQ := fun A_ => va_Qi (fun (v_ : Int32) (S1 : zS) => v_ = -11) (zPost cD cy A_) A_) (by decide) rfl rfl (Nat.le_of_ble_eq_true rfl) ?_
  intro p_ e_ s_ m_ args_ below_ meth_ c_ A_ ls hcf hr hlk hnm hK_ hE hw hA hl
  obtain ⟨hx, hb_, hml, hown, hts⟩ := id hcf
  have hl : lv_has ls 7 [(0, .ref (r_ 0)), (1, .int t_), (2, .int a_), (3, .int n_)] := hl
  refine lv_aload_n hx hb_ dX12_judge_0 rfl (lv_at hl 0 rfl) ?_
  refine lv_iload_n hx hb_ dX12_judge_1 rfl (lv_at hl 1 rfl) ?_
  refine z_ki hw hA (va_runV (As := [.int t_]) (rest := []) hcf (c_X12_isStrip l cD cy _ r_ S_ hSh hF.1 t_) (cwV 1 hts gX12_judge_X12_isStrip rfl rfl rfl (by decide +kernel) ⟨Nat.le_of_ble_eq_true rfl, Nat.le_of_ble_eq_true rfl⟩) (z_preV (k := 12) hK_ hE hw (mL hSh 0) (mK hSh 0) (by decide) rfl) rfl rfl hl.1 rfl (lv_room (Nat.le_of_ble_eq_true rfl)) dX12_judge_2 ⟨Nat.le_of_ble_eq_true rfl, Nat.le_of_ble_eq_true rfl⟩) (fun v1 S2 H_ locs_ hp hw => ?_)
  obtain ⟨rfl, rfl⟩ := hp
  refine lv_if_ne (tgt := 14) hx hb_ dX12_judge_5 (by decide) (fun c_5 => absurd c_5 (by decide)) (fun _ => ?_)
  refine lv_aload_n hx hb_ dX12_judge_8 rfl (lv_at hl 0 rfl) ?_
  refine lv_iconst (v := (-1)) hx hb_ dX12_judge_9 (by decide) ?_
  refine z_ki hw hA (va_runV (As := [.int (-1)]) (rest := []) hcf (c_X12_noTen l cD cy _ r_ S_ hSh (-1) (by decide) (by decide)) (cwV 1 hts gX12_judge_X12_noTen rfl rfl rfl (by decide +kernel) ⟨Nat.le_of_ble_eq_true rfl, Nat.le_of_ble_eq_true rfl⟩) (z_preV (k := 12) hK_ hE hw (mL hSh 0) (mK hSh 0) (by decide) rfl) rfl rfl hl.1 rfl (lv_room (Nat.le_of_ble_eq_true rfl)) dX12_judge_10 ⟨Nat.le_of_ble_eq_true rfl, Nat.le_of_ble_eq_true rfl⟩) (fun v3 S4 H_ locs_ hp hw => ?_)
  obtain ⟨rfl, f5, rfl⟩ := hp
  refine z_topi (y := (-11)) (by decide) ?_
  exact z_iret (ty := .int) (v := (-11)) hcf hr rfl hlk hw (rfl) dX12_judge_13

set_option maxHeartbeats 4000000 in
set_option maxRecDepth 100000 in
/-- can on a_ model just made -/
theorem c_X12_can (l : Launch) (cD : va_G) (cy : Nat → ClassId) (sz_ : Nat) (r_ : Nat → Nat) (S_ : zS) (hSh : ShM S_ r_) (hF : FrM S_ r_) (a_ : Int32) (n_ : Int32) : Met l yX12_can wsX12_can ({ frames := 3, cells := 0, slots := 0, locals := 65 } : Room) (va_Pc [.ref (r_ 0), .int a_, .int n_] (zPre cD cy S_ sz_)) (va_Qi (fun (v_ : Int32) (S1 : zS) => v_ = q_bad a_ (-1) (-3)) (zPost cD cy (zAd cy S_ sz_)) (zAd cy S_ sz_)) 0 0 (zAd cy S_ sz_) := by
  refine z_ofW (cc := cX12_can) (maxL := 7) (ret := (some .int)) (own := RX12) (QQ := fun A_ => va_Qi (fun (v_ : Int32) (S1 : zS) => v_ = q_bad a_ (-1) (-3)) (zPost cD cy A_) A_) (by decide) rfl rfl (Nat.le_of_ble_eq_true rfl) ?_
  intro p_ e_ s_ m_ args_ below_ meth_ c_ A_ ls hcf hr hlk hnm hK_ hE hw hA hl
  obtain ⟨hx, hb_, hml, hown, hts⟩ := id hcf
  have hl : lv_has ls 7 [(0, .ref (r_ 0)), (1, .int a_), (2, .int n_)] := hl
  refine lv_aload_n hx hb_ dX12_can_0 rfl (lv_at hl 0 rfl) ?_
  refine lv_iload_n hx hb_ dX12_can_1 rfl (lv_at hl 1 rfl) ?_
  refine lv_iload_n hx hb_ dX12_can_2 rfl (lv_at hl 2 rfl) ?_
  refine z_ki hw hA (va_runV (As := [.int a_, .int n_]) (rest := []) hcf (c_X12_bars l cD cy _ r_ S_ hSh hF a_ n_) (cwV 2 hts gX12_can_X12_bars rfl rfl rfl (by decide +kernel) ⟨Nat.le_of_ble_eq_true rfl, Nat.le_of_ble_eq_true rfl⟩) (z_preV (k := 12) hK_ hE hw (mL hSh 0) (mK hSh 0) (by decide) rfl) rfl rfl hl.1 rfl (lv_room (Nat.le_of_ble_eq_true rfl)) dX12_can_3 ⟨Nat.le_of_ble_eq_true rfl, Nat.le_of_ble_eq_true rfl⟩) (fun v1 S2 H_ locs_ hp hw => ?_)
  obtain ⟨hp, rfl⟩ := hp
  rcases hp with ⟨hs3, rfl⟩ | ⟨⟨ha3, hb3⟩, rfl⟩
  · refine lv_istore_n (lv' := [(3, .int (-1)), (0, .ref (r_ 0)), (1, .int a_), (2, .int n_)]) hx hb_ dX12_can_6 rfl hl (by decide) rfl (fun ls hl => ?_)
    refine lv_iload_n hx hb_ dX12_can_7 rfl (lv_at hl 0 rfl) ?_
    refine lv_if_eq (tgt := 17) hx hb_ dX12_can_8 (by decide) (fun c_8 => absurd c_8 (by decide)) (fun _ => ?_)
    refine lv_aload_n hx hb_ dX12_can_11 rfl (lv_at hl 1 rfl) ?_
    refine lv_iload_n hx hb_ dX12_can_12 rfl (lv_at hl 0 rfl) ?_
    refine z_ki hw hA (va_runV (As := [.int (-1)]) (rest := []) hcf (c_X12_no l cD cy _ r_ S_ hSh (-1) (by decide) (by decide)) (cwV 1 hts gX12_can_X12_no rfl rfl rfl (by decide +kernel) ⟨Nat.le_of_ble_eq_true rfl, Nat.le_of_ble_eq_true rfl⟩) (z_preV (k := 12) hK_ hE hw (mL hSh 0) (mK hSh 0) (by decide) rfl) rfl rfl hl.1 rfl (lv_room (Nat.le_of_ble_eq_true rfl)) dX12_can_13 ⟨Nat.le_of_ble_eq_true rfl, Nat.le_of_ble_eq_true rfl⟩) (fun v4 S5 H_ locs_ hp hw => ?_)
    obtain ⟨rfl, f6, rfl⟩ := hp
    exact z_iret (ty := .int) (v := (-1)) hcf hr rfl hlk hw (by first | (simp [q_bad, hs3]; done) | (rcases hs3 with q_ | q_ <;> (simp [q_bad, q_]; done)) | (simp_all [q_bad]; done)) dX12_can_16
  · refine lv_istore_n (lv' := [(3, .int (-3)), (0, .ref (r_ 0)), (1, .int a_), (2, .int n_)]) hx hb_ dX12_can_6 rfl hl (by decide) rfl (fun ls hl => ?_)
    refine lv_iload_n hx hb_ dX12_can_7 rfl (lv_at hl 0 rfl) ?_
    refine lv_if_eq (tgt := 17) hx hb_ dX12_can_8 (by decide) (fun c_8 => absurd c_8 (by decide)) (fun _ => ?_)
    refine lv_aload_n hx hb_ dX12_can_11 rfl (lv_at hl 1 rfl) ?_
    refine lv_iload_n hx hb_ dX12_can_12 rfl (lv_at hl 0 rfl) ?_
    refine z_ki hw hA (va_runV (As := [.int (-3)]) (rest := []) hcf (c_X12_no l cD cy _ r_ S_ hSh (-3) (by decide) (by decide)) (cwV 1 hts gX12_can_X12_no rfl rfl rfl (by decide +kernel) ⟨Nat.le_of_ble_eq_true rfl, Nat.le_of_ble_eq_true rfl⟩) (z_preV (k := 12) hK_ hE hw (mL hSh 0) (mK hSh 0) (by decide) rfl) rfl rfl hl.1 rfl (lv_room (Nat.le_of_ble_eq_true rfl)) dX12_can_13 ⟨Nat.le_of_ble_eq_true rfl, Nat.le_of_ble_eq_true rfl⟩) (fun v7 S8 H_ locs_ hp hw => ?_)
    obtain ⟨rfl, f9, rfl⟩ := hp
    exact z_iret (ty := .int) (v := (-3)) hcf hr rfl hlk hw (by first | (simp [q_bad, ha3, hb3]; done) | (simp_all [q_bad]; done)) dX12_can_16

set_option maxHeartbeats 4000000 in
set_option maxRecDepth 100000 in
/-- drop on a_ model just made -/
theorem c_X12_drop (l : Launch) (cD : va_G) (cy : Nat → ClassId) (sz_ : Nat) (r_ : Nat → Nat) (S_ : zS) (hSh : ShM S_ r_) (hF : FrM S_ r_) : Met l yX12_drop wsX12_drop ({ frames := 1, cells := 0, slots := 0, locals := 21 } : Room) (va_Pc [.ref (r_ 0)] (zPre cD cy S_ sz_)) (va_Qi (fun (v_ : Int32) (S1 : zS) => v_ = -6) (zPost cD cy (zAd cy S_ sz_)) (zAd cy S_ sz_)) 0 0 (zAd cy S_ sz_) := by
  refine z_ofW (cc := cX12_drop) (maxL := 2) (ret := (some .int)) (own := RX12) (QQ := fun A_ => va_Qi (fun (v_ : Int32) (S1 : zS) => v_ = -6) (zPost cD cy A_) A_) (by decide) rfl rfl (Nat.le_of_ble_eq_true rfl) ?_
  intro p_ e_ s_ m_ args_ below_ meth_ c_ A_ ls hcf hr hlk hnm hK_ hE hw hA hl
  obtain ⟨hx, hb_, hml, hown, hts⟩ := id hcf
  have hin12 : ∀ w_ ∈ wsX120, w_ ∈ wsX12_drop := fun w_ h_ => (List.mem_cons_of_mem _ (List.mem_append_right _ h_))
  have hl : lv_has ls 2 [(0, .ref (r_ 0))] := hl
  refine lv_aload_n hx hb_ dX12_drop_0 rfl (lv_at hl 0 rfl) ?_
  refine z_get (k := 12) (i := 0) (j := 1200) (v := .int 0) (ref := "FoldedInHalfModel") (C := RX12) (T := TX12) (N := 56) hcf hK_ hw hin12 (mL hSh 0) (mK hSh 0) rfl (by decide) (by decide) rfl rfl (congrArg Value.int hF.1) (List.mem_of_getElem? (i := 1) rfl) (fun _ h_ => h_) dX12_drop_1 ?_
  refine lv_if_ne (tgt := 14) hx hb_ dX12_drop_4 (by decide) (fun c_4 => absurd c_4 (by decide)) (fun _ => ?_)
  refine lv_aload_n hx hb_ dX12_drop_7 rfl (lv_at hl 0 rfl) ?_
  refine lv_bipush (v := (-6)) hx hb_ dX12_drop_8 (by decide) ?_
  refine z_ki hw hA (va_runV (As := [.int (-6)]) (rest := []) hcf (c_X12_no l cD cy _ r_ S_ hSh (-6) (by decide) (by decide)) (cwV 1 hts gX12_drop_X12_no rfl rfl rfl (by decide +kernel) ⟨Nat.le_of_ble_eq_true rfl, Nat.le_of_ble_eq_true rfl⟩) (z_preV (k := 12) hK_ hE hw (mL hSh 0) (mK hSh 0) (by decide) rfl) rfl rfl hl.1 rfl (lv_room (Nat.le_of_ble_eq_true rfl)) dX12_drop_10 ⟨Nat.le_of_ble_eq_true rfl, Nat.le_of_ble_eq_true rfl⟩) (fun v1 S2 H_ locs_ hp hw => ?_)
  obtain ⟨rfl, f3_, rfl⟩ := hp
  exact z_iret (ty := .int) (v := (-6)) hcf hr rfl hlk hw (rfl) dX12_drop_13

set_option maxHeartbeats 4000000 in
set_option maxRecDepth 100000 in
/-- act on a_ model just made -/
theorem c_X12_act (l : Launch) (cD : va_G) (cy : Nat → ClassId) (sz_ : Nat) (r_ : Nat → Nat) (S_ : zS) (hSh : ShM S_ r_) (hF : FrM S_ r_) (t_ : Int32) (k_ : Int32) (x_ : Int32) : Met l yX12_act wsX12_act ({ frames := 1, cells := 0, slots := 0, locals := 21 } : Room) (va_Pc [.ref (r_ 0), .int t_, .int k_, .int x_] (zPre cD cy S_ sz_)) (va_Qi (fun (v_ : Int32) (S1 : zS) => v_ = 0) (zPost cD cy (zAd cy S_ sz_)) (zAd cy S_ sz_)) 0 0 (zAd cy S_ sz_) := by
  refine z_ofW (cc := cX12_act) (maxL := 4) (ret := (some .int)) (own := RX12) (QQ := fun A_ => va_Qi (fun (v_ : Int32) (S1 : zS) => v_ = 0) (zPost cD cy A_) A_) (by decide) rfl rfl (Nat.le_of_ble_eq_true rfl) ?_
  intro p_ e_ s_ m_ args_ below_ meth_ c_ A_ ls hcf hr hlk hnm hK_ hE hw hA hl
  obtain ⟨hx, hb_, hml, hown, hts⟩ := id hcf
  have hin12 : ∀ w_ ∈ wsX120, w_ ∈ wsX12_act := fun w_ h_ => (List.mem_cons_of_mem _ (List.mem_append_right _ h_))
  have hl : lv_has ls 4 [(0, .ref (r_ 0)), (1, .int t_), (2, .int k_), (3, .int x_)] := hl
  refine lv_aload_n hx hb_ dX12_act_0 rfl (lv_at hl 0 rfl) ?_
  refine lv_iconst (v := 0) hx hb_ dX12_act_1 (by decide) ?_
  refine z_putI (k := 12) (i := 54) (j := 1254) (x := 0) (v := .int 0) (ty := .int) (ref := "FoldedInHalfModel") (C := RX12) (T := TX12) (N := 56) tyX12 hcf hK_ hw hin12 tyX12_ok nmX12 (mL hSh 0) (mK hSh 0) rfl (by decide) (by decide) rfl rfl (List.mem_of_getElem? (i := 1) rfl) (fun _ h_ => h_) rfl rfl (by decide +kernel) rfl rfl dX12_act_2 (fun H_ locs_ hw => ?_)
  refine lv_aload_n hx hb_ dX12_act_5 rfl (lv_at hl 0 rfl) ?_
  refine lv_iload_n hx hb_ dX12_act_6 rfl (lv_at hl 1 rfl) ?_
  refine z_ki hw hA (va_runV (As := [.int t_]) (rest := []) hcf (c_X12_isStrip l cD cy _ r_ (zsI S_ 1254 (r_ 0) 0) hSh hF.1 t_) (cwV 1 hts gX12_act_X12_isStrip rfl rfl rfl (by decide +kernel) ⟨Nat.le_of_ble_eq_true rfl, Nat.le_of_ble_eq_true rfl⟩) (z_preV (k := 12) hK_ hE hw (mL hSh 0) (mK hSh 0) (by decide) rfl) rfl rfl hl.1 rfl (lv_room (Nat.le_of_ble_eq_true rfl)) dX12_act_7 ⟨Nat.le_of_ble_eq_true rfl, Nat.le_of_ble_eq_true rfl⟩) (fun v1 S2 H_ locs_ hp hw => ?_)
  obtain ⟨rfl, rfl⟩ := hp
  refine lv_if_eq (tgt := 22) hx hb_ dX12_act_10 (by decide) (fun _ => ?_) (fun c_10 => absurd c_10 (by decide))
  refine lv_iconst (v := 0) hx hb_ dX12_act_22 (by decide) ?_
  exact z_iret (ty := .int) (v := 0) hcf hr rfl hlk hw (rfl) dX12_act_23

set_option maxHeartbeats 4000000 in
set_option maxRecDepth 100000 in
/-- trace on a_ model just made -/
theorem c_X12_trace (l : Launch) (cD : va_G) (cy : Nat → ClassId) (sz_ : Nat) (r_ : Nat → Nat) (S_ : zS) (hSh : ShM S_ r_) (hF : FrM S_ r_) (i_ : Int32) : Met l yX12_trace wsX12_trace ({ frames := 0, cells := 0, slots := 0, locals := 0 } : Room) (va_Pc [.ref (r_ 0), .int i_] (zPre cD cy S_ sz_)) (va_Qi (fun (v_ : Int32) (S1 : zS) => v_ = -1) (zPost cD cy (zAd cy S_ sz_)) (zAd cy S_ sz_)) 0 0 (zAd cy S_ sz_) := by
  refine z_ofW (cc := cX12_trace) (maxL := 2) (ret := (some .int)) (own := RX12) (QQ := fun A_ => va_Qi (fun (v_ : Int32) (S1 : zS) => v_ = -1) (zPost cD cy A_) A_) (by decide) rfl rfl (Nat.le_of_ble_eq_true rfl) ?_
  intro p_ e_ s_ m_ args_ below_ meth_ c_ A_ ls hcf hr hlk hnm hK_ hE hw hA hl
  obtain ⟨hx, hb_, hml, hown, hts⟩ := id hcf
  have hin12 : ∀ w_ ∈ wsX120, w_ ∈ wsX12_trace := fun w_ h_ => (List.mem_cons_of_mem _ (List.mem_append_right _ h_))
  have hl : lv_has ls 2 [(0, .ref (r_ 0)), (1, .int i_)] := hl
  refine lv_iload_n hx hb_ dX12_trace_0 rfl (lv_at hl 1 rfl) ?_
  refine lv_if_lt (tgt := 27) hx hb_ dX12_trace_1 (by decide) (fun c_1 => ?_) (fun c_1 => ?_)
  · refine lv_iconst (v := (-1)) hx hb_ dX12_trace_27 (by decide) ?_
    exact z_iret (ty := .int) (v := (-1)) hcf hr rfl hlk hw (rfl) dX12_trace_28
  · refine lv_iload_n hx hb_ dX12_trace_4 rfl (lv_at hl 1 rfl) ?_
    refine lv_bipush (v := 20) hx hb_ dX12_trace_5 (by decide) ?_
    refine lv_icmp_ge (tgt := 27) hx hb_ dX12_trace_7 (by decide) (fun c_7 => ?_) (fun c_7 => ?_)
    · refine lv_iconst (v := (-1)) hx hb_ dX12_trace_27 (by decide) ?_
      exact z_iret (ty := .int) (v := (-1)) hcf hr rfl hlk hw (rfl) dX12_trace_28
    · refine lv_iload_n hx hb_ dX12_trace_10 rfl (lv_at hl 1 rfl) ?_
      refine lv_aload_n hx hb_ dX12_trace_11 rfl (lv_at hl 0 rfl) ?_
      refine z_get (k := 12) (i := 54) (j := 1254) (v := .int 0) (ref := "FoldedInHalfModel") (C := RX12) (T := TX12) (N := 56) hcf hK_ hw hin12 (mL hSh 0) (mK hSh 0) rfl (by decide) (by decide) rfl rfl (congrArg Value.int hF.2.2.2.1) (List.mem_of_getElem? (i := 1) rfl) (fun _ h_ => h_) dX12_trace_12 ?_
      refine lv_icmp_ge (tgt := 27) hx hb_ dX12_trace_15 (by decide) (fun c_15 => ?_) (fun c_15 => absurd (zx_nlt c_1) c_15)
      refine lv_iconst (v := (-1)) hx hb_ dX12_trace_27 (by decide) ?_
      exact z_iret (ty := .int) (v := (-1)) hcf hr rfl hlk hw (rfl) dX12_trace_28

set_option maxHeartbeats 4000000 in
set_option maxRecDepth 100000 in
/-- image on a_ model just made -/
theorem c_X12_image (l : Launch) (cD : va_G) (cy : Nat → ClassId) (sz_ : Nat) (r_ : Nat → Nat) (S_ : zS) (hSh : ShM S_ r_) (hF : FrM S_ r_) : Met l yX12_image wsX12_image ({ frames := 1, cells := 0, slots := 0, locals := 24 } : Room) (va_Pc [.ref (r_ 0)] (zPre cD cy S_ sz_)) (va_Qi (fun (v_ : Int32) (S1 : zS) => v_ = 0) (zPost cD cy (zAd cy S_ sz_)) (zAd cy S_ sz_)) 0 0 (zAd cy S_ sz_) := by
  refine z_ofW (cc := cX12_image) (maxL := 1) (ret := (some .int)) (own := RX12) (QQ := fun A_ => va_Qi (fun (v_ : Int32) (S1 : zS) => v_ = 0) (zPost cD cy A_) A_) (by decide) rfl rfl (Nat.le_of_ble_eq_true rfl) ?_
  intro p_ e_ s_ m_ args_ below_ meth_ c_ A_ ls hcf hr hlk hnm hK_ hE hw hA hl
  obtain ⟨hx, hb_, hml, hown, hts⟩ := id hcf
  have hin12 : ∀ w_ ∈ wsX120, w_ ∈ wsX12_image := fun w_ h_ => (List.mem_cons_of_mem _ (List.mem_append_right _ h_))
  have hl : lv_has ls 1 [(0, .ref (r_ 0))] := hl
  refine lv_aload_n hx hb_ dX12_image_0 rfl (lv_at hl 0 rfl) ?_
  refine lv_iconst (v := 1) hx hb_ dX12_image_1 (by decide) ?_
  refine z_putI (k := 12) (i := 55) (j := 1255) (x := 1) (v := .int 1) (ty := .boolean) (ref := "FoldedInHalfModel") (C := RX12) (T := TX12) (N := 56) tyX12 hcf hK_ hw hin12 tyX12_ok nmX12 (mL hSh 0) (mK hSh 0) rfl (by decide) (by decide) rfl rfl (List.mem_of_getElem? (i := 1) rfl) (fun _ h_ => h_) rfl rfl (by decide +kernel) rfl rfl dX12_image_2 (fun H_ locs_ hw => ?_)
  refine lv_aload_n hx hb_ dX12_image_5 rfl (lv_at hl 0 rfl) ?_
  refine lv_aload_n hx hb_ dX12_image_6 rfl (lv_at hl 0 rfl) ?_
  refine z_get (k := 12) (i := 22) (j := 1222) (v := .ref (r_ 22)) (ref := "FoldedInHalfModel") (C := RX12) (T := TX12) (N := 56) hcf hK_ hw hin12 (mL hSh 0) (mK hSh 0) rfl (by decide) (by decide) rfl rfl (congrArg va_rf (mP hSh 22)) (List.mem_of_getElem? (i := 2) rfl) (fun _ h_ => h_) dX12_image_7 ?_
  refine lv_aload_n hx hb_ dX12_image_10 rfl (lv_at hl 0 rfl) ?_
  refine z_get (k := 12) (i := 24) (j := 1224) (v := .ref (r_ 24)) (ref := "FoldedInHalfModel") (C := RX12) (T := TX12) (N := 56) hcf hK_ hw hin12 (mL hSh 0) (mK hSh 0) rfl (by decide) (by decide) rfl rfl (congrArg va_rf (mP hSh 24)) (List.mem_of_getElem? (i := 3) rfl) (fun _ h_ => h_) dX12_image_11 ?_
  refine lv_iconst (v := 0) hx hb_ dX12_image_14 (by decide) ?_
  refine z_kv hw hA (va_runV (As := [.ref (r_ 22), .ref (r_ 24), .int 0]) (rest := []) hcf (c_X12_all l cD cy _ r_ (zsI S_ 1255 (r_ 0) 1) hSh (r_ 22) (r_ 24) (mL hSh 22) (mK hSh 22) (mN hSh 22) (mL hSh 24) (mK hSh 24) (mN hSh 24)) (cwV 3 hts gX12_image_X12_all rfl rfl rfl (by decide +kernel) ⟨Nat.le_of_ble_eq_true rfl, Nat.le_of_ble_eq_true rfl⟩) (z_preV (k := 12) hK_ hE hw (mL hSh 0) (mK hSh 0) (by decide) rfl) rfl rfl hl.1 rfl (lv_room (Nat.le_of_ble_eq_true rfl)) dX12_image_15 ⟨Nat.le_of_ble_eq_true rfl, Nat.le_of_ble_eq_true rfl⟩) (fun S2 H_ locs_ hp hw => ?_)
  obtain ⟨f3_, g4, rfl⟩ := hp
  refine lv_aload_n hx hb_ dX12_image_18 rfl (lv_at hl 0 rfl) ?_
  refine z_get (k := 12) (i := 0) (j := 1200) (v := .int 0) (ref := "FoldedInHalfModel") (C := RX12) (T := TX12) (N := 56) hcf hK_ hw hin12 (mL hSh 0) (mK hSh 0) rfl (by decide) (by decide) rfl rfl (congrArg Value.int hF.1) (List.mem_of_getElem? (i := 4) rfl) (fun _ h_ => h_) dX12_image_19 ?_
  exact z_iret (ty := .int) (v := 0) hcf hr rfl hlk hw (rfl) dX12_image_22

set_option maxHeartbeats 4000000 in
set_option maxRecDepth 100000 in
/-- restore on a_ model just made -/
theorem c_X12_restore (l : Launch) (cD : va_G) (cy : Nat → ClassId) (sz_ : Nat) (r_ : Nat → Nat) (S_ : zS) (hSh : ShM S_ r_) (hF : FrM S_ r_) : Met l yX12_restore wsX12_restore ({ frames := 1, cells := 0, slots := 0, locals := 21 } : Room) (va_Pc [.ref (r_ 0)] (zPre cD cy S_ sz_)) (va_Qi (fun (v_ : Int32) (S1 : zS) => v_ = -6) (zPost cD cy (zAd cy S_ sz_)) (zAd cy S_ sz_)) 0 0 (zAd cy S_ sz_) := by
  refine z_ofW (cc := cX12_restore) (maxL := 2) (ret := (some .int)) (own := RX12) (QQ := fun A_ => va_Qi (fun (v_ : Int32) (S1 : zS) => v_ = -6) (zPost cD cy A_) A_) (by decide) rfl rfl (Nat.le_of_ble_eq_true rfl) ?_
  intro p_ e_ s_ m_ args_ below_ meth_ c_ A_ ls hcf hr hlk hnm hK_ hE hw hA hl
  obtain ⟨hx, hb_, hml, hown, hts⟩ := id hcf
  have hin12 : ∀ w_ ∈ wsX120, w_ ∈ wsX12_restore := fun w_ h_ => (List.mem_cons_of_mem _ (List.mem_append_right _ h_))
  have hl : lv_has ls 2 [(0, .ref (r_ 0))] := hl
  refine lv_aload_n hx hb_ dX12_restore_0 rfl (lv_at hl 0 rfl) ?_
  refine z_get (k := 12) (i := 55) (j := 1255) (v := .int 0) (ref := "FoldedInHalfModel") (C := RX12) (T := TX12) (N := 56) hcf hK_ hw hin12 (mL hSh 0) (mK hSh 0) rfl (by decide) (by decide) rfl rfl (congrArg Value.int hF.2.2.2.2.1) (List.mem_of_getElem? (i := 1) rfl) (fun _ h_ => h_) dX12_restore_1 ?_
  refine lv_if_ne (tgt := 14) hx hb_ dX12_restore_4 (by decide) (fun c_4 => absurd c_4 (by decide)) (fun _ => ?_)
  refine lv_aload_n hx hb_ dX12_restore_7 rfl (lv_at hl 0 rfl) ?_
  refine lv_bipush (v := (-6)) hx hb_ dX12_restore_8 (by decide) ?_
  refine z_ki hw hA (va_runV (As := [.int (-6)]) (rest := []) hcf (c_X12_no l cD cy _ r_ S_ hSh (-6) (by decide) (by decide)) (cwV 1 hts gX12_restore_X12_no rfl rfl rfl (by decide +kernel) ⟨Nat.le_of_ble_eq_true rfl, Nat.le_of_ble_eq_true rfl⟩) (z_preV (k := 12) hK_ hE hw (mL hSh 0) (mK hSh 0) (by decide) rfl) rfl rfl hl.1 rfl (lv_room (Nat.le_of_ble_eq_true rfl)) dX12_restore_10 ⟨Nat.le_of_ble_eq_true rfl, Nat.le_of_ble_eq_true rfl⟩) (fun v1 S2 H_ locs_ hp hw => ?_)
  obtain ⟨rfl, f3_, rfl⟩ := hp
  exact z_iret (ty := .int) (v := (-6)) hcf hr rfl hlk hw (rfl) dX12_restore_13

set_option maxHeartbeats 4000000 in
set_option maxRecDepth 100000 in
/-- status on a_ model just made -/
theorem c_X12_status (l : Launch) (cD : va_G) (cy : Nat → ClassId) (sz_ : Nat) (r_ : Nat → Nat) (S_ : zS) (hSh : ShM S_ r_) (hF : FrM S_ r_) (x_ : Int32) : Met l yX12_status wsX12_status ({ frames := 0, cells := 0, slots := 0, locals := 0 } : Room) (va_Pc [.ref (r_ 0), .int x_] (zPre cD cy S_ sz_)) (va_Qi (fun (v_ : Int32) (S1 : zS) => v_ = q_status x_) (zPost cD cy (zAd cy S_ sz_)) (zAd cy S_ sz_)) 0 0 (zAd cy S_ sz_) := by
  refine z_ofW (cc := cX12_status) (maxL := 5) (ret := (some .int)) (own := RX12) (QQ := fun A_ => va_Qi (fun (v_ : Int32) (S1 : zS) => v_ = q_status x_) (zPost cD cy A_) A_) (by decide) rfl rfl (Nat.le_of_ble_eq_true rfl) ?_
  intro p_ e_ s_ m_ args_ below_ meth_ c_ A_ ls hcf hr hlk hnm hK_ hE hw hA hl
  obtain ⟨hx, hb_, hml, hown, hts⟩ := id hcf
  have hin12 : ∀ w_ ∈ wsX120, w_ ∈ wsX12_status := fun w_ h_ => (List.mem_cons_of_mem _ (List.mem_append_right _ h_))
  have hl : lv_has ls 5 [(0, .ref (r_ 0)), (1, .int x_)] := hl
  refine lv_iload_n hx hb_ dX12_status_0 rfl (lv_at hl 1 rfl) ?_
  refine lv_bipush (v := 11) hx hb_ dX12_status_1 (by decide) ?_
  refine lv_icmp_lt (tgt := 22) hx hb_ dX12_status_3 (by decide) (fun c_3 => ?_) (fun c_3 => ?_)
  · refine lv_iconst (v := 0) hx hb_ dX12_status_22 (by decide) ?_
    refine lv_istore_n (lv' := [(2, .int 0), (0, .ref (r_ 0)), (1, .int x_)]) hx hb_ dX12_status_23 rfl hl (by decide) rfl (fun ls hl => ?_)
    refine lv_iload_n hx hb_ dX12_status_24 rfl (lv_at hl 2 rfl) ?_
    by_cases k_25_0 : x_ = 0
    · refine z_topi (y := 0) k_25_0 ?_
      refine lv_tableIn (off := 31) (tgt := 56) hx hb_ dX12_status_25 (by decide) (by decide) (by decide) (by decide) ?_
      refine lv_aload_n hx hb_ dX12_status_56 rfl (lv_at hl 1 rfl) ?_
      refine z_get (k := 12) (i := 0) (j := 1200) (v := .int 0) (ref := "FoldedInHalfModel") (C := RX12) (T := TX12) (N := 56) hcf hK_ hw hin12 (mL hSh 0) (mK hSh 0) rfl (by decide) (by decide) rfl rfl (congrArg Value.int hF.1) (List.mem_of_getElem? (i := 2) rfl) (fun _ h_ => h_) dX12_status_57 ?_
      exact z_iret (ty := .int) (v := 0) hcf hr rfl hlk hw (by first | (simp [q_status, c_3, k_25_0]; done) | (simp_all [q_status]; done)) dX12_status_60
    by_cases k_25_1 : x_ = 1
    · refine z_topi (y := 1) k_25_1 ?_
      refine lv_tableIn (off := 36) (tgt := 61) hx hb_ dX12_status_25 (by decide) (by decide) (by decide) (by decide) ?_
      refine lv_iconst (v := 0) hx hb_ dX12_status_61 (by decide) ?_
      refine lv_istore_n (lv' := [(3, .int 0), (2, .int 0), (0, .ref (r_ 0)), (1, .int x_)]) hx hb_ dX12_status_62 rfl hl (by decide) rfl (fun ls hl => ?_)
      refine lv_iload_n hx hb_ dX12_status_63 rfl (lv_at hl 0 rfl) ?_
      refine lv_aload_n hx hb_ dX12_status_64 rfl (lv_at hl 2 rfl) ?_
      refine z_get (k := 12) (i := 0) (j := 1200) (v := .int 0) (ref := "FoldedInHalfModel") (C := RX12) (T := TX12) (N := 56) hcf hK_ hw hin12 (mL hSh 0) (mK hSh 0) rfl (by decide) (by decide) rfl rfl (congrArg Value.int hF.1) (List.mem_of_getElem? (i := 2) rfl) (fun _ h_ => h_) dX12_status_65 ?_
      refine lv_icmp_ge (tgt := 86) hx hb_ dX12_status_68 (by decide) (fun _ => ?_) (fun c_68 => absurd c_68 (by decide))
      refine lv_iload_n hx hb_ dX12_status_86 rfl (lv_at hl 1 rfl) ?_
      exact z_iret (ty := .int) (v := 0) hcf hr rfl hlk hw (by first | (simp [q_status, c_3, k_25_1]; done) | (simp_all [q_status]; done)) dX12_status_87
    by_cases k_25_2 : x_ = 2
    · refine z_topi (y := 2) k_25_2 ?_
      refine lv_tableIn (off := 63) (tgt := 88) hx hb_ dX12_status_25 (by decide) (by decide) (by decide) (by decide) ?_
      refine lv_iconst (v := 0) hx hb_ dX12_status_88 (by decide) ?_
      refine lv_istore_n (lv' := [(3, .int 0), (2, .int 0), (0, .ref (r_ 0)), (1, .int x_)]) hx hb_ dX12_status_89 rfl hl (by decide) rfl (fun ls hl => ?_)
      refine lv_iload_n hx hb_ dX12_status_90 rfl (lv_at hl 0 rfl) ?_
      refine lv_aload_n hx hb_ dX12_status_91 rfl (lv_at hl 2 rfl) ?_
      refine z_get (k := 12) (i := 0) (j := 1200) (v := .int 0) (ref := "FoldedInHalfModel") (C := RX12) (T := TX12) (N := 56) hcf hK_ hw hin12 (mL hSh 0) (mK hSh 0) rfl (by decide) (by decide) rfl rfl (congrArg Value.int hF.1) (List.mem_of_getElem? (i := 2) rfl) (fun _ h_ => h_) dX12_status_92 ?_
      refine lv_icmp_ge (tgt := 134) hx hb_ dX12_status_95 (by decide) (fun _ => ?_) (fun c_95 => absurd c_95 (by decide))
      refine lv_iload_n hx hb_ dX12_status_134 rfl (lv_at hl 1 rfl) ?_
      exact z_iret (ty := .int) (v := 0) hcf hr rfl hlk hw (by first | (simp [q_status, c_3, k_25_2]; done) | (simp_all [q_status]; done)) dX12_status_135
    by_cases k_25_3 : x_ = 3
    · refine z_topi (y := 3) k_25_3 ?_
      refine lv_tableIn (off := 111) (tgt := 136) hx hb_ dX12_status_25 (by decide) (by decide) (by decide) (by decide) ?_
      refine lv_aload_n hx hb_ dX12_status_136 rfl (lv_at hl 1 rfl) ?_
      refine z_get (k := 12) (i := 54) (j := 1254) (v := .int 0) (ref := "FoldedInHalfModel") (C := RX12) (T := TX12) (N := 56) hcf hK_ hw hin12 (mL hSh 0) (mK hSh 0) rfl (by decide) (by decide) rfl rfl (congrArg Value.int hF.2.2.2.1) (List.mem_of_getElem? (i := 4) rfl) (fun _ h_ => h_) dX12_status_137 ?_
      exact z_iret (ty := .int) (v := 0) hcf hr rfl hlk hw (by first | (simp [q_status, c_3, k_25_3]; done) | (simp_all [q_status]; done)) dX12_status_140
    have hout : x_.toInt < 0 ∨ 3 < x_.toInt := by
      have q0 := lv_neT k_25_0 (a := 0) (by decide)
      have q1 := lv_neT k_25_1 (a := 1) (by decide)
      have q2 := lv_neT k_25_2 (a := 2) (by decide)
      have q3 := lv_neT k_25_3 (a := 3) (by decide)
      omega
    refine lv_tableOut (tgt := 141) hx hb_ dX12_status_25 hout (by decide) ?_
    refine lv_iconst (v := (-1)) hx hb_ dX12_status_141 (by decide) ?_
    exact z_iret (ty := .int) (v := (-1)) hcf hr rfl hlk hw (by first | (simp [q_status, c_3, k_25_0, k_25_1, k_25_2, k_25_3]; done) | (simp_all [q_status]; done)) dX12_status_142
  · refine lv_iload_n hx hb_ dX12_status_6 rfl (lv_at hl 1 rfl) ?_
    refine lv_bipush (v := 17) hx hb_ dX12_status_7 (by decide) ?_
    refine lv_icmp_gt (tgt := 22) hx hb_ dX12_status_9 (by decide) (fun c_9 => ?_) (fun c_9 => ?_)
    · refine lv_iconst (v := 0) hx hb_ dX12_status_22 (by decide) ?_
      refine lv_istore_n (lv' := [(2, .int 0), (0, .ref (r_ 0)), (1, .int x_)]) hx hb_ dX12_status_23 rfl hl (by decide) rfl (fun ls hl => ?_)
      refine lv_iload_n hx hb_ dX12_status_24 rfl (lv_at hl 2 rfl) ?_
      by_cases k_25_0 : x_ = 0
      · refine z_topi (y := 0) k_25_0 ?_
        refine lv_tableIn (off := 31) (tgt := 56) hx hb_ dX12_status_25 (by decide) (by decide) (by decide) (by decide) ?_
        refine lv_aload_n hx hb_ dX12_status_56 rfl (lv_at hl 1 rfl) ?_
        refine z_get (k := 12) (i := 0) (j := 1200) (v := .int 0) (ref := "FoldedInHalfModel") (C := RX12) (T := TX12) (N := 56) hcf hK_ hw hin12 (mL hSh 0) (mK hSh 0) rfl (by decide) (by decide) rfl rfl (congrArg Value.int hF.1) (List.mem_of_getElem? (i := 2) rfl) (fun _ h_ => h_) dX12_status_57 ?_
        exact z_iret (ty := .int) (v := 0) hcf hr rfl hlk hw (by first | (simp [q_status, c_3, c_9, k_25_0]; done) | (simp_all [q_status]; done)) dX12_status_60
      by_cases k_25_1 : x_ = 1
      · refine z_topi (y := 1) k_25_1 ?_
        refine lv_tableIn (off := 36) (tgt := 61) hx hb_ dX12_status_25 (by decide) (by decide) (by decide) (by decide) ?_
        refine lv_iconst (v := 0) hx hb_ dX12_status_61 (by decide) ?_
        refine lv_istore_n (lv' := [(3, .int 0), (2, .int 0), (0, .ref (r_ 0)), (1, .int x_)]) hx hb_ dX12_status_62 rfl hl (by decide) rfl (fun ls hl => ?_)
        refine lv_iload_n hx hb_ dX12_status_63 rfl (lv_at hl 0 rfl) ?_
        refine lv_aload_n hx hb_ dX12_status_64 rfl (lv_at hl 2 rfl) ?_
        refine z_get (k := 12) (i := 0) (j := 1200) (v := .int 0) (ref := "FoldedInHalfModel") (C := RX12) (T := TX12) (N := 56) hcf hK_ hw hin12 (mL hSh 0) (mK hSh 0) rfl (by decide) (by decide) rfl rfl (congrArg Value.int hF.1) (List.mem_of_getElem? (i := 2) rfl) (fun _ h_ => h_) dX12_status_65 ?_
        refine lv_icmp_ge (tgt := 86) hx hb_ dX12_status_68 (by decide) (fun _ => ?_) (fun c_68 => absurd c_68 (by decide))
        refine lv_iload_n hx hb_ dX12_status_86 rfl (lv_at hl 1 rfl) ?_
        exact z_iret (ty := .int) (v := 0) hcf hr rfl hlk hw (by first | (simp [q_status, c_3, c_9, k_25_1]; done) | (simp_all [q_status]; done)) dX12_status_87
      by_cases k_25_2 : x_ = 2
      · refine z_topi (y := 2) k_25_2 ?_
        refine lv_tableIn (off := 63) (tgt := 88) hx hb_ dX12_status_25 (by decide) (by decide) (by decide) (by decide) ?_
        refine lv_iconst (v := 0) hx hb_ dX12_status_88 (by decide) ?_
        refine lv_istore_n (lv' := [(3, .int 0), (2, .int 0), (0, .ref (r_ 0)), (1, .int x_)]) hx hb_ dX12_status_89 rfl hl (by decide) rfl (fun ls hl => ?_)
        refine lv_iload_n hx hb_ dX12_status_90 rfl (lv_at hl 0 rfl) ?_
        refine lv_aload_n hx hb_ dX12_status_91 rfl (lv_at hl 2 rfl) ?_
        refine z_get (k := 12) (i := 0) (j := 1200) (v := .int 0) (ref := "FoldedInHalfModel") (C := RX12) (T := TX12) (N := 56) hcf hK_ hw hin12 (mL hSh 0) (mK hSh 0) rfl (by decide) (by decide) rfl rfl (congrArg Value.int hF.1) (List.mem_of_getElem? (i := 2) rfl) (fun _ h_ => h_) dX12_status_92 ?_
        refine lv_icmp_ge (tgt := 134) hx hb_ dX12_status_95 (by decide) (fun _ => ?_) (fun c_95 => absurd c_95 (by decide))
        refine lv_iload_n hx hb_ dX12_status_134 rfl (lv_at hl 1 rfl) ?_
        exact z_iret (ty := .int) (v := 0) hcf hr rfl hlk hw (by first | (simp [q_status, c_3, c_9, k_25_2]; done) | (simp_all [q_status]; done)) dX12_status_135
      by_cases k_25_3 : x_ = 3
      · refine z_topi (y := 3) k_25_3 ?_
        refine lv_tableIn (off := 111) (tgt := 136) hx hb_ dX12_status_25 (by decide) (by decide) (by decide) (by decide) ?_
        refine lv_aload_n hx hb_ dX12_status_136 rfl (lv_at hl 1 rfl) ?_
        refine z_get (k := 12) (i := 54) (j := 1254) (v := .int 0) (ref := "FoldedInHalfModel") (C := RX12) (T := TX12) (N := 56) hcf hK_ hw hin12 (mL hSh 0) (mK hSh 0) rfl (by decide) (by decide) rfl rfl (congrArg Value.int hF.2.2.2.1) (List.mem_of_getElem? (i := 4) rfl) (fun _ h_ => h_) dX12_status_137 ?_
        exact z_iret (ty := .int) (v := 0) hcf hr rfl hlk hw (by first | (simp [q_status, c_3, c_9, k_25_3]; done) | (simp_all [q_status]; done)) dX12_status_140
      have hout : x_.toInt < 0 ∨ 3 < x_.toInt := by
        have q0 := lv_neT k_25_0 (a := 0) (by decide)
        have q1 := lv_neT k_25_1 (a := 1) (by decide)
        have q2 := lv_neT k_25_2 (a := 2) (by decide)
        have q3 := lv_neT k_25_3 (a := 3) (by decide)
        omega
      refine lv_tableOut (tgt := 141) hx hb_ dX12_status_25 hout (by decide) ?_
      refine lv_iconst (v := (-1)) hx hb_ dX12_status_141 (by decide) ?_
      exact z_iret (ty := .int) (v := (-1)) hcf hr rfl hlk hw (by first | (simp [q_status, c_3, c_9, k_25_0, k_25_1, k_25_2, k_25_3]; done) | (simp_all [q_status]; done)) dX12_status_142
    · refine lv_aload_n hx hb_ dX12_status_12 rfl (lv_at hl 0 rfl) ?_
      refine z_get (k := 12) (i := 2) (j := 1202) (v := .ref (r_ 2)) (ref := "FoldedInHalfModel") (C := RX12) (T := TX12) (N := 56) hcf hK_ hw hin12 (mL hSh 0) (mK hSh 0) rfl (by decide) (by decide) rfl rfl (congrArg va_rf (mP hSh 2)) (List.mem_of_getElem? (i := 1) rfl) (fun _ h_ => h_) dX12_status_13 ?_
      refine lv_iload_n hx hb_ dX12_status_16 rfl (lv_at hl 1 rfl) ?_
      refine lv_bipush (v := 10) hx hb_ dX12_status_17 (by decide) ?_
      refine lv_isub hx hb_ dX12_status_19 ?_
      refine z_iald (n := 8) hcf hK_ hw (mL hSh 2) (mK hSh 2) (mN hSh 2) (st_in c_3 (by rw [zx_lt] at c_9; rw [zx_le]; exact Int.not_lt.mp c_9)) dX12_status_20 ?_
      refine z_topi (y := 0) (hF.2.2.2.2.2.2 _) ?_
      exact z_iret (ty := .int) (v := 0) hcf hr rfl hlk hw (by first | (simp [q_status, c_3, c_9]; done) | (simp_all [q_status]; done)) dX12_status_21
