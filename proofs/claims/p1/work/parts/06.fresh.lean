
def q_bad (s : Int32) (a b : Int32) : Int32 := if s < 0 ∨ 8 ≤ s then a else b
def q_row (s o n : Int32) : Int32 := if s < 0 ∨ 8 ≤ s then -1 else if 0 ≤ n then (if o < 0 ∨ ¬ o ≤ 3 then -6 else if n ≤ 160 then 1 else -7) else -4
def q_copy (p q : Int32) : Int32 := if p < 0 ∨ 8 ≤ p ∨ q < 0 ∨ 8 ≤ q then -1 else -3
def q_show (s t : Int32) : Int32 := if s < 0 ∨ 8 ≤ s then -1 else if t = -1 then 0 else -1
def q_says (s k : Int32) : Int32 := if s < 0 ∨ 8 ≤ s ∨ k < 0 ∨ ¬ k ≤ 6 then -1 else -3
def q_status (w : Int32) : Int32 := if ¬ w < 11 ∧ w ≤ 17 then 0 else if w = 0 ∨ w = 1 ∨ w = 2 ∨ w = 3 then 0 else -1

set_option maxHeartbeats 4000000 in
set_option maxRecDepth 100000 in
/-- row on an object just made -/
theorem c_X11_row (l : Launch) (cD : va_G) (cy : Nat → ClassId) (sz_ : Nat) (r_ : Nat → Nat) (S_ : zS) (hSh : ShC S_ r_) (hF : FrC S_ r_) (a_ : Int32) (o_ : Int32) (n_ : Int32) : Met l yX11_row wsX11_row ({ frames := 2, cells := 0, slots := 0, locals := 46 } : Room) (va_Pc [.ref (r_ 0), .int a_, .int o_, .int n_] (zPre cD cy S_ sz_)) (va_Qi (fun (v_ : Int32) (S1 : zS) => v_ = q_row a_ o_ n_) (zPost cD cy (zAd cy S_ sz_)) (zAd cy S_ sz_)) 0 0 (zAd cy S_ sz_) := by
  refine z_ofW (cc := cX11_row) (maxL := 5) (ret := (some .int)) (own := RX11) (QQ := fun A_ => va_Qi (fun (v_ : Int32) (S1 : zS) => v_ = q_row a_ o_ n_) (zPost cD cy A_) A_) (by decide) rfl rfl (Nat.le_of_ble_eq_true rfl) ?_
  intro p_ e_ s_ m_ args_ below_ meth_ c_ A_ ls hcf hr hlk hnm hK_ hE hw hA hl
  obtain ⟨hx, hb_, hml, hown, hts⟩ := id hcf
  have hl : lv_has ls 5 [(0, .ref (r_ 0)), (1, .int a_), (2, .int o_), (3, .int n_)] := hl
  refine lv_aload_n hx hb_ dX11_row_0 rfl (lv_at hl 0 rfl) ?_
  refine lv_iload_n hx hb_ dX11_row_1 rfl (lv_at hl 1 rfl) ?_
  refine z_kq hw hA (va_runV (As := [.int a_]) (rest := []) hcf (c_X11_shelfAt l cD cy _ r_ S_ hSh a_) (cwV 1 hts gX11_row_X11_shelfAt rfl rfl rfl (by decide +kernel) ⟨Nat.le_of_ble_eq_true rfl, Nat.le_of_ble_eq_true rfl⟩) (z_preV (k := 11) hK_ hE hw (cL hSh 0) (cK hSh 0) (by decide) rfl) rfl rfl hl.1 rfl (lv_room (Nat.le_of_ble_eq_true rfl)) dX11_row_2 ⟨Nat.le_of_ble_eq_true rfl, Nat.le_of_ble_eq_true rfl⟩) (fun v1 S2 H_ locs_ hp hw => ?_)
  obtain ⟨hp, rfl⟩ := hp
  rcases hp with ⟨hs3, rfl⟩ | ⟨⟨ha3, hb3⟩, j3, hj3, ej3, rfl⟩
  · refine lv_astoreN (lv' := [(4, .null), (0, .ref (r_ 0)), (1, .int a_), (2, .int o_), (3, .int n_)]) hx hb_ dX11_row_5 hl (by decide) rfl (fun ls hl => ?_)
    refine lv_aloadN hx hb_ dX11_row_7 (lv_at hl 0 rfl) ?_
    refine lv_ifnonnullN hx hb_ dX11_row_9 ?_
    refine lv_aload_n hx hb_ dX11_row_12 rfl (lv_at hl 1 rfl) ?_
    refine lv_iconst (v := (-1)) hx hb_ dX11_row_13 (by decide) ?_
    refine z_ki hw hA (va_runV (As := [.int (-1)]) (rest := []) hcf (c_X11_refuse l cD cy _ r_ S_ hSh (-1) (by decide) (by decide)) (cwV 1 hts gX11_row_X11_refuse rfl rfl rfl (by decide +kernel) ⟨Nat.le_of_ble_eq_true rfl, Nat.le_of_ble_eq_true rfl⟩) (z_preV (k := 11) hK_ hE hw (cL hSh 0) (cK hSh 0) (by decide) rfl) rfl rfl hl.1 rfl (lv_room (Nat.le_of_ble_eq_true rfl)) dX11_row_14 ⟨Nat.le_of_ble_eq_true rfl, Nat.le_of_ble_eq_true rfl⟩) (fun v4 S5 H_ locs_ hp hw => ?_)
    obtain ⟨rfl, f6, rfl⟩ := hp
    exact z_iret (ty := .int) (v := (-1)) hcf hr rfl hlk hw (by first | (simp [q_row, hs3]; done) | (rcases hs3 with q_ | q_ <;> (simp [q_row, q_]; done)) | (simp_all [q_row]; done)) dX11_row_17
  · refine lv_astore (lv' := [(4, .ref (r_ (17 + j3))), (0, .ref (r_ 0)), (1, .int a_), (2, .int o_), (3, .int n_)]) hx hb_ dX11_row_5 hl (by decide) rfl (fun ls hl => ?_)
    refine lv_aload hx hb_ dX11_row_7 (lv_at hl 0 rfl) ?_
    refine lv_ifnonnull (tgt := 18) hx hb_ dX11_row_9 (by decide) ?_
    refine lv_iload_n hx hb_ dX11_row_18 rfl (lv_at hl 4 rfl) ?_
    refine lv_if_ge (tgt := 29) hx hb_ dX11_row_19 (by decide) (fun c_19 => ?_) (fun c_19 => ?_)
    · refine lv_iload_n hx hb_ dX11_row_29 rfl (lv_at hl 3 rfl) ?_
      refine lv_if_lt (tgt := 38) hx hb_ dX11_row_30 (by decide) (fun c_30 => ?_) (fun c_30 => ?_)
      · refine lv_aload_n hx hb_ dX11_row_38 rfl (lv_at hl 1 rfl) ?_
        refine lv_bipush (v := (-6)) hx hb_ dX11_row_39 (by decide) ?_
        refine z_ki hw hA (va_runV (As := [.int (-6)]) (rest := []) hcf (c_X11_refuse l cD cy _ r_ S_ hSh (-6) (by decide) (by decide)) (cwV 1 hts gX11_row_X11_refuse rfl rfl rfl (by decide +kernel) ⟨Nat.le_of_ble_eq_true rfl, Nat.le_of_ble_eq_true rfl⟩) (z_preV (k := 11) hK_ hE hw (cL hSh 0) (cK hSh 0) (by decide) rfl) rfl rfl hl.1 rfl (lv_room (Nat.le_of_ble_eq_true rfl)) dX11_row_41 ⟨Nat.le_of_ble_eq_true rfl, Nat.le_of_ble_eq_true rfl⟩) (fun v7 S8 H_ locs_ hp hw => ?_)
        obtain ⟨rfl, f9, rfl⟩ := hp
        exact z_iret (ty := .int) (v := (-6)) hcf hr rfl hlk hw (by first | (simp [q_row, ha3, hb3, c_19, c_30]; done) | (simp_all [q_row]; done)) dX11_row_44
      · refine lv_iload_n hx hb_ dX11_row_33 rfl (lv_at hl 3 rfl) ?_
        refine lv_iconst (v := 3) hx hb_ dX11_row_34 (by decide) ?_
        refine lv_icmp_le (tgt := 45) hx hb_ dX11_row_35 (by decide) (fun c_35 => ?_) (fun c_35 => ?_)
        · refine lv_iload_n hx hb_ dX11_row_45 rfl (lv_at hl 4 rfl) ?_
          refine lv_sipush (v := 160) hx hb_ dX11_row_46 (by decide) ?_
          refine lv_icmp_le (tgt := 59) hx hb_ dX11_row_49 (by decide) (fun c_49 => ?_) (fun c_49 => ?_)
          · refine lv_aload hx hb_ dX11_row_59 (lv_at hl 0 rfl) ?_
            refine lv_iload_n hx hb_ dX11_row_61 rfl (lv_at hl 3 rfl) ?_
            refine lv_iload_n hx hb_ dX11_row_62 rfl (lv_at hl 4 rfl) ?_
            refine z_kv hw hA (va_runVN (As := [.int o_, .int n_]) (rest := []) hcf (c_X7_holdRow l cD cy _ S_ (r_ (17 + j3)) (r_ (25 + j3)) (cL hSh (17 + j3) (by omega)) (cKS hSh j3 hj3) (cCe hSh j3 hj3) (cL hSh (25 + j3) (by omega)) (cKC hSh j3 hj3) (cNC hSh j3 hj3) o_ n_) ⟨va_cnB 2 hts gX11_row_X7_holdRow_n111 rfl rfl rfl (nw_M_FoldedInHalf_111 hE) (hts (.initialized RX7) (by decide +kernel)) (by decide +kernel) ⟨Nat.le_of_ble_eq_true rfl, Nat.le_of_ble_eq_true rfl⟩, hts (.instanceMethod yX7_holdRow) (by decide +kernel), hts (.selects RX7 yX7_holdRow yX7_holdRow) (by decide +kernel)⟩ (z_preV (k := 7) hK_ hE hw (cL hSh (17 + j3) (by omega)) (cKS hSh j3 hj3) (by decide) rfl) rfl rfl hl.1 rfl (lv_room (Nat.le_of_ble_eq_true rfl)) dX11_row_63 ⟨Nat.le_of_ble_eq_true rfl, Nat.le_of_ble_eq_true rfl⟩) (fun S11 H_ locs_ hp hw => ?_)
            refine lv_iconst (v := 1) hx hb_ dX11_row_66 (by decide) ?_
            exact z_iret (ty := .int) (v := 1) hcf hr rfl hlk hw (by first | (simp [q_row, ha3, hb3, c_19, c_30, c_35, c_49]; done) | (simp_all [q_row]; done)) dX11_row_67
          · refine lv_aload_n hx hb_ dX11_row_52 rfl (lv_at hl 1 rfl) ?_
            refine lv_bipush (v := (-7)) hx hb_ dX11_row_53 (by decide) ?_
            refine z_ki hw hA (va_runV (As := [.int (-7)]) (rest := []) hcf (c_X11_refuse l cD cy _ r_ S_ hSh (-7) (by decide) (by decide)) (cwV 1 hts gX11_row_X11_refuse rfl rfl rfl (by decide +kernel) ⟨Nat.le_of_ble_eq_true rfl, Nat.le_of_ble_eq_true rfl⟩) (z_preV (k := 11) hK_ hE hw (cL hSh 0) (cK hSh 0) (by decide) rfl) rfl rfl hl.1 rfl (lv_room (Nat.le_of_ble_eq_true rfl)) dX11_row_55 ⟨Nat.le_of_ble_eq_true rfl, Nat.le_of_ble_eq_true rfl⟩) (fun v12 S13 H_ locs_ hp hw => ?_)
            obtain ⟨rfl, f14, rfl⟩ := hp
            exact z_iret (ty := .int) (v := (-7)) hcf hr rfl hlk hw (by first | (simp [q_row, ha3, hb3, c_19, c_30, c_35, c_49]; done) | (simp_all [q_row]; done)) dX11_row_58
        · refine lv_aload_n hx hb_ dX11_row_38 rfl (lv_at hl 1 rfl) ?_
          refine lv_bipush (v := (-6)) hx hb_ dX11_row_39 (by decide) ?_
          refine z_ki hw hA (va_runV (As := [.int (-6)]) (rest := []) hcf (c_X11_refuse l cD cy _ r_ S_ hSh (-6) (by decide) (by decide)) (cwV 1 hts gX11_row_X11_refuse rfl rfl rfl (by decide +kernel) ⟨Nat.le_of_ble_eq_true rfl, Nat.le_of_ble_eq_true rfl⟩) (z_preV (k := 11) hK_ hE hw (cL hSh 0) (cK hSh 0) (by decide) rfl) rfl rfl hl.1 rfl (lv_room (Nat.le_of_ble_eq_true rfl)) dX11_row_41 ⟨Nat.le_of_ble_eq_true rfl, Nat.le_of_ble_eq_true rfl⟩) (fun v15 S16 H_ locs_ hp hw => ?_)
          obtain ⟨rfl, f17, rfl⟩ := hp
          exact z_iret (ty := .int) (v := (-6)) hcf hr rfl hlk hw (by first | (simp [q_row, ha3, hb3, c_19, c_30, c_35]; done) | (simp_all [q_row]; done)) dX11_row_44
    · refine lv_aload_n hx hb_ dX11_row_22 rfl (lv_at hl 1 rfl) ?_
      refine lv_bipush (v := (-4)) hx hb_ dX11_row_23 (by decide) ?_
      refine z_ki hw hA (va_runV (As := [.int (-4)]) (rest := []) hcf (c_X11_refuse l cD cy _ r_ S_ hSh (-4) (by decide) (by decide)) (cwV 1 hts gX11_row_X11_refuse rfl rfl rfl (by decide +kernel) ⟨Nat.le_of_ble_eq_true rfl, Nat.le_of_ble_eq_true rfl⟩) (z_preV (k := 11) hK_ hE hw (cL hSh 0) (cK hSh 0) (by decide) rfl) rfl rfl hl.1 rfl (lv_room (Nat.le_of_ble_eq_true rfl)) dX11_row_25 ⟨Nat.le_of_ble_eq_true rfl, Nat.le_of_ble_eq_true rfl⟩) (fun v18 S19 H_ locs_ hp hw => ?_)
      obtain ⟨rfl, f20, rfl⟩ := hp
      exact z_iret (ty := .int) (v := (-4)) hcf hr rfl hlk hw (by first | (simp [q_row, ha3, hb3, c_19]; done) | (simp_all [q_row]; done)) dX11_row_28

set_option maxHeartbeats 4000000 in
set_option maxRecDepth 100000 in
/-- set on an object just made -/
theorem c_X11_set (l : Launch) (cD : va_G) (cy : Nat → ClassId) (sz_ : Nat) (r_ : Nat → Nat) (S_ : zS) (hSh : ShC S_ r_) (hF : FrC S_ r_) (a_ : Int32) (i_ : Int32) (x_ : Int64) : Met l yX11_set wsX11_set ({ frames := 1, cells := 0, slots := 0, locals := 22 } : Room) (va_Pc [.ref (r_ 0), .int a_, .int i_, .long x_] (zPre cD cy S_ sz_)) (va_Qi (fun (v_ : Int32) (S1 : zS) => v_ = q_bad a_ (-1) (-3)) (zPost cD cy (zAd cy S_ sz_)) (zAd cy S_ sz_)) 0 0 (zAd cy S_ sz_) := by
  refine z_ofW (cc := cX11_set) (maxL := 7) (ret := (some .int)) (own := RX11) (QQ := fun A_ => va_Qi (fun (v_ : Int32) (S1 : zS) => v_ = q_bad a_ (-1) (-3)) (zPost cD cy A_) A_) (by decide) rfl rfl (Nat.le_of_ble_eq_true rfl) ?_
  intro p_ e_ s_ m_ args_ below_ meth_ c_ A_ ls hcf hr hlk hnm hK_ hE hw hA hl
  obtain ⟨hx, hb_, hml, hown, hts⟩ := id hcf
  have hl : lv_has ls 7 [(0, .ref (r_ 0)), (1, .int a_), (2, .int i_), (3, .long x_)] := hl
  refine lv_aload_n hx hb_ dX11_set_0 rfl (lv_at hl 0 rfl) ?_
  refine lv_iload_n hx hb_ dX11_set_1 rfl (lv_at hl 1 rfl) ?_
  refine z_kq hw hA (va_runV (As := [.int a_]) (rest := []) hcf (c_X11_shelfAt l cD cy _ r_ S_ hSh a_) (cwV 1 hts gX11_set_X11_shelfAt rfl rfl rfl (by decide +kernel) ⟨Nat.le_of_ble_eq_true rfl, Nat.le_of_ble_eq_true rfl⟩) (z_preV (k := 11) hK_ hE hw (cL hSh 0) (cK hSh 0) (by decide) rfl) rfl rfl hl.1 rfl (lv_room (Nat.le_of_ble_eq_true rfl)) dX11_set_2 ⟨Nat.le_of_ble_eq_true rfl, Nat.le_of_ble_eq_true rfl⟩) (fun v1 S2 H_ locs_ hp hw => ?_)
  obtain ⟨hp, rfl⟩ := hp
  rcases hp with ⟨hs3, rfl⟩ | ⟨⟨ha3, hb3⟩, j3, hj3, ej3, rfl⟩
  · refine lv_astoreN (lv' := [(5, .null), (0, .ref (r_ 0)), (1, .int a_), (2, .int i_), (3, .long x_)]) hx hb_ dX11_set_5 hl (by decide) rfl (fun ls hl => ?_)
    refine lv_aloadN hx hb_ dX11_set_7 (lv_at hl 0 rfl) ?_
    refine z_ki hw hA (va_runS (As := [.null]) (rest := []) hcf (c_X11_rowTrouble_n l cD cy _ S_) (va_cwS 1 hts gX11_set_X11_rowTrouble rfl rfl rfl (by decide +kernel) ⟨Nat.le_of_ble_eq_true rfl, Nat.le_of_ble_eq_true rfl⟩) (z_preS hK_ hE hw) rfl rfl hl.1 rfl (lv_room (Nat.le_of_ble_eq_true rfl)) dX11_set_9 ⟨Nat.le_of_ble_eq_true rfl, Nat.le_of_ble_eq_true rfl⟩) (fun v4 S5 H_ locs_ hp hw => ?_)
    obtain ⟨rfl, rfl⟩ := hp
    refine lv_istore (lv' := [(6, .int (-1)), (5, .null), (0, .ref (r_ 0)), (1, .int a_), (2, .int i_), (3, .long x_)]) hx hb_ dX11_set_12 hl (by decide) rfl (fun ls hl => ?_)
    refine lv_iload hx hb_ dX11_set_14 (lv_at hl 0 rfl) ?_
    refine lv_if_ne (tgt := 24) hx hb_ dX11_set_16 (by decide) (fun _ => ?_) (fun c_16 => absurd c_16 (by decide))
    refine lv_aload_n hx hb_ dX11_set_24 rfl (lv_at hl 2 rfl) ?_
    refine lv_iload hx hb_ dX11_set_25 (lv_at hl 0 rfl) ?_
    refine z_ki hw hA (va_runV (As := [.int (-1)]) (rest := []) hcf (c_X11_refuse l cD cy _ r_ S_ hSh (-1) (by decide) (by decide)) (cwV 1 hts gX11_set_X11_refuse rfl rfl rfl (by decide +kernel) ⟨Nat.le_of_ble_eq_true rfl, Nat.le_of_ble_eq_true rfl⟩) (z_preV (k := 11) hK_ hE hw (cL hSh 0) (cK hSh 0) (by decide) rfl) rfl rfl hl.1 rfl (lv_room (Nat.le_of_ble_eq_true rfl)) dX11_set_27 ⟨Nat.le_of_ble_eq_true rfl, Nat.le_of_ble_eq_true rfl⟩) (fun v6 S7 H_ locs_ hp hw => ?_)
    obtain ⟨rfl, f8, rfl⟩ := hp
    exact z_iret (ty := .int) (v := (-1)) hcf hr rfl hlk hw (by first | (simp [q_bad, hs3]; done) | (rcases hs3 with q_ | q_ <;> (simp [q_bad, q_]; done)) | (simp_all [q_bad]; done)) dX11_set_30
  · refine lv_astore (lv' := [(5, .ref (r_ (17 + j3))), (0, .ref (r_ 0)), (1, .int a_), (2, .int i_), (3, .long x_)]) hx hb_ dX11_set_5 hl (by decide) rfl (fun ls hl => ?_)
    refine lv_aload hx hb_ dX11_set_7 (lv_at hl 0 rfl) ?_
    refine z_ki hw hA (va_runS (As := [.ref (r_ (17 + j3))]) (rest := []) hcf (c_X11_rowTrouble_s l cD cy _ r_ S_ hSh hF j3 hj3 ) (va_cwS 1 hts gX11_set_X11_rowTrouble rfl rfl rfl (by decide +kernel) ⟨Nat.le_of_ble_eq_true rfl, Nat.le_of_ble_eq_true rfl⟩) (z_preS hK_ hE hw) rfl rfl hl.1 rfl (lv_room (Nat.le_of_ble_eq_true rfl)) dX11_set_9 ⟨Nat.le_of_ble_eq_true rfl, Nat.le_of_ble_eq_true rfl⟩) (fun v9 S10 H_ locs_ hp hw => ?_)
    obtain ⟨rfl, rfl⟩ := hp
    refine lv_istore (lv' := [(6, .int (-3)), (5, .ref (r_ (17 + j3))), (0, .ref (r_ 0)), (1, .int a_), (2, .int i_), (3, .long x_)]) hx hb_ dX11_set_12 hl (by decide) rfl (fun ls hl => ?_)
    refine lv_iload hx hb_ dX11_set_14 (lv_at hl 0 rfl) ?_
    refine lv_if_ne (tgt := 24) hx hb_ dX11_set_16 (by decide) (fun _ => ?_) (fun c_16 => absurd c_16 (by decide))
    refine lv_aload_n hx hb_ dX11_set_24 rfl (lv_at hl 2 rfl) ?_
    refine lv_iload hx hb_ dX11_set_25 (lv_at hl 0 rfl) ?_
    refine z_ki hw hA (va_runV (As := [.int (-3)]) (rest := []) hcf (c_X11_refuse l cD cy _ r_ S_ hSh (-3) (by decide) (by decide)) (cwV 1 hts gX11_set_X11_refuse rfl rfl rfl (by decide +kernel) ⟨Nat.le_of_ble_eq_true rfl, Nat.le_of_ble_eq_true rfl⟩) (z_preV (k := 11) hK_ hE hw (cL hSh 0) (cK hSh 0) (by decide) rfl) rfl rfl hl.1 rfl (lv_room (Nat.le_of_ble_eq_true rfl)) dX11_set_27 ⟨Nat.le_of_ble_eq_true rfl, Nat.le_of_ble_eq_true rfl⟩) (fun v11 S12 H_ locs_ hp hw => ?_)
    obtain ⟨rfl, f13, rfl⟩ := hp
    exact z_iret (ty := .int) (v := (-3)) hcf hr rfl hlk hw (by first | (simp [q_bad, ha3, hb3]; done) | (simp_all [q_bad]; done)) dX11_set_30

set_option maxHeartbeats 4000000 in
set_option maxRecDepth 100000 in
/-- copy on an object just made -/
theorem c_X11_copy (l : Launch) (cD : va_G) (cy : Nat → ClassId) (sz_ : Nat) (r_ : Nat → Nat) (S_ : zS) (hSh : ShC S_ r_) (hF : FrC S_ r_) (a_ : Int32) (b_ : Int32) (i_ : Int32) (j_ : Int32) (n_ : Int32) : Met l yX11_copy wsX11_copy ({ frames := 1, cells := 0, slots := 0, locals := 22 } : Room) (va_Pc [.ref (r_ 0), .int a_, .int b_, .int i_, .int j_, .int n_] (zPre cD cy S_ sz_)) (va_Qi (fun (v_ : Int32) (S1 : zS) => v_ = q_copy a_ b_) (zPost cD cy (zAd cy S_ sz_)) (zAd cy S_ sz_)) 0 0 (zAd cy S_ sz_) := by
  refine z_ofW (cc := cX11_copy) (maxL := 9) (ret := (some .int)) (own := RX11) (QQ := fun A_ => va_Qi (fun (v_ : Int32) (S1 : zS) => v_ = q_copy a_ b_) (zPost cD cy A_) A_) (by decide) rfl rfl (Nat.le_of_ble_eq_true rfl) ?_
  intro p_ e_ s_ m_ args_ below_ meth_ c_ A_ ls hcf hr hlk hnm hK_ hE hw hA hl
  obtain ⟨hx, hb_, hml, hown, hts⟩ := id hcf
  have hin7 : ∀ w_ ∈ wsX70, w_ ∈ wsX11_copy := fun w_ h_ => (List.mem_cons_of_mem _ (List.mem_append_left _ (List.mem_append_right _ h_)))
  have hl : lv_has ls 9 [(0, .ref (r_ 0)), (1, .int a_), (2, .int b_), (3, .int i_), (4, .int j_), (5, .int n_)] := hl
  refine lv_aload_n hx hb_ dX11_copy_0 rfl (lv_at hl 0 rfl) ?_
  refine lv_iload_n hx hb_ dX11_copy_1 rfl (lv_at hl 1 rfl) ?_
  refine z_kq hw hA (va_runV (As := [.int a_]) (rest := []) hcf (c_X11_shelfAt l cD cy _ r_ S_ hSh a_) (cwV 1 hts gX11_copy_X11_shelfAt rfl rfl rfl (by decide +kernel) ⟨Nat.le_of_ble_eq_true rfl, Nat.le_of_ble_eq_true rfl⟩) (z_preV (k := 11) hK_ hE hw (cL hSh 0) (cK hSh 0) (by decide) rfl) rfl rfl hl.1 rfl (lv_room (Nat.le_of_ble_eq_true rfl)) dX11_copy_2 ⟨Nat.le_of_ble_eq_true rfl, Nat.le_of_ble_eq_true rfl⟩) (fun v1 S2 H_ locs_ hp hw => ?_)
  obtain ⟨hp, rfl⟩ := hp
  rcases hp with ⟨hs3, rfl⟩ | ⟨⟨ha3, hb3⟩, j3, hj3, ej3, rfl⟩
  · refine lv_astoreN (lv' := [(6, .null), (0, .ref (r_ 0)), (1, .int a_), (2, .int b_), (3, .int i_), (4, .int j_), (5, .int n_)]) hx hb_ dX11_copy_5 hl (by decide) rfl (fun ls hl => ?_)
    refine lv_aload_n hx hb_ dX11_copy_7 rfl (lv_at hl 1 rfl) ?_
    refine lv_iload_n hx hb_ dX11_copy_8 rfl (lv_at hl 3 rfl) ?_
    refine z_kq hw hA (va_runV (As := [.int b_]) (rest := []) hcf (c_X11_shelfAt l cD cy _ r_ S_ hSh b_) (cwV 1 hts gX11_copy_X11_shelfAt rfl rfl rfl (by decide +kernel) ⟨Nat.le_of_ble_eq_true rfl, Nat.le_of_ble_eq_true rfl⟩) (z_preV (k := 11) hK_ hE hw (cL hSh 0) (cK hSh 0) (by decide) rfl) rfl rfl hl.1 rfl (lv_room (Nat.le_of_ble_eq_true rfl)) dX11_copy_9 ⟨Nat.le_of_ble_eq_true rfl, Nat.le_of_ble_eq_true rfl⟩) (fun v4 S5 H_ locs_ hp hw => ?_)
    obtain ⟨hp, rfl⟩ := hp
    rcases hp with ⟨hs6, rfl⟩ | ⟨⟨ha6, hb6⟩, j6, hj6, ej6, rfl⟩
    · refine lv_astoreN (lv' := [(7, .null), (6, .null), (0, .ref (r_ 0)), (1, .int a_), (2, .int b_), (3, .int i_), (4, .int j_), (5, .int n_)]) hx hb_ dX11_copy_12 hl (by decide) rfl (fun ls hl => ?_)
      refine lv_aloadN hx hb_ dX11_copy_14 (lv_at hl 1 rfl) ?_
      refine lv_ifnullN (tgt := 24) hx hb_ dX11_copy_16 (by decide) ?_
      refine lv_aload_n hx hb_ dX11_copy_24 rfl (lv_at hl 2 rfl) ?_
      refine lv_iconst (v := (-1)) hx hb_ dX11_copy_25 (by decide) ?_
      refine z_ki hw hA (va_runV (As := [.int (-1)]) (rest := []) hcf (c_X11_refuse l cD cy _ r_ S_ hSh (-1) (by decide) (by decide)) (cwV 1 hts gX11_copy_X11_refuse rfl rfl rfl (by decide +kernel) ⟨Nat.le_of_ble_eq_true rfl, Nat.le_of_ble_eq_true rfl⟩) (z_preV (k := 11) hK_ hE hw (cL hSh 0) (cK hSh 0) (by decide) rfl) rfl rfl hl.1 rfl (lv_room (Nat.le_of_ble_eq_true rfl)) dX11_copy_26 ⟨Nat.le_of_ble_eq_true rfl, Nat.le_of_ble_eq_true rfl⟩) (fun v7 S8 H_ locs_ hp hw => ?_)
      obtain ⟨rfl, f9, rfl⟩ := hp
      exact z_iret (ty := .int) (v := (-1)) hcf hr rfl hlk hw (by first | (simp [q_copy, hs3, hs6]; done) | (rcases hs3 with q_ | q_ <;> (simp [q_copy, q_]; done)) | (simp_all [q_copy]; done)) dX11_copy_29
    · refine lv_astore (lv' := [(7, .ref (r_ (17 + j6))), (6, .null), (0, .ref (r_ 0)), (1, .int a_), (2, .int b_), (3, .int i_), (4, .int j_), (5, .int n_)]) hx hb_ dX11_copy_12 hl (by decide) rfl (fun ls hl => ?_)
      refine lv_aloadN hx hb_ dX11_copy_14 (lv_at hl 1 rfl) ?_
      refine lv_ifnullN (tgt := 24) hx hb_ dX11_copy_16 (by decide) ?_
      refine lv_aload_n hx hb_ dX11_copy_24 rfl (lv_at hl 2 rfl) ?_
      refine lv_iconst (v := (-1)) hx hb_ dX11_copy_25 (by decide) ?_
      refine z_ki hw hA (va_runV (As := [.int (-1)]) (rest := []) hcf (c_X11_refuse l cD cy _ r_ S_ hSh (-1) (by decide) (by decide)) (cwV 1 hts gX11_copy_X11_refuse rfl rfl rfl (by decide +kernel) ⟨Nat.le_of_ble_eq_true rfl, Nat.le_of_ble_eq_true rfl⟩) (z_preV (k := 11) hK_ hE hw (cL hSh 0) (cK hSh 0) (by decide) rfl) rfl rfl hl.1 rfl (lv_room (Nat.le_of_ble_eq_true rfl)) dX11_copy_26 ⟨Nat.le_of_ble_eq_true rfl, Nat.le_of_ble_eq_true rfl⟩) (fun v10 S11 H_ locs_ hp hw => ?_)
      obtain ⟨rfl, f12, rfl⟩ := hp
      exact z_iret (ty := .int) (v := (-1)) hcf hr rfl hlk hw (by first | (simp [q_copy, hs3, ha6, hb6]; done) | (rcases hs3 with q_ | q_ <;> (simp [q_copy, q_, ha6, hb6]; done)) | (simp_all [q_copy]; done)) dX11_copy_29
  · refine lv_astore (lv' := [(6, .ref (r_ (17 + j3))), (0, .ref (r_ 0)), (1, .int a_), (2, .int b_), (3, .int i_), (4, .int j_), (5, .int n_)]) hx hb_ dX11_copy_5 hl (by decide) rfl (fun ls hl => ?_)
    refine lv_aload_n hx hb_ dX11_copy_7 rfl (lv_at hl 1 rfl) ?_
    refine lv_iload_n hx hb_ dX11_copy_8 rfl (lv_at hl 3 rfl) ?_
    refine z_kq hw hA (va_runV (As := [.int b_]) (rest := []) hcf (c_X11_shelfAt l cD cy _ r_ S_ hSh b_) (cwV 1 hts gX11_copy_X11_shelfAt rfl rfl rfl (by decide +kernel) ⟨Nat.le_of_ble_eq_true rfl, Nat.le_of_ble_eq_true rfl⟩) (z_preV (k := 11) hK_ hE hw (cL hSh 0) (cK hSh 0) (by decide) rfl) rfl rfl hl.1 rfl (lv_room (Nat.le_of_ble_eq_true rfl)) dX11_copy_9 ⟨Nat.le_of_ble_eq_true rfl, Nat.le_of_ble_eq_true rfl⟩) (fun v13 S14 H_ locs_ hp hw => ?_)
    obtain ⟨hp, rfl⟩ := hp
    rcases hp with ⟨hs15, rfl⟩ | ⟨⟨ha15, hb15⟩, j15, hj15, ej15, rfl⟩
    · refine lv_astoreN (lv' := [(7, .null), (6, .ref (r_ (17 + j3))), (0, .ref (r_ 0)), (1, .int a_), (2, .int b_), (3, .int i_), (4, .int j_), (5, .int n_)]) hx hb_ dX11_copy_12 hl (by decide) rfl (fun ls hl => ?_)
      refine lv_aload hx hb_ dX11_copy_14 (lv_at hl 1 rfl) ?_
      refine lv_ifnull hx hb_ dX11_copy_16 ?_
      refine lv_aloadN hx hb_ dX11_copy_19 (lv_at hl 0 rfl) ?_
      refine lv_ifnonnullN hx hb_ dX11_copy_21 ?_
      refine lv_aload_n hx hb_ dX11_copy_24 rfl (lv_at hl 2 rfl) ?_
      refine lv_iconst (v := (-1)) hx hb_ dX11_copy_25 (by decide) ?_
      refine z_ki hw hA (va_runV (As := [.int (-1)]) (rest := []) hcf (c_X11_refuse l cD cy _ r_ S_ hSh (-1) (by decide) (by decide)) (cwV 1 hts gX11_copy_X11_refuse rfl rfl rfl (by decide +kernel) ⟨Nat.le_of_ble_eq_true rfl, Nat.le_of_ble_eq_true rfl⟩) (z_preV (k := 11) hK_ hE hw (cL hSh 0) (cK hSh 0) (by decide) rfl) rfl rfl hl.1 rfl (lv_room (Nat.le_of_ble_eq_true rfl)) dX11_copy_26 ⟨Nat.le_of_ble_eq_true rfl, Nat.le_of_ble_eq_true rfl⟩) (fun v16 S17 H_ locs_ hp hw => ?_)
      obtain ⟨rfl, f18, rfl⟩ := hp
      exact z_iret (ty := .int) (v := (-1)) hcf hr rfl hlk hw (by first | (simp [q_copy, ha3, hb3, hs15]; done) | (rcases hs15 with q_ | q_ <;> (simp [q_copy, q_, ha3, hb3]; done)) | (simp_all [q_copy]; done)) dX11_copy_29
    · refine lv_astore (lv' := [(7, .ref (r_ (17 + j15))), (6, .ref (r_ (17 + j3))), (0, .ref (r_ 0)), (1, .int a_), (2, .int b_), (3, .int i_), (4, .int j_), (5, .int n_)]) hx hb_ dX11_copy_12 hl (by decide) rfl (fun ls hl => ?_)
      refine lv_aload hx hb_ dX11_copy_14 (lv_at hl 1 rfl) ?_
      refine lv_ifnull hx hb_ dX11_copy_16 ?_
      refine lv_aload hx hb_ dX11_copy_19 (lv_at hl 0 rfl) ?_
      refine lv_ifnonnull (tgt := 30) hx hb_ dX11_copy_21 (by decide) ?_
      refine lv_aload hx hb_ dX11_copy_30 (lv_at hl 1 rfl) ?_
      refine z_getN (k := 7) (i := 3) (j := 703) (v := .int (-1)) (ref := "FoldedInHalf$Shelf") (C := RX7) (T := TX7) (N := 4) hcf hK_ hw hin7 (cL hSh (17 + j3) (by omega)) (cKS hSh j3 hj3) rfl (by decide) (by decide) rfl rfl (congrArg Value.int (hF.2.2.2.1 j3 hj3).2.2) (nw_F_FoldedInHalf_69 hE) (fun _ h_ => h_) dX11_copy_32 ?_
      refine lv_iconst (v := (-1)) hx hb_ dX11_copy_35 (by decide) ?_
      refine lv_icmp_ne (tgt := 48) hx hb_ dX11_copy_36 (by decide) (fun c_36 => absurd c_36 (by decide)) (fun _ => ?_)
      refine lv_aload hx hb_ dX11_copy_39 (lv_at hl 0 rfl) ?_
      refine z_getN (k := 7) (i := 3) (j := 703) (v := .int (-1)) (ref := "FoldedInHalf$Shelf") (C := RX7) (T := TX7) (N := 4) hcf hK_ hw hin7 (cL hSh (17 + j15) (by omega)) (cKS hSh j15 hj15) rfl (by decide) (by decide) rfl rfl (congrArg Value.int (hF.2.2.2.1 j15 hj15).2.2) (nw_F_FoldedInHalf_69 hE) (fun _ h_ => h_) dX11_copy_41 ?_
      refine lv_iconst (v := (-1)) hx hb_ dX11_copy_44 (by decide) ?_
      refine lv_icmp_eq (tgt := 55) hx hb_ dX11_copy_45 (by decide) (fun _ => ?_) (fun c_45 => absurd c_45 (by decide))
      refine lv_aload hx hb_ dX11_copy_55 (lv_at hl 1 rfl) ?_
      refine z_getN (k := 7) (i := 2) (j := 702) (v := .int (-1)) (ref := "FoldedInHalf$Shelf") (C := RX7) (T := TX7) (N := 4) hcf hK_ hw hin7 (cL hSh (17 + j3) (by omega)) (cKS hSh j3 hj3) rfl (by decide) (by decide) rfl rfl (congrArg Value.int (hF.2.2.2.1 j3 hj3).2.1) (nw_F_FoldedInHalf_72 hE) (fun _ h_ => h_) dX11_copy_57 ?_
      refine lv_iconst (v := (-1)) hx hb_ dX11_copy_60 (by decide) ?_
      refine lv_icmp_eq (tgt := 73) hx hb_ dX11_copy_61 (by decide) (fun _ => ?_) (fun c_61 => absurd c_61 (by decide))
      refine lv_iconst (v := 1) hx hb_ dX11_copy_73 (by decide) ?_
      refine lv_goto (tgt := 78) hx hb_ dX11_copy_74 (by decide) ?_
      refine lv_istore (lv' := [(8, .int 1), (7, .ref (r_ (17 + j15))), (6, .ref (r_ (17 + j3))), (0, .ref (r_ 0)), (1, .int a_), (2, .int b_), (3, .int i_), (4, .int j_), (5, .int n_)]) hx hb_ dX11_copy_78 hl (by decide) rfl (fun ls hl => ?_)
      refine lv_iload hx hb_ dX11_copy_80 (lv_at hl 0 rfl) ?_
      refine lv_if_ne (tgt := 105) hx hb_ dX11_copy_82 (by decide) (fun _ => ?_) (fun c_82 => absurd c_82 (by decide))
      refine lv_iload hx hb_ dX11_copy_105 (lv_at hl 0 rfl) ?_
      refine lv_if_eq (tgt := 117) hx hb_ dX11_copy_107 (by decide) (fun c_107 => absurd c_107 (by decide)) (fun _ => ?_)
      refine lv_aload_n hx hb_ dX11_copy_110 rfl (lv_at hl 3 rfl) ?_
      refine lv_bipush (v := (-3)) hx hb_ dX11_copy_111 (by decide) ?_
      refine z_ki hw hA (va_runV (As := [.int (-3)]) (rest := []) hcf (c_X11_refuse l cD cy _ r_ S_ hSh (-3) (by decide) (by decide)) (cwV 1 hts gX11_copy_X11_refuse rfl rfl rfl (by decide +kernel) ⟨Nat.le_of_ble_eq_true rfl, Nat.le_of_ble_eq_true rfl⟩) (z_preV (k := 11) hK_ hE hw (cL hSh 0) (cK hSh 0) (by decide) rfl) rfl rfl hl.1 rfl (lv_room (Nat.le_of_ble_eq_true rfl)) dX11_copy_113 ⟨Nat.le_of_ble_eq_true rfl, Nat.le_of_ble_eq_true rfl⟩) (fun v19 S20 H_ locs_ hp hw => ?_)
      obtain ⟨rfl, f21, rfl⟩ := hp
      exact z_iret (ty := .int) (v := (-3)) hcf hr rfl hlk hw (by first | (simp [q_copy, ha3, hb3, ha15, hb15]; done) | (simp_all [q_copy]; done)) dX11_copy_116

set_option maxHeartbeats 4000000 in
set_option maxRecDepth 100000 in
/-- element on an object just made -/
theorem c_X11_element (l : Launch) (cD : va_G) (cy : Nat → ClassId) (sz_ : Nat) (r_ : Nat → Nat) (S_ : zS) (hSh : ShC S_ r_) (hF : FrC S_ r_) (a_ : Int32) (i_ : Int32) : Met l yX11_element wsX11_element ({ frames := 1, cells := 0, slots := 0, locals := 21 } : Room) (va_Pc [.ref (r_ 0), .int a_, .int i_] (zPre cD cy S_ sz_)) (va_Ql (fun (v_ : Int64) (S1 : zS) => v_ = 0) (zPost cD cy (zAd cy S_ sz_)) (zAd cy S_ sz_)) 0 0 (zAd cy S_ sz_) := by
  refine z_ofW (cc := cX11_element) (maxL := 4) (ret := (some .long)) (own := RX11) (QQ := fun A_ => va_Ql (fun (v_ : Int64) (S1 : zS) => v_ = 0) (zPost cD cy A_) A_) (by decide) rfl rfl (Nat.le_of_ble_eq_true rfl) ?_
  intro p_ e_ s_ m_ args_ below_ meth_ c_ A_ ls hcf hr hlk hnm hK_ hE hw hA hl
  obtain ⟨hx, hb_, hml, hown, hts⟩ := id hcf
  have hl : lv_has ls 4 [(0, .ref (r_ 0)), (1, .int a_), (2, .int i_)] := hl
  refine lv_aload_n hx hb_ dX11_element_0 rfl (lv_at hl 0 rfl) ?_
  refine lv_iload_n hx hb_ dX11_element_1 rfl (lv_at hl 1 rfl) ?_
  refine z_kq hw hA (va_runV (As := [.int a_]) (rest := []) hcf (c_X11_shelfAt l cD cy _ r_ S_ hSh a_) (cwV 1 hts gX11_element_X11_shelfAt rfl rfl rfl (by decide +kernel) ⟨Nat.le_of_ble_eq_true rfl, Nat.le_of_ble_eq_true rfl⟩) (z_preV (k := 11) hK_ hE hw (cL hSh 0) (cK hSh 0) (by decide) rfl) rfl rfl hl.1 rfl (lv_room (Nat.le_of_ble_eq_true rfl)) dX11_element_2 ⟨Nat.le_of_ble_eq_true rfl, Nat.le_of_ble_eq_true rfl⟩) (fun v1 S2 H_ locs_ hp hw => ?_)
  obtain ⟨hp, rfl⟩ := hp
  rcases hp with ⟨hs3, rfl⟩ | ⟨⟨ha3, hb3⟩, j3, hj3, ej3, rfl⟩
  · refine lv_astore_nN (lv' := [(3, .null), (0, .ref (r_ 0)), (1, .int a_), (2, .int i_)]) hx hb_ dX11_element_5 rfl hl (by decide) rfl (fun ls hl => ?_)
    refine lv_aload_nN hx hb_ dX11_element_6 rfl (lv_at hl 0 rfl) ?_
    refine lv_ifnonnullN hx hb_ dX11_element_7 ?_
    refine lv_lconst (v := 0) hx hb_ dX11_element_10 (by decide) ?_
    refine lv_goto (tgt := 19) hx hb_ dX11_element_11 (by decide) ?_
    exact z_lret (v := 0) hcf hr hlk hw (rfl) dX11_element_19
  · refine lv_astore_n (lv' := [(3, .ref (r_ (17 + j3))), (0, .ref (r_ 0)), (1, .int a_), (2, .int i_)]) hx hb_ dX11_element_5 rfl hl (by decide) rfl (fun ls hl => ?_)
    refine lv_aload_n hx hb_ dX11_element_6 rfl (lv_at hl 0 rfl) ?_
    refine lv_ifnonnull (tgt := 14) hx hb_ dX11_element_7 (by decide) ?_
    refine lv_aload_n hx hb_ dX11_element_14 rfl (lv_at hl 0 rfl) ?_
    refine lv_iload_n hx hb_ dX11_element_15 rfl (lv_at hl 3 rfl) ?_
    refine z_kl hw hA (va_runVN (As := [.int i_]) (rest := []) hcf (c_X7_at l cD cy _ S_ (r_ (17 + j3)) (cL hSh (17 + j3) (by omega)) (cKS hSh j3 hj3) (hF.2.2.2.1 j3 hj3).1 i_) ⟨va_cnB 1 hts gX11_element_X7_at_n133 rfl rfl rfl (nw_M_FoldedInHalf_133 hE) (hts (.initialized RX7) (by decide +kernel)) (by decide +kernel) ⟨Nat.le_of_ble_eq_true rfl, Nat.le_of_ble_eq_true rfl⟩, hts (.instanceMethod yX7_at) (by decide +kernel), hts (.selects RX7 yX7_at yX7_at) (by decide +kernel)⟩ (z_preV (k := 7) hK_ hE hw (cL hSh (17 + j3) (by omega)) (cKS hSh j3 hj3) (by decide) rfl) rfl rfl hl.1 rfl (lv_room (Nat.le_of_ble_eq_true rfl)) dX11_element_16 ⟨Nat.le_of_ble_eq_true rfl, Nat.le_of_ble_eq_true rfl⟩) (fun v4 S5 H_ locs_ hp hw => ?_)
    obtain ⟨rfl, rfl⟩ := hp
    exact z_lret (v := 0) hcf hr hlk hw (rfl) dX11_element_19

set_option maxHeartbeats 4000000 in
set_option maxRecDepth 100000 in
/-- show on an object just made -/
theorem c_X11_show (l : Launch) (cD : va_G) (cy : Nat → ClassId) (sz_ : Nat) (r_ : Nat → Nat) (S_ : zS) (hSh : ShC S_ r_) (hF : FrC S_ r_) (a_ : Int32) (t_ : Int32) : Met l yX11_show wsX11_show ({ frames := 1, cells := 0, slots := 0, locals := 22 } : Room) (va_Pc [.ref (r_ 0), .int a_, .int t_] (zPre cD cy S_ sz_)) (va_Qi (fun (v_ : Int32) (S1 : zS) => v_ = q_show a_ t_) (zPost cD cy (zAd cy S_ sz_)) (zAd cy S_ sz_)) 0 0 (zAd cy S_ sz_) := by
  refine z_ofW (cc := cX11_show) (maxL := 4) (ret := (some .int)) (own := RX11) (QQ := fun A_ => va_Qi (fun (v_ : Int32) (S1 : zS) => v_ = q_show a_ t_) (zPost cD cy A_) A_) (by decide) rfl rfl (Nat.le_of_ble_eq_true rfl) ?_
  intro p_ e_ s_ m_ args_ below_ meth_ c_ A_ ls hcf hr hlk hnm hK_ hE hw hA hl
  obtain ⟨hx, hb_, hml, hown, hts⟩ := id hcf
  have hl : lv_has ls 4 [(0, .ref (r_ 0)), (1, .int a_), (2, .int t_)] := hl
  refine lv_aload_n hx hb_ dX11_show_0 rfl (lv_at hl 0 rfl) ?_
  refine lv_iload_n hx hb_ dX11_show_1 rfl (lv_at hl 1 rfl) ?_
  refine z_kq hw hA (va_runV (As := [.int a_]) (rest := []) hcf (c_X11_shelfAt l cD cy _ r_ S_ hSh a_) (cwV 1 hts gX11_show_X11_shelfAt rfl rfl rfl (by decide +kernel) ⟨Nat.le_of_ble_eq_true rfl, Nat.le_of_ble_eq_true rfl⟩) (z_preV (k := 11) hK_ hE hw (cL hSh 0) (cK hSh 0) (by decide) rfl) rfl rfl hl.1 rfl (lv_room (Nat.le_of_ble_eq_true rfl)) dX11_show_2 ⟨Nat.le_of_ble_eq_true rfl, Nat.le_of_ble_eq_true rfl⟩) (fun v1 S2 H_ locs_ hp hw => ?_)
  obtain ⟨hp, rfl⟩ := hp
  rcases hp with ⟨hs3, rfl⟩ | ⟨⟨ha3, hb3⟩, j3, hj3, ej3, rfl⟩
  · refine lv_astore_nN (lv' := [(3, .null), (0, .ref (r_ 0)), (1, .int a_), (2, .int t_)]) hx hb_ dX11_show_5 rfl hl (by decide) rfl (fun ls hl => ?_)
    refine lv_aload_nN hx hb_ dX11_show_6 rfl (lv_at hl 0 rfl) ?_
    refine lv_ifnullN (tgt := 23) hx hb_ dX11_show_7 (by decide) ?_
    refine lv_aload_n hx hb_ dX11_show_23 rfl (lv_at hl 1 rfl) ?_
    refine lv_iconst (v := (-1)) hx hb_ dX11_show_24 (by decide) ?_
    refine z_ki hw hA (va_runV (As := [.int (-1)]) (rest := []) hcf (c_X11_refuse l cD cy _ r_ S_ hSh (-1) (by decide) (by decide)) (cwV 1 hts gX11_show_X11_refuse rfl rfl rfl (by decide +kernel) ⟨Nat.le_of_ble_eq_true rfl, Nat.le_of_ble_eq_true rfl⟩) (z_preV (k := 11) hK_ hE hw (cL hSh 0) (cK hSh 0) (by decide) rfl) rfl rfl hl.1 rfl (lv_room (Nat.le_of_ble_eq_true rfl)) dX11_show_25 ⟨Nat.le_of_ble_eq_true rfl, Nat.le_of_ble_eq_true rfl⟩) (fun v4 S5 H_ locs_ hp hw => ?_)
    obtain ⟨rfl, f6, rfl⟩ := hp
    exact z_iret (ty := .int) (v := (-1)) hcf hr rfl hlk hw (by first | (simp [q_show, hs3]; done) | (rcases hs3 with q_ | q_ <;> (simp [q_show, q_]; done)) | (simp_all [q_show]; done)) dX11_show_28
  · refine lv_astore_n (lv' := [(3, .ref (r_ (17 + j3))), (0, .ref (r_ 0)), (1, .int a_), (2, .int t_)]) hx hb_ dX11_show_5 rfl hl (by decide) rfl (fun ls hl => ?_)
    refine lv_aload_n hx hb_ dX11_show_6 rfl (lv_at hl 0 rfl) ?_
    refine lv_ifnull hx hb_ dX11_show_7 ?_
    refine lv_iload_n hx hb_ dX11_show_10 rfl (lv_at hl 3 rfl) ?_
    refine lv_iconst (v := (-1)) hx hb_ dX11_show_11 (by decide) ?_
    refine lv_icmp_eq (tgt := 29) hx hb_ dX11_show_12 (by decide) (fun c_12 => ?_) (fun c_12 => ?_)
    · refine lv_aload_n hx hb_ dX11_show_29 rfl (lv_at hl 0 rfl) ?_
      refine lv_iload_n hx hb_ dX11_show_30 rfl (lv_at hl 3 rfl) ?_
      refine z_kv hw hA (va_runVN (As := [.int t_]) (rest := []) hcf (c_X7_holdStrip l cD cy _ S_ (r_ (17 + j3)) (cL hSh (17 + j3) (by omega)) (cKS hSh j3 hj3) t_) ⟨va_cnB 1 hts gX11_show_X7_holdStrip_n141 rfl rfl rfl (nw_M_FoldedInHalf_141 hE) (hts (.initialized RX7) (by decide +kernel)) (by decide +kernel) ⟨Nat.le_of_ble_eq_true rfl, Nat.le_of_ble_eq_true rfl⟩, hts (.instanceMethod yX7_holdStrip) (by decide +kernel), hts (.selects RX7 yX7_holdStrip yX7_holdStrip) (by decide +kernel)⟩ (z_preV (k := 7) hK_ hE hw (cL hSh (17 + j3) (by omega)) (cKS hSh j3 hj3) (by decide) rfl) rfl rfl hl.1 rfl (lv_room (Nat.le_of_ble_eq_true rfl)) dX11_show_31 ⟨Nat.le_of_ble_eq_true rfl, Nat.le_of_ble_eq_true rfl⟩) (fun S8 H_ locs_ hp hw => ?_)
      refine lv_iload_n hx hb_ dX11_show_34 rfl (lv_at hl 3 rfl) ?_
      refine lv_iconst (v := (-1)) hx hb_ dX11_show_35 (by decide) ?_
      refine lv_icmp_ne (tgt := 43) hx hb_ dX11_show_36 (by decide) (fun c_36 => ?_) (fun c_36 => ?_)
      · refine lv_iconst (v := 1) hx hb_ dX11_show_43 (by decide) ?_
        exact z_iret (ty := .int) (v := 1) hcf hr rfl hlk hw (by first | (simp [q_show, ha3, hb3, c_12, c_36]; done) | (simp_all [q_show]; done)) dX11_show_44
      · refine lv_iconst (v := 0) hx hb_ dX11_show_39 (by decide) ?_
        refine lv_goto (tgt := 44) hx hb_ dX11_show_40 (by decide) ?_
        exact z_iret (ty := .int) (v := 0) hcf hr rfl hlk hw (by first | (simp [q_show, ha3, hb3, c_12, c_36]; done) | (simp_all [q_show]; done)) dX11_show_44
    · refine lv_aload_n hx hb_ dX11_show_15 rfl (lv_at hl 1 rfl) ?_
      refine lv_iload_n hx hb_ dX11_show_16 rfl (lv_at hl 3 rfl) ?_
      refine z_kq hw hA (va_runV (As := [.int t_]) (rest := []) hcf (c_X11_stripAt l cD cy _ r_ S_ hSh hF.1 t_) (cwV 1 hts gX11_show_X11_stripAt rfl rfl rfl (by decide +kernel) ⟨Nat.le_of_ble_eq_true rfl, Nat.le_of_ble_eq_true rfl⟩) (z_preV (k := 11) hK_ hE hw (cL hSh 0) (cK hSh 0) (by decide) rfl) rfl rfl hl.1 rfl (lv_room (Nat.le_of_ble_eq_true rfl)) dX11_show_17 ⟨Nat.le_of_ble_eq_true rfl, Nat.le_of_ble_eq_true rfl⟩) (fun v9 S10 H_ locs_ hp hw => ?_)
      obtain ⟨rfl, rfl⟩ := hp
      refine lv_ifnonnullN hx hb_ dX11_show_20 ?_
      refine lv_aload_n hx hb_ dX11_show_23 rfl (lv_at hl 1 rfl) ?_
      refine lv_iconst (v := (-1)) hx hb_ dX11_show_24 (by decide) ?_
      refine z_ki hw hA (va_runV (As := [.int (-1)]) (rest := []) hcf (c_X11_refuse l cD cy _ r_ S_ hSh (-1) (by decide) (by decide)) (cwV 1 hts gX11_show_X11_refuse rfl rfl rfl (by decide +kernel) ⟨Nat.le_of_ble_eq_true rfl, Nat.le_of_ble_eq_true rfl⟩) (z_preV (k := 11) hK_ hE hw (cL hSh 0) (cK hSh 0) (by decide) rfl) rfl rfl hl.1 rfl (lv_room (Nat.le_of_ble_eq_true rfl)) dX11_show_25 ⟨Nat.le_of_ble_eq_true rfl, Nat.le_of_ble_eq_true rfl⟩) (fun v11 S12 H_ locs_ hp hw => ?_)
      obtain ⟨rfl, f13, rfl⟩ := hp
      exact z_iret (ty := .int) (v := (-1)) hcf hr rfl hlk hw (by first | (simp [q_show, ha3, hb3, c_12]; done) | (simp_all [q_show]; done)) dX11_show_28

set_option maxHeartbeats 4000000 in
set_option maxRecDepth 100000 in
/-- holds on an object just made -/
theorem c_X11_holds (l : Launch) (cD : va_G) (cy : Nat → ClassId) (sz_ : Nat) (r_ : Nat → Nat) (S_ : zS) (hSh : ShC S_ r_) (hF : FrC S_ r_) (a_ : Int32) : Met l yX11_holds wsX11_holds ({ frames := 1, cells := 0, slots := 0, locals := 21 } : Room) (va_Pc [.ref (r_ 0), .int a_] (zPre cD cy S_ sz_)) (va_Qi (fun (v_ : Int32) (S1 : zS) => v_ = -1) (zPost cD cy (zAd cy S_ sz_)) (zAd cy S_ sz_)) 0 0 (zAd cy S_ sz_) := by
  refine z_ofW (cc := cX11_holds) (maxL := 3) (ret := (some .int)) (own := RX11) (QQ := fun A_ => va_Qi (fun (v_ : Int32) (S1 : zS) => v_ = -1) (zPost cD cy A_) A_) (by decide) rfl rfl (Nat.le_of_ble_eq_true rfl) ?_
  intro p_ e_ s_ m_ args_ below_ meth_ c_ A_ ls hcf hr hlk hnm hK_ hE hw hA hl
  obtain ⟨hx, hb_, hml, hown, hts⟩ := id hcf
  have hin7 : ∀ w_ ∈ wsX70, w_ ∈ wsX11_holds := fun w_ h_ => (List.mem_cons_of_mem _ (List.mem_append_left _ (List.mem_append_right _ h_)))
  have hl : lv_has ls 3 [(0, .ref (r_ 0)), (1, .int a_)] := hl
  refine lv_aload_n hx hb_ dX11_holds_0 rfl (lv_at hl 0 rfl) ?_
  refine lv_iload_n hx hb_ dX11_holds_1 rfl (lv_at hl 1 rfl) ?_
  refine z_kq hw hA (va_runV (As := [.int a_]) (rest := []) hcf (c_X11_shelfAt l cD cy _ r_ S_ hSh a_) (cwV 1 hts gX11_holds_X11_shelfAt rfl rfl rfl (by decide +kernel) ⟨Nat.le_of_ble_eq_true rfl, Nat.le_of_ble_eq_true rfl⟩) (z_preV (k := 11) hK_ hE hw (cL hSh 0) (cK hSh 0) (by decide) rfl) rfl rfl hl.1 rfl (lv_room (Nat.le_of_ble_eq_true rfl)) dX11_holds_2 ⟨Nat.le_of_ble_eq_true rfl, Nat.le_of_ble_eq_true rfl⟩) (fun v1 S2 H_ locs_ hp hw => ?_)
  obtain ⟨hp, rfl⟩ := hp
  rcases hp with ⟨hs3, rfl⟩ | ⟨⟨ha3, hb3⟩, j3, hj3, ej3, rfl⟩
  · refine lv_astore_nN (lv' := [(2, .null), (0, .ref (r_ 0)), (1, .int a_)]) hx hb_ dX11_holds_5 rfl hl (by decide) rfl (fun ls hl => ?_)
    refine lv_aload_nN hx hb_ dX11_holds_6 rfl (lv_at hl 0 rfl) ?_
    refine lv_ifnonnullN hx hb_ dX11_holds_7 ?_
    refine lv_iconst (v := (-1)) hx hb_ dX11_holds_10 (by decide) ?_
    exact z_iret (ty := .int) (v := (-1)) hcf hr rfl hlk hw (rfl) dX11_holds_11
  · refine lv_astore_n (lv' := [(2, .ref (r_ (17 + j3))), (0, .ref (r_ 0)), (1, .int a_)]) hx hb_ dX11_holds_5 rfl hl (by decide) rfl (fun ls hl => ?_)
    refine lv_aload_n hx hb_ dX11_holds_6 rfl (lv_at hl 0 rfl) ?_
    refine lv_ifnonnull (tgt := 12) hx hb_ dX11_holds_7 (by decide) ?_
    refine lv_aload_n hx hb_ dX11_holds_12 rfl (lv_at hl 0 rfl) ?_
    refine z_getN (k := 7) (i := 2) (j := 702) (v := .int (-1)) (ref := "FoldedInHalf$Shelf") (C := RX7) (T := TX7) (N := 4) hcf hK_ hw hin7 (cL hSh (17 + j3) (by omega)) (cKS hSh j3 hj3) rfl (by decide) (by decide) rfl rfl (congrArg Value.int (hF.2.2.2.1 j3 hj3).2.1) (nw_F_FoldedInHalf_72 hE) (fun _ h_ => h_) dX11_holds_13 ?_
    refine lv_iconst (v := (-1)) hx hb_ dX11_holds_16 (by decide) ?_
    refine lv_icmp_ne (tgt := 27) hx hb_ dX11_holds_17 (by decide) (fun c_17 => absurd c_17 (by decide)) (fun _ => ?_)
    refine lv_aload_n hx hb_ dX11_holds_20 rfl (lv_at hl 0 rfl) ?_
    refine z_getN (k := 7) (i := 3) (j := 703) (v := .int (-1)) (ref := "FoldedInHalf$Shelf") (C := RX7) (T := TX7) (N := 4) hcf hK_ hw hin7 (cL hSh (17 + j3) (by omega)) (cKS hSh j3 hj3) rfl (by decide) (by decide) rfl rfl (congrArg Value.int (hF.2.2.2.1 j3 hj3).2.2) (nw_F_FoldedInHalf_69 hE) (fun _ h_ => h_) dX11_holds_21 ?_
    refine lv_goto (tgt := 34) hx hb_ dX11_holds_24 (by decide) ?_
    exact z_iret (ty := .int) (v := (-1)) hcf hr rfl hlk hw (rfl) dX11_holds_34

set_option maxHeartbeats 4000000 in
set_option maxRecDepth 100000 in
/-- says on an object just made -/
theorem c_X11_says (l : Launch) (cD : va_G) (cy : Nat → ClassId) (sz_ : Nat) (r_ : Nat → Nat) (S_ : zS) (hSh : ShC S_ r_) (hF : FrC S_ r_) (a_ : Int32) (k_ : Int32) : Met l yX11_says wsX11_says ({ frames := 1, cells := 0, slots := 0, locals := 22 } : Room) (va_Pc [.ref (r_ 0), .int a_, .int k_] (zPre cD cy S_ sz_)) (va_Qi (fun (v_ : Int32) (S1 : zS) => v_ = q_says a_ k_) (zPost cD cy (zAd cy S_ sz_)) (zAd cy S_ sz_)) 0 0 (zAd cy S_ sz_) := by
  refine z_ofW (cc := cX11_says) (maxL := 5) (ret := (some .int)) (own := RX11) (QQ := fun A_ => va_Qi (fun (v_ : Int32) (S1 : zS) => v_ = q_says a_ k_) (zPost cD cy A_) A_) (by decide) rfl rfl (Nat.le_of_ble_eq_true rfl) ?_
  intro p_ e_ s_ m_ args_ below_ meth_ c_ A_ ls hcf hr hlk hnm hK_ hE hw hA hl
  obtain ⟨hx, hb_, hml, hown, hts⟩ := id hcf
  have hin7 : ∀ w_ ∈ wsX70, w_ ∈ wsX11_says := fun w_ h_ => (List.mem_cons_of_mem _ (List.mem_append_left _ (List.mem_append_left _ (List.mem_append_left _ (List.mem_append_left _ (List.mem_append_left _ (List.mem_append_left _ (List.mem_append_left _ (List.mem_append_left _ (List.mem_append_right _ h_))))))))))
  have hl : lv_has ls 5 [(0, .ref (r_ 0)), (1, .int a_), (2, .int k_)] := hl
  refine lv_aload_n hx hb_ dX11_says_0 rfl (lv_at hl 0 rfl) ?_
  refine lv_iload_n hx hb_ dX11_says_1 rfl (lv_at hl 1 rfl) ?_
  refine z_kq hw hA (va_runV (As := [.int a_]) (rest := []) hcf (c_X11_shelfAt l cD cy _ r_ S_ hSh a_) (cwV 1 hts gX11_says_X11_shelfAt rfl rfl rfl (by decide +kernel) ⟨Nat.le_of_ble_eq_true rfl, Nat.le_of_ble_eq_true rfl⟩) (z_preV (k := 11) hK_ hE hw (cL hSh 0) (cK hSh 0) (by decide) rfl) rfl rfl hl.1 rfl (lv_room (Nat.le_of_ble_eq_true rfl)) dX11_says_2 ⟨Nat.le_of_ble_eq_true rfl, Nat.le_of_ble_eq_true rfl⟩) (fun v1 S2 H_ locs_ hp hw => ?_)
  obtain ⟨hp, rfl⟩ := hp
  rcases hp with ⟨hs3, rfl⟩ | ⟨⟨ha3, hb3⟩, j3, hj3, ej3, rfl⟩
  · refine lv_astore_nN (lv' := [(3, .null), (0, .ref (r_ 0)), (1, .int a_), (2, .int k_)]) hx hb_ dX11_says_5 rfl hl (by decide) rfl (fun ls hl => ?_)
    refine lv_aload_nN hx hb_ dX11_says_6 rfl (lv_at hl 0 rfl) ?_
    refine lv_ifnullN (tgt := 20) hx hb_ dX11_says_7 (by decide) ?_
    refine lv_aload_n hx hb_ dX11_says_20 rfl (lv_at hl 1 rfl) ?_
    refine lv_iconst (v := (-1)) hx hb_ dX11_says_21 (by decide) ?_
    refine z_ki hw hA (va_runV (As := [.int (-1)]) (rest := []) hcf (c_X11_refuse l cD cy _ r_ S_ hSh (-1) (by decide) (by decide)) (cwV 1 hts gX11_says_X11_refuse rfl rfl rfl (by decide +kernel) ⟨Nat.le_of_ble_eq_true rfl, Nat.le_of_ble_eq_true rfl⟩) (z_preV (k := 11) hK_ hE hw (cL hSh 0) (cK hSh 0) (by decide) rfl) rfl rfl hl.1 rfl (lv_room (Nat.le_of_ble_eq_true rfl)) dX11_says_22 ⟨Nat.le_of_ble_eq_true rfl, Nat.le_of_ble_eq_true rfl⟩) (fun v4 S5 H_ locs_ hp hw => ?_)
    obtain ⟨rfl, f6, rfl⟩ := hp
    exact z_iret (ty := .int) (v := (-1)) hcf hr rfl hlk hw (by first | (simp [q_says, hs3]; done) | (rcases hs3 with q_ | q_ <;> (simp [q_says, q_]; done)) | (simp_all [q_says]; done)) dX11_says_25
  · refine lv_astore_n (lv' := [(3, .ref (r_ (17 + j3))), (0, .ref (r_ 0)), (1, .int a_), (2, .int k_)]) hx hb_ dX11_says_5 rfl hl (by decide) rfl (fun ls hl => ?_)
    refine lv_aload_n hx hb_ dX11_says_6 rfl (lv_at hl 0 rfl) ?_
    refine lv_ifnull hx hb_ dX11_says_7 ?_
    refine lv_iload_n hx hb_ dX11_says_10 rfl (lv_at hl 3 rfl) ?_
    refine lv_if_lt (tgt := 20) hx hb_ dX11_says_11 (by decide) (fun c_11 => ?_) (fun c_11 => ?_)
    · refine lv_aload_n hx hb_ dX11_says_20 rfl (lv_at hl 1 rfl) ?_
      refine lv_iconst (v := (-1)) hx hb_ dX11_says_21 (by decide) ?_
      refine z_ki hw hA (va_runV (As := [.int (-1)]) (rest := []) hcf (c_X11_refuse l cD cy _ r_ S_ hSh (-1) (by decide) (by decide)) (cwV 1 hts gX11_says_X11_refuse rfl rfl rfl (by decide +kernel) ⟨Nat.le_of_ble_eq_true rfl, Nat.le_of_ble_eq_true rfl⟩) (z_preV (k := 11) hK_ hE hw (cL hSh 0) (cK hSh 0) (by decide) rfl) rfl rfl hl.1 rfl (lv_room (Nat.le_of_ble_eq_true rfl)) dX11_says_22 ⟨Nat.le_of_ble_eq_true rfl, Nat.le_of_ble_eq_true rfl⟩) (fun v7 S8 H_ locs_ hp hw => ?_)
      obtain ⟨rfl, f9, rfl⟩ := hp
      exact z_iret (ty := .int) (v := (-1)) hcf hr rfl hlk hw (by first | (simp [q_says, ha3, hb3, c_11]; done) | (simp_all [q_says]; done)) dX11_says_25
    · refine lv_iload_n hx hb_ dX11_says_14 rfl (lv_at hl 3 rfl) ?_
      refine lv_bipush (v := 6) hx hb_ dX11_says_15 (by decide) ?_
      refine lv_icmp_le (tgt := 26) hx hb_ dX11_says_17 (by decide) (fun c_17 => ?_) (fun c_17 => ?_)
      · refine lv_aload_n hx hb_ dX11_says_26 rfl (lv_at hl 0 rfl) ?_
        refine z_getN (k := 7) (i := 2) (j := 702) (v := .int (-1)) (ref := "FoldedInHalf$Shelf") (C := RX7) (T := TX7) (N := 4) hcf hK_ hw hin7 (cL hSh (17 + j3) (by omega)) (cKS hSh j3 hj3) rfl (by decide) (by decide) rfl rfl (congrArg Value.int (hF.2.2.2.1 j3 hj3).2.1) (nw_F_FoldedInHalf_72 hE) (fun _ h_ => h_) dX11_says_27 ?_
        refine lv_iconst (v := (-1)) hx hb_ dX11_says_30 (by decide) ?_
        refine lv_icmp_eq (tgt := 41) hx hb_ dX11_says_31 (by decide) (fun _ => ?_) (fun c_31 => absurd c_31 (by decide))
        refine lv_aload_n hx hb_ dX11_says_41 rfl (lv_at hl 1 rfl) ?_
        refine lv_aload_n hx hb_ dX11_says_42 rfl (lv_at hl 0 rfl) ?_
        refine z_getN (k := 7) (i := 3) (j := 703) (v := .int (-1)) (ref := "FoldedInHalf$Shelf") (C := RX7) (T := TX7) (N := 4) hcf hK_ hw hin7 (cL hSh (17 + j3) (by omega)) (cKS hSh j3 hj3) rfl (by decide) (by decide) rfl rfl (congrArg Value.int (hF.2.2.2.1 j3 hj3).2.2) (nw_F_FoldedInHalf_69 hE) (fun _ h_ => h_) dX11_says_43 ?_
        refine z_kq hw hA (va_runV (As := [.int (-1)]) (rest := []) hcf (c_X11_stripAt l cD cy _ r_ S_ hSh hF.1 (-1)) (cwV 1 hts gX11_says_X11_stripAt rfl rfl rfl (by decide +kernel) ⟨Nat.le_of_ble_eq_true rfl, Nat.le_of_ble_eq_true rfl⟩) (z_preV (k := 11) hK_ hE hw (cL hSh 0) (cK hSh 0) (by decide) rfl) rfl rfl hl.1 rfl (lv_room (Nat.le_of_ble_eq_true rfl)) dX11_says_46 ⟨Nat.le_of_ble_eq_true rfl, Nat.le_of_ble_eq_true rfl⟩) (fun v10 S11 H_ locs_ hp hw => ?_)
        obtain ⟨rfl, rfl⟩ := hp
        refine lv_astoreN (lv' := [(4, .null), (3, .ref (r_ (17 + j3))), (0, .ref (r_ 0)), (1, .int a_), (2, .int k_)]) hx hb_ dX11_says_49 hl (by decide) rfl (fun ls hl => ?_)
        refine lv_aloadN hx hb_ dX11_says_51 (lv_at hl 0 rfl) ?_
        refine lv_ifnonnullN hx hb_ dX11_says_53 ?_
        refine lv_aload_n hx hb_ dX11_says_56 rfl (lv_at hl 2 rfl) ?_
        refine lv_bipush (v := (-3)) hx hb_ dX11_says_57 (by decide) ?_
        refine z_ki hw hA (va_runV (As := [.int (-3)]) (rest := []) hcf (c_X11_refuse l cD cy _ r_ S_ hSh (-3) (by decide) (by decide)) (cwV 1 hts gX11_says_X11_refuse rfl rfl rfl (by decide +kernel) ⟨Nat.le_of_ble_eq_true rfl, Nat.le_of_ble_eq_true rfl⟩) (z_preV (k := 11) hK_ hE hw (cL hSh 0) (cK hSh 0) (by decide) rfl) rfl rfl hl.1 rfl (lv_room (Nat.le_of_ble_eq_true rfl)) dX11_says_59 ⟨Nat.le_of_ble_eq_true rfl, Nat.le_of_ble_eq_true rfl⟩) (fun v12 S13 H_ locs_ hp hw => ?_)
        obtain ⟨rfl, f14, rfl⟩ := hp
        exact z_iret (ty := .int) (v := (-3)) hcf hr rfl hlk hw (by first | (simp [q_says, ha3, hb3, c_11, c_17]; done) | (simp_all [q_says]; done)) dX11_says_62
      · refine lv_aload_n hx hb_ dX11_says_20 rfl (lv_at hl 1 rfl) ?_
        refine lv_iconst (v := (-1)) hx hb_ dX11_says_21 (by decide) ?_
        refine z_ki hw hA (va_runV (As := [.int (-1)]) (rest := []) hcf (c_X11_refuse l cD cy _ r_ S_ hSh (-1) (by decide) (by decide)) (cwV 1 hts gX11_says_X11_refuse rfl rfl rfl (by decide +kernel) ⟨Nat.le_of_ble_eq_true rfl, Nat.le_of_ble_eq_true rfl⟩) (z_preV (k := 11) hK_ hE hw (cL hSh 0) (cK hSh 0) (by decide) rfl) rfl rfl hl.1 rfl (lv_room (Nat.le_of_ble_eq_true rfl)) dX11_says_22 ⟨Nat.le_of_ble_eq_true rfl, Nat.le_of_ble_eq_true rfl⟩) (fun v15 S16 H_ locs_ hp hw => ?_)
        obtain ⟨rfl, f17, rfl⟩ := hp
        exact z_iret (ty := .int) (v := (-1)) hcf hr rfl hlk hw (by first | (simp [q_says, ha3, hb3, c_11, c_17]; done) | (simp_all [q_says]; done)) dX11_says_25

set_option maxHeartbeats 4000000 in
set_option maxRecDepth 100000 in
/-- strip on an object just made -/
theorem c_X11_strip (l : Launch) (cD : va_G) (cy : Nat → ClassId) (sz_ : Nat) (r_ : Nat → Nat) (S_ : zS) (hSh : ShC S_ r_) (hF : FrC S_ r_) (k_ : Int32) (x_ : Int32) (a_ : Int32) (n_ : Int32) : Met l yX11_strip wsX11_strip ({ frames := 2, cells := 0, slots := 0, locals := 42 } : Room) (va_Pc [.ref (r_ 0), .int k_, .int x_, .int a_, .int n_] (zPre cD cy S_ sz_)) (va_Qi (fun (v_ : Int32) (S1 : zS) => v_ = q_says a_ k_) (zPost cD cy (zAd cy S_ sz_)) (zAd cy S_ sz_)) 0 0 (zAd cy S_ sz_) := by
  refine z_ofW (cc := cX11_strip) (maxL := 10) (ret := (some .int)) (own := RX11) (QQ := fun A_ => va_Qi (fun (v_ : Int32) (S1 : zS) => v_ = q_says a_ k_) (zPost cD cy A_) A_) (by decide) rfl rfl (Nat.le_of_ble_eq_true rfl) ?_
  intro p_ e_ s_ m_ args_ below_ meth_ c_ A_ ls hcf hr hlk hnm hK_ hE hw hA hl
  obtain ⟨hx, hb_, hml, hown, hts⟩ := id hcf
  have hl : lv_has ls 10 [(0, .ref (r_ 0)), (1, .int k_), (2, .int x_), (3, .int a_), (4, .int n_)] := hl
  refine lv_aload_n hx hb_ dX11_strip_0 rfl (lv_at hl 0 rfl) ?_
  refine lv_iload_n hx hb_ dX11_strip_1 rfl (lv_at hl 3 rfl) ?_
  refine z_kq hw hA (va_runV (As := [.int a_]) (rest := []) hcf (c_X11_shelfAt l cD cy _ r_ S_ hSh a_) (cwV 1 hts gX11_strip_X11_shelfAt rfl rfl rfl (by decide +kernel) ⟨Nat.le_of_ble_eq_true rfl, Nat.le_of_ble_eq_true rfl⟩) (z_preV (k := 11) hK_ hE hw (cL hSh 0) (cK hSh 0) (by decide) rfl) rfl rfl hl.1 rfl (lv_room (Nat.le_of_ble_eq_true rfl)) dX11_strip_2 ⟨Nat.le_of_ble_eq_true rfl, Nat.le_of_ble_eq_true rfl⟩) (fun v1 S2 H_ locs_ hp hw => ?_)
  obtain ⟨hp, rfl⟩ := hp
  rcases hp with ⟨hs3, rfl⟩ | ⟨⟨ha3, hb3⟩, j3, hj3, ej3, rfl⟩
  · refine lv_astoreN (lv' := [(5, .null), (0, .ref (r_ 0)), (1, .int k_), (2, .int x_), (3, .int a_), (4, .int n_)]) hx hb_ dX11_strip_5 hl (by decide) rfl (fun ls hl => ?_)
    refine lv_aloadN hx hb_ dX11_strip_7 (lv_at hl 0 rfl) ?_
    refine lv_ifnullN (tgt := 22) hx hb_ dX11_strip_9 (by decide) ?_
    refine lv_aload_n hx hb_ dX11_strip_22 rfl (lv_at hl 1 rfl) ?_
    refine lv_iconst (v := (-1)) hx hb_ dX11_strip_23 (by decide) ?_
    refine z_ki hw hA (va_runV (As := [.int (-1)]) (rest := []) hcf (c_X11_refuse l cD cy _ r_ S_ hSh (-1) (by decide) (by decide)) (cwV 1 hts gX11_strip_X11_refuse rfl rfl rfl (by decide +kernel) ⟨Nat.le_of_ble_eq_true rfl, Nat.le_of_ble_eq_true rfl⟩) (z_preV (k := 11) hK_ hE hw (cL hSh 0) (cK hSh 0) (by decide) rfl) rfl rfl hl.1 rfl (lv_room (Nat.le_of_ble_eq_true rfl)) dX11_strip_24 ⟨Nat.le_of_ble_eq_true rfl, Nat.le_of_ble_eq_true rfl⟩) (fun v4 S5 H_ locs_ hp hw => ?_)
    obtain ⟨rfl, f6, rfl⟩ := hp
    exact z_iret (ty := .int) (v := (-1)) hcf hr rfl hlk hw (by first | (simp [q_says, hs3]; done) | (rcases hs3 with q_ | q_ <;> (simp [q_says, q_]; done)) | (simp_all [q_says]; done)) dX11_strip_27
  · refine lv_astore (lv' := [(5, .ref (r_ (17 + j3))), (0, .ref (r_ 0)), (1, .int k_), (2, .int x_), (3, .int a_), (4, .int n_)]) hx hb_ dX11_strip_5 hl (by decide) rfl (fun ls hl => ?_)
    refine lv_aload hx hb_ dX11_strip_7 (lv_at hl 0 rfl) ?_
    refine lv_ifnull hx hb_ dX11_strip_9 ?_
    refine lv_iload_n hx hb_ dX11_strip_12 rfl (lv_at hl 2 rfl) ?_
    refine lv_if_lt (tgt := 22) hx hb_ dX11_strip_13 (by decide) (fun c_13 => ?_) (fun c_13 => ?_)
    · refine lv_aload_n hx hb_ dX11_strip_22 rfl (lv_at hl 1 rfl) ?_
      refine lv_iconst (v := (-1)) hx hb_ dX11_strip_23 (by decide) ?_
      refine z_ki hw hA (va_runV (As := [.int (-1)]) (rest := []) hcf (c_X11_refuse l cD cy _ r_ S_ hSh (-1) (by decide) (by decide)) (cwV 1 hts gX11_strip_X11_refuse rfl rfl rfl (by decide +kernel) ⟨Nat.le_of_ble_eq_true rfl, Nat.le_of_ble_eq_true rfl⟩) (z_preV (k := 11) hK_ hE hw (cL hSh 0) (cK hSh 0) (by decide) rfl) rfl rfl hl.1 rfl (lv_room (Nat.le_of_ble_eq_true rfl)) dX11_strip_24 ⟨Nat.le_of_ble_eq_true rfl, Nat.le_of_ble_eq_true rfl⟩) (fun v7 S8 H_ locs_ hp hw => ?_)
      obtain ⟨rfl, f9, rfl⟩ := hp
      exact z_iret (ty := .int) (v := (-1)) hcf hr rfl hlk hw (by first | (simp [q_says, ha3, hb3, c_13]; done) | (simp_all [q_says]; done)) dX11_strip_27
    · refine lv_iload_n hx hb_ dX11_strip_16 rfl (lv_at hl 2 rfl) ?_
      refine lv_bipush (v := 6) hx hb_ dX11_strip_17 (by decide) ?_
      refine lv_icmp_le (tgt := 28) hx hb_ dX11_strip_19 (by decide) (fun c_19 => ?_) (fun c_19 => ?_)
      · refine lv_aload hx hb_ dX11_strip_28 (lv_at hl 0 rfl) ?_
        refine lv_iload hx hb_ dX11_strip_30 (lv_at hl 5 rfl) ?_
        refine z_ki hw hA (va_runS (As := [.ref (r_ (17 + j3)), .int n_]) (rest := []) hcf (c_X11_toldTrouble_s l cD cy _ r_ S_ hSh hF j3 hj3 n_) (va_cwS 2 hts gX11_strip_X11_toldTrouble rfl rfl rfl (by decide +kernel) ⟨Nat.le_of_ble_eq_true rfl, Nat.le_of_ble_eq_true rfl⟩) (z_preS hK_ hE hw) rfl rfl hl.1 rfl (lv_room (Nat.le_of_ble_eq_true rfl)) dX11_strip_32 ⟨Nat.le_of_ble_eq_true rfl, Nat.le_of_ble_eq_true rfl⟩) (fun v10 S11 H_ locs_ hp hw => ?_)
        obtain ⟨rfl, rfl⟩ := hp
        refine lv_istore (lv' := [(6, .int (-3)), (5, .ref (r_ (17 + j3))), (0, .ref (r_ 0)), (1, .int k_), (2, .int x_), (3, .int a_), (4, .int n_)]) hx hb_ dX11_strip_35 hl (by decide) rfl (fun ls hl => ?_)
        refine lv_iload hx hb_ dX11_strip_37 (lv_at hl 0 rfl) ?_
        refine lv_if_eq (tgt := 49) hx hb_ dX11_strip_39 (by decide) (fun c_39 => absurd c_39 (by decide)) (fun _ => ?_)
        refine lv_aload_n hx hb_ dX11_strip_42 rfl (lv_at hl 2 rfl) ?_
        refine lv_iload hx hb_ dX11_strip_43 (lv_at hl 0 rfl) ?_
        refine z_ki hw hA (va_runV (As := [.int (-3)]) (rest := []) hcf (c_X11_refuse l cD cy _ r_ S_ hSh (-3) (by decide) (by decide)) (cwV 1 hts gX11_strip_X11_refuse rfl rfl rfl (by decide +kernel) ⟨Nat.le_of_ble_eq_true rfl, Nat.le_of_ble_eq_true rfl⟩) (z_preV (k := 11) hK_ hE hw (cL hSh 0) (cK hSh 0) (by decide) rfl) rfl rfl hl.1 rfl (lv_room (Nat.le_of_ble_eq_true rfl)) dX11_strip_45 ⟨Nat.le_of_ble_eq_true rfl, Nat.le_of_ble_eq_true rfl⟩) (fun v12 S13 H_ locs_ hp hw => ?_)
        obtain ⟨rfl, f14, rfl⟩ := hp
        exact z_iret (ty := .int) (v := (-3)) hcf hr rfl hlk hw (by first | (simp [q_says, ha3, hb3, c_13, c_19]; done) | (simp_all [q_says]; done)) dX11_strip_48
      · refine lv_aload_n hx hb_ dX11_strip_22 rfl (lv_at hl 1 rfl) ?_
        refine lv_iconst (v := (-1)) hx hb_ dX11_strip_23 (by decide) ?_
        refine z_ki hw hA (va_runV (As := [.int (-1)]) (rest := []) hcf (c_X11_refuse l cD cy _ r_ S_ hSh (-1) (by decide) (by decide)) (cwV 1 hts gX11_strip_X11_refuse rfl rfl rfl (by decide +kernel) ⟨Nat.le_of_ble_eq_true rfl, Nat.le_of_ble_eq_true rfl⟩) (z_preV (k := 11) hK_ hE hw (cL hSh 0) (cK hSh 0) (by decide) rfl) rfl rfl hl.1 rfl (lv_room (Nat.le_of_ble_eq_true rfl)) dX11_strip_24 ⟨Nat.le_of_ble_eq_true rfl, Nat.le_of_ble_eq_true rfl⟩) (fun v15 S16 H_ locs_ hp hw => ?_)
        obtain ⟨rfl, f17, rfl⟩ := hp
        exact z_iret (ty := .int) (v := (-1)) hcf hr rfl hlk hw (by first | (simp [q_says, ha3, hb3, c_13, c_19]; done) | (simp_all [q_says]; done)) dX11_strip_27

set_option maxHeartbeats 4000000 in
set_option maxRecDepth 100000 in
/-- stripOf on an object just made -/
theorem c_X11_stripOf (l : Launch) (cD : va_G) (cy : Nat → ClassId) (sz_ : Nat) (r_ : Nat → Nat) (S_ : zS) (hSh : ShC S_ r_) (hF : FrC S_ r_) (t_ : Int32) (x_ : Int32) : Met l yX11_stripOf wsX11_stripOf ({ frames := 1, cells := 0, slots := 0, locals := 22 } : Room) (va_Pc [.ref (r_ 0), .int t_, .int x_] (zPre cD cy S_ sz_)) (va_Qi (fun (v_ : Int32) (S1 : zS) => v_ = -5) (zPost cD cy (zAd cy S_ sz_)) (zAd cy S_ sz_)) 0 0 (zAd cy S_ sz_) := by
  refine z_ofW (cc := cX11_stripOf) (maxL := 5) (ret := (some .int)) (own := RX11) (QQ := fun A_ => va_Qi (fun (v_ : Int32) (S1 : zS) => v_ = -5) (zPost cD cy A_) A_) (by decide) rfl rfl (Nat.le_of_ble_eq_true rfl) ?_
  intro p_ e_ s_ m_ args_ below_ meth_ c_ A_ ls hcf hr hlk hnm hK_ hE hw hA hl
  obtain ⟨hx, hb_, hml, hown, hts⟩ := id hcf
  have hl : lv_has ls 5 [(0, .ref (r_ 0)), (1, .int t_), (2, .int x_)] := hl
  refine lv_aload_n hx hb_ dX11_stripOf_0 rfl (lv_at hl 0 rfl) ?_
  refine lv_iload_n hx hb_ dX11_stripOf_1 rfl (lv_at hl 1 rfl) ?_
  refine z_kq hw hA (va_runV (As := [.int t_]) (rest := []) hcf (c_X11_stripAt l cD cy _ r_ S_ hSh hF.1 t_) (cwV 1 hts gX11_stripOf_X11_stripAt rfl rfl rfl (by decide +kernel) ⟨Nat.le_of_ble_eq_true rfl, Nat.le_of_ble_eq_true rfl⟩) (z_preV (k := 11) hK_ hE hw (cL hSh 0) (cK hSh 0) (by decide) rfl) rfl rfl hl.1 rfl (lv_room (Nat.le_of_ble_eq_true rfl)) dX11_stripOf_2 ⟨Nat.le_of_ble_eq_true rfl, Nat.le_of_ble_eq_true rfl⟩) (fun v1 S2 H_ locs_ hp hw => ?_)
  obtain ⟨rfl, rfl⟩ := hp
  refine lv_astore_nN (lv' := [(3, .null), (0, .ref (r_ 0)), (1, .int t_), (2, .int x_)]) hx hb_ dX11_stripOf_5 rfl hl (by decide) rfl (fun ls hl => ?_)
  refine lv_aload_nN hx hb_ dX11_stripOf_6 rfl (lv_at hl 0 rfl) ?_
  refine lv_ifnonnullN hx hb_ dX11_stripOf_7 ?_
  refine lv_aload_n hx hb_ dX11_stripOf_10 rfl (lv_at hl 1 rfl) ?_
  refine lv_bipush (v := (-5)) hx hb_ dX11_stripOf_11 (by decide) ?_
  refine z_ki hw hA (va_runV (As := [.int (-5)]) (rest := []) hcf (c_X11_refuse l cD cy _ r_ S_ hSh (-5) (by decide) (by decide)) (cwV 1 hts gX11_stripOf_X11_refuse rfl rfl rfl (by decide +kernel) ⟨Nat.le_of_ble_eq_true rfl, Nat.le_of_ble_eq_true rfl⟩) (z_preV (k := 11) hK_ hE hw (cL hSh 0) (cK hSh 0) (by decide) rfl) rfl rfl hl.1 rfl (lv_room (Nat.le_of_ble_eq_true rfl)) dX11_stripOf_13 ⟨Nat.le_of_ble_eq_true rfl, Nat.le_of_ble_eq_true rfl⟩) (fun v3 S4 H_ locs_ hp hw => ?_)
  obtain ⟨rfl, f5, rfl⟩ := hp
  exact z_iret (ty := .int) (v := (-5)) hcf hr rfl hlk hw (rfl) dX11_stripOf_16

set_option maxHeartbeats 4000000 in
set_option maxRecDepth 100000 in
/-- turn on an object just made -/
theorem c_X11_turn (l : Launch) (cD : va_G) (cy : Nat → ClassId) (sz_ : Nat) (r_ : Nat → Nat) (S_ : zS) (hSh : ShC S_ r_) (hF : FrC S_ r_) (t_ : Int32) (x_ : Int32) : Met l yX11_turn wsX11_turn ({ frames := 1, cells := 0, slots := 0, locals := 22 } : Room) (va_Pc [.ref (r_ 0), .int t_, .int x_] (zPre cD cy S_ sz_)) (va_Qi (fun (v_ : Int32) (S1 : zS) => v_ = -1) (zPost cD cy (zAd cy S_ sz_)) (zAd cy S_ sz_)) 0 0 (zAd cy S_ sz_) := by
  refine z_ofW (cc := cX11_turn) (maxL := 4) (ret := (some .int)) (own := RX11) (QQ := fun A_ => va_Qi (fun (v_ : Int32) (S1 : zS) => v_ = -1) (zPost cD cy A_) A_) (by decide) rfl rfl (Nat.le_of_ble_eq_true rfl) ?_
  intro p_ e_ s_ m_ args_ below_ meth_ c_ A_ ls hcf hr hlk hnm hK_ hE hw hA hl
  obtain ⟨hx, hb_, hml, hown, hts⟩ := id hcf
  have hl : lv_has ls 4 [(0, .ref (r_ 0)), (1, .int t_), (2, .int x_)] := hl
  refine lv_aload_n hx hb_ dX11_turn_0 rfl (lv_at hl 0 rfl) ?_
  refine lv_iload_n hx hb_ dX11_turn_1 rfl (lv_at hl 1 rfl) ?_
  refine z_kq hw hA (va_runV (As := [.int t_]) (rest := []) hcf (c_X11_stripAt l cD cy _ r_ S_ hSh hF.1 t_) (cwV 1 hts gX11_turn_X11_stripAt rfl rfl rfl (by decide +kernel) ⟨Nat.le_of_ble_eq_true rfl, Nat.le_of_ble_eq_true rfl⟩) (z_preV (k := 11) hK_ hE hw (cL hSh 0) (cK hSh 0) (by decide) rfl) rfl rfl hl.1 rfl (lv_room (Nat.le_of_ble_eq_true rfl)) dX11_turn_2 ⟨Nat.le_of_ble_eq_true rfl, Nat.le_of_ble_eq_true rfl⟩) (fun v1 S2 H_ locs_ hp hw => ?_)
  obtain ⟨rfl, rfl⟩ := hp
  refine lv_astore_nN (lv' := [(3, .null), (0, .ref (r_ 0)), (1, .int t_), (2, .int x_)]) hx hb_ dX11_turn_5 rfl hl (by decide) rfl (fun ls hl => ?_)
  refine lv_aload_nN hx hb_ dX11_turn_6 rfl (lv_at hl 0 rfl) ?_
  refine lv_ifnonnullN hx hb_ dX11_turn_7 ?_
  refine lv_aload_n hx hb_ dX11_turn_10 rfl (lv_at hl 1 rfl) ?_
  refine lv_iconst (v := (-1)) hx hb_ dX11_turn_11 (by decide) ?_
  refine z_ki hw hA (va_runV (As := [.int (-1)]) (rest := []) hcf (c_X11_refuse l cD cy _ r_ S_ hSh (-1) (by decide) (by decide)) (cwV 1 hts gX11_turn_X11_refuse rfl rfl rfl (by decide +kernel) ⟨Nat.le_of_ble_eq_true rfl, Nat.le_of_ble_eq_true rfl⟩) (z_preV (k := 11) hK_ hE hw (cL hSh 0) (cK hSh 0) (by decide) rfl) rfl rfl hl.1 rfl (lv_room (Nat.le_of_ble_eq_true rfl)) dX11_turn_12 ⟨Nat.le_of_ble_eq_true rfl, Nat.le_of_ble_eq_true rfl⟩) (fun v3 S4 H_ locs_ hp hw => ?_)
  obtain ⟨rfl, f5, rfl⟩ := hp
  exact z_iret (ty := .int) (v := (-1)) hcf hr rfl hlk hw (rfl) dX11_turn_15

set_option maxHeartbeats 4000000 in
set_option maxRecDepth 100000 in
/-- read on an object just made -/
theorem c_X11_read (l : Launch) (cD : va_G) (cy : Nat → ClassId) (sz_ : Nat) (r_ : Nat → Nat) (S_ : zS) (hSh : ShC S_ r_) (hF : FrC S_ r_) (a_ : Int32) : Met l yX11_read wsX11_read ({ frames := 1, cells := 0, slots := 0, locals := 22 } : Room) (va_Pc [.ref (r_ 0), .int a_] (zPre cD cy S_ sz_)) (va_Qi (fun (v_ : Int32) (S1 : zS) => v_ = q_bad a_ (-1) (-3)) (zPost cD cy (zAd cy S_ sz_)) (zAd cy S_ sz_)) 0 0 (zAd cy S_ sz_) := by
  refine z_ofW (cc := cX11_read) (maxL := 4) (ret := (some .int)) (own := RX11) (QQ := fun A_ => va_Qi (fun (v_ : Int32) (S1 : zS) => v_ = q_bad a_ (-1) (-3)) (zPost cD cy A_) A_) (by decide) rfl rfl (Nat.le_of_ble_eq_true rfl) ?_
  intro p_ e_ s_ m_ args_ below_ meth_ c_ A_ ls hcf hr hlk hnm hK_ hE hw hA hl
  obtain ⟨hx, hb_, hml, hown, hts⟩ := id hcf
  have hl : lv_has ls 4 [(0, .ref (r_ 0)), (1, .int a_)] := hl
  refine lv_aload_n hx hb_ dX11_read_0 rfl (lv_at hl 0 rfl) ?_
  refine lv_iload_n hx hb_ dX11_read_1 rfl (lv_at hl 1 rfl) ?_
  refine z_kq hw hA (va_runV (As := [.int a_]) (rest := []) hcf (c_X11_shelfAt l cD cy _ r_ S_ hSh a_) (cwV 1 hts gX11_read_X11_shelfAt rfl rfl rfl (by decide +kernel) ⟨Nat.le_of_ble_eq_true rfl, Nat.le_of_ble_eq_true rfl⟩) (z_preV (k := 11) hK_ hE hw (cL hSh 0) (cK hSh 0) (by decide) rfl) rfl rfl hl.1 rfl (lv_room (Nat.le_of_ble_eq_true rfl)) dX11_read_2 ⟨Nat.le_of_ble_eq_true rfl, Nat.le_of_ble_eq_true rfl⟩) (fun v1 S2 H_ locs_ hp hw => ?_)
  obtain ⟨hp, rfl⟩ := hp
  rcases hp with ⟨hs3, rfl⟩ | ⟨⟨ha3, hb3⟩, j3, hj3, ej3, rfl⟩
  · refine lv_astore_nN (lv' := [(2, .null), (0, .ref (r_ 0)), (1, .int a_)]) hx hb_ dX11_read_5 rfl hl (by decide) rfl (fun ls hl => ?_)
    refine lv_aload_nN hx hb_ dX11_read_6 rfl (lv_at hl 0 rfl) ?_
    refine z_ki hw hA (va_runS (As := [.null]) (rest := []) hcf (c_X11_rowTrouble_n l cD cy _ S_) (va_cwS 1 hts gX11_read_X11_rowTrouble rfl rfl rfl (by decide +kernel) ⟨Nat.le_of_ble_eq_true rfl, Nat.le_of_ble_eq_true rfl⟩) (z_preS hK_ hE hw) rfl rfl hl.1 rfl (lv_room (Nat.le_of_ble_eq_true rfl)) dX11_read_7 ⟨Nat.le_of_ble_eq_true rfl, Nat.le_of_ble_eq_true rfl⟩) (fun v4 S5 H_ locs_ hp hw => ?_)
    obtain ⟨rfl, rfl⟩ := hp
    refine lv_istore_n (lv' := [(3, .int (-1)), (2, .null), (0, .ref (r_ 0)), (1, .int a_)]) hx hb_ dX11_read_10 rfl hl (by decide) rfl (fun ls hl => ?_)
    refine lv_iload_n hx hb_ dX11_read_11 rfl (lv_at hl 0 rfl) ?_
    refine lv_if_ne (tgt := 19) hx hb_ dX11_read_12 (by decide) (fun _ => ?_) (fun c_12 => absurd c_12 (by decide))
    refine lv_aload_n hx hb_ dX11_read_19 rfl (lv_at hl 2 rfl) ?_
    refine lv_iload_n hx hb_ dX11_read_20 rfl (lv_at hl 0 rfl) ?_
    refine z_ki hw hA (va_runV (As := [.int (-1)]) (rest := []) hcf (c_X11_refuse l cD cy _ r_ S_ hSh (-1) (by decide) (by decide)) (cwV 1 hts gX11_read_X11_refuse rfl rfl rfl (by decide +kernel) ⟨Nat.le_of_ble_eq_true rfl, Nat.le_of_ble_eq_true rfl⟩) (z_preV (k := 11) hK_ hE hw (cL hSh 0) (cK hSh 0) (by decide) rfl) rfl rfl hl.1 rfl (lv_room (Nat.le_of_ble_eq_true rfl)) dX11_read_21 ⟨Nat.le_of_ble_eq_true rfl, Nat.le_of_ble_eq_true rfl⟩) (fun v6 S7 H_ locs_ hp hw => ?_)
    obtain ⟨rfl, f8, rfl⟩ := hp
    exact z_iret (ty := .int) (v := (-1)) hcf hr rfl hlk hw (by first | (simp [q_bad, hs3]; done) | (rcases hs3 with q_ | q_ <;> (simp [q_bad, q_]; done)) | (simp_all [q_bad]; done)) dX11_read_24
  · refine lv_astore_n (lv' := [(2, .ref (r_ (17 + j3))), (0, .ref (r_ 0)), (1, .int a_)]) hx hb_ dX11_read_5 rfl hl (by decide) rfl (fun ls hl => ?_)
    refine lv_aload_n hx hb_ dX11_read_6 rfl (lv_at hl 0 rfl) ?_
    refine z_ki hw hA (va_runS (As := [.ref (r_ (17 + j3))]) (rest := []) hcf (c_X11_rowTrouble_s l cD cy _ r_ S_ hSh hF j3 hj3 ) (va_cwS 1 hts gX11_read_X11_rowTrouble rfl rfl rfl (by decide +kernel) ⟨Nat.le_of_ble_eq_true rfl, Nat.le_of_ble_eq_true rfl⟩) (z_preS hK_ hE hw) rfl rfl hl.1 rfl (lv_room (Nat.le_of_ble_eq_true rfl)) dX11_read_7 ⟨Nat.le_of_ble_eq_true rfl, Nat.le_of_ble_eq_true rfl⟩) (fun v9 S10 H_ locs_ hp hw => ?_)
    obtain ⟨rfl, rfl⟩ := hp
    refine lv_istore_n (lv' := [(3, .int (-3)), (2, .ref (r_ (17 + j3))), (0, .ref (r_ 0)), (1, .int a_)]) hx hb_ dX11_read_10 rfl hl (by decide) rfl (fun ls hl => ?_)
    refine lv_iload_n hx hb_ dX11_read_11 rfl (lv_at hl 0 rfl) ?_
    refine lv_if_ne (tgt := 19) hx hb_ dX11_read_12 (by decide) (fun _ => ?_) (fun c_12 => absurd c_12 (by decide))
    refine lv_aload_n hx hb_ dX11_read_19 rfl (lv_at hl 2 rfl) ?_
    refine lv_iload_n hx hb_ dX11_read_20 rfl (lv_at hl 0 rfl) ?_
    refine z_ki hw hA (va_runV (As := [.int (-3)]) (rest := []) hcf (c_X11_refuse l cD cy _ r_ S_ hSh (-3) (by decide) (by decide)) (cwV 1 hts gX11_read_X11_refuse rfl rfl rfl (by decide +kernel) ⟨Nat.le_of_ble_eq_true rfl, Nat.le_of_ble_eq_true rfl⟩) (z_preV (k := 11) hK_ hE hw (cL hSh 0) (cK hSh 0) (by decide) rfl) rfl rfl hl.1 rfl (lv_room (Nat.le_of_ble_eq_true rfl)) dX11_read_21 ⟨Nat.le_of_ble_eq_true rfl, Nat.le_of_ble_eq_true rfl⟩) (fun v11 S12 H_ locs_ hp hw => ?_)
    obtain ⟨rfl, f13, rfl⟩ := hp
    exact z_iret (ty := .int) (v := (-3)) hcf hr rfl hlk hw (by first | (simp [q_bad, ha3, hb3]; done) | (simp_all [q_bad]; done)) dX11_read_24

set_option maxHeartbeats 4000000 in
set_option maxRecDepth 100000 in
/-- fault on an object just made -/
theorem c_X11_fault (l : Launch) (cD : va_G) (cy : Nat → ClassId) (sz_ : Nat) (r_ : Nat → Nat) (S_ : zS) (hSh : ShC S_ r_) (hF : FrC S_ r_) : Met l yX11_fault wsX11_fault ({ frames := 0, cells := 0, slots := 0, locals := 0 } : Room) (va_Pc [.ref (r_ 0)] (zPre cD cy S_ sz_)) (va_Qi (fun (v_ : Int32) (S1 : zS) => v_ = -1) (zPost cD cy (zAd cy S_ sz_)) (zAd cy S_ sz_)) 0 0 (zAd cy S_ sz_) := by
  refine z_ofW (cc := cX11_fault) (maxL := 1) (ret := (some .int)) (own := RX11) (QQ := fun A_ => va_Qi (fun (v_ : Int32) (S1 : zS) => v_ = -1) (zPost cD cy A_) A_) (by decide) rfl rfl (Nat.le_of_ble_eq_true rfl) ?_
  intro p_ e_ s_ m_ args_ below_ meth_ c_ A_ ls hcf hr hlk hnm hK_ hE hw hA hl
  obtain ⟨hx, hb_, hml, hown, hts⟩ := id hcf
  have hin5 : ∀ w_ ∈ wsX50, w_ ∈ wsX11_fault := fun w_ h_ => (List.mem_cons_of_mem _ (List.mem_append_right _ h_))
  have hin11 : ∀ w_ ∈ wsX110, w_ ∈ wsX11_fault := fun w_ h_ => (List.mem_cons_of_mem _ (List.mem_append_left _ (List.mem_append_right _ h_)))
  have hl : lv_has ls 1 [(0, .ref (r_ 0))] := hl
  refine lv_aload_n hx hb_ dX11_fault_0 rfl (lv_at hl 0 rfl) ?_
  refine z_get (k := 11) (i := 8) (j := 1108) (v := .ref (r_ 9)) (ref := "FoldedInHalf") (C := RX11) (T := TX11) (N := 13) hcf hK_ hw hin11 (cL hSh 0) (cK hSh 0) rfl (by decide) (by decide) rfl rfl (congrArg va_rf (cP hSh 8)) (List.mem_of_getElem? (i := 1) rfl) (fun _ h_ => h_) dX11_fault_1 ?_
  refine z_getN (k := 5) (i := 3) (j := 503) (v := .int (-1)) (ref := "FoldedInHalf$Reader") (C := RX5) (T := TX5) (N := 7) hcf hK_ hw hin5 (cL hSh 9) (cK hSh 9) rfl (by decide) (by decide) rfl rfl (congrArg Value.int hF.2.2.2.2.1) (nw_F_FoldedInHalf_216 hE) (fun _ h_ => h_) dX11_fault_4 ?_
  exact z_iret (ty := .int) (v := (-1)) hcf hr rfl hlk hw (rfl) dX11_fault_7

set_option maxHeartbeats 4000000 in
set_option maxRecDepth 100000 in
/-- creases on an object just made -/
theorem c_X11_creases (l : Launch) (cD : va_G) (cy : Nat → ClassId) (sz_ : Nat) (r_ : Nat → Nat) (S_ : zS) (hSh : ShC S_ r_) (hF : FrC S_ r_) (t_ : Int32) : Met l yX11_creases wsX11_creases ({ frames := 1, cells := 0, slots := 0, locals := 22 } : Room) (va_Pc [.ref (r_ 0), .int t_] (zPre cD cy S_ sz_)) (va_Ql (fun (v_ : Int64) (S1 : zS) => v_ = -1) (zPost cD cy (zAd cy S_ sz_)) (zAd cy S_ sz_)) 0 0 (zAd cy S_ sz_) := by
  refine z_ofW (cc := cX11_creases) (maxL := 3) (ret := (some .long)) (own := RX11) (QQ := fun A_ => va_Ql (fun (v_ : Int64) (S1 : zS) => v_ = -1) (zPost cD cy A_) A_) (by decide) rfl rfl (Nat.le_of_ble_eq_true rfl) ?_
  intro p_ e_ s_ m_ args_ below_ meth_ c_ A_ ls hcf hr hlk hnm hK_ hE hw hA hl
  obtain ⟨hx, hb_, hml, hown, hts⟩ := id hcf
  have hl : lv_has ls 3 [(0, .ref (r_ 0)), (1, .int t_)] := hl
  refine lv_aload_n hx hb_ dX11_creases_0 rfl (lv_at hl 0 rfl) ?_
  refine lv_iload_n hx hb_ dX11_creases_1 rfl (lv_at hl 1 rfl) ?_
  refine z_kq hw hA (va_runV (As := [.int t_]) (rest := []) hcf (c_X11_stripAt l cD cy _ r_ S_ hSh hF.1 t_) (cwV 1 hts gX11_creases_X11_stripAt rfl rfl rfl (by decide +kernel) ⟨Nat.le_of_ble_eq_true rfl, Nat.le_of_ble_eq_true rfl⟩) (z_preV (k := 11) hK_ hE hw (cL hSh 0) (cK hSh 0) (by decide) rfl) rfl rfl hl.1 rfl (lv_room (Nat.le_of_ble_eq_true rfl)) dX11_creases_2 ⟨Nat.le_of_ble_eq_true rfl, Nat.le_of_ble_eq_true rfl⟩) (fun v1 S2 H_ locs_ hp hw => ?_)
  obtain ⟨rfl, rfl⟩ := hp
  refine lv_astore_nN (lv' := [(2, .null), (0, .ref (r_ 0)), (1, .int t_)]) hx hb_ dX11_creases_5 rfl hl (by decide) rfl (fun ls hl => ?_)
  refine lv_aload_nN hx hb_ dX11_creases_6 rfl (lv_at hl 0 rfl) ?_
  refine lv_ifnonnullN hx hb_ dX11_creases_7 ?_
  refine lv_aload_n hx hb_ dX11_creases_10 rfl (lv_at hl 1 rfl) ?_
  refine lv_iconst (v := (-1)) hx hb_ dX11_creases_11 (by decide) ?_
  refine z_ki hw hA (va_runV (As := [.int (-1)]) (rest := []) hcf (c_X11_refuse l cD cy _ r_ S_ hSh (-1) (by decide) (by decide)) (cwV 1 hts gX11_creases_X11_refuse rfl rfl rfl (by decide +kernel) ⟨Nat.le_of_ble_eq_true rfl, Nat.le_of_ble_eq_true rfl⟩) (z_preV (k := 11) hK_ hE hw (cL hSh 0) (cK hSh 0) (by decide) rfl) rfl rfl hl.1 rfl (lv_room (Nat.le_of_ble_eq_true rfl)) dX11_creases_12 ⟨Nat.le_of_ble_eq_true rfl, Nat.le_of_ble_eq_true rfl⟩) (fun v3 S4 H_ locs_ hp hw => ?_)
  obtain ⟨rfl, f5, rfl⟩ := hp
  refine lv_i2l (v := (-1)) hx hb_ dX11_creases_15 (by decide) ?_
  refine lv_goto (tgt := 23) hx hb_ dX11_creases_16 (by decide) ?_
  exact z_lret (v := (-1)) hcf hr hlk hw (rfl) dX11_creases_23

set_option maxHeartbeats 4000000 in
set_option maxRecDepth 100000 in
/-- crease on an object just made -/
theorem c_X11_crease (l : Launch) (cD : va_G) (cy : Nat → ClassId) (sz_ : Nat) (r_ : Nat → Nat) (S_ : zS) (hSh : ShC S_ r_) (hF : FrC S_ r_) (t_ : Int32) (x_ : Int64) : Met l yX11_crease wsX11_crease ({ frames := 1, cells := 0, slots := 0, locals := 22 } : Room) (va_Pc [.ref (r_ 0), .int t_, .long x_] (zPre cD cy S_ sz_)) (va_Qi (fun (v_ : Int32) (S1 : zS) => v_ = -1) (zPost cD cy (zAd cy S_ sz_)) (zAd cy S_ sz_)) 0 0 (zAd cy S_ sz_) := by
  refine z_ofW (cc := cX11_crease) (maxL := 5) (ret := (some .int)) (own := RX11) (QQ := fun A_ => va_Qi (fun (v_ : Int32) (S1 : zS) => v_ = -1) (zPost cD cy A_) A_) (by decide) rfl rfl (Nat.le_of_ble_eq_true rfl) ?_
  intro p_ e_ s_ m_ args_ below_ meth_ c_ A_ ls hcf hr hlk hnm hK_ hE hw hA hl
  obtain ⟨hx, hb_, hml, hown, hts⟩ := id hcf
  have hl : lv_has ls 5 [(0, .ref (r_ 0)), (1, .int t_), (2, .long x_)] := hl
  refine lv_aload_n hx hb_ dX11_crease_0 rfl (lv_at hl 0 rfl) ?_
  refine lv_iload_n hx hb_ dX11_crease_1 rfl (lv_at hl 1 rfl) ?_
  refine z_kq hw hA (va_runV (As := [.int t_]) (rest := []) hcf (c_X11_stripAt l cD cy _ r_ S_ hSh hF.1 t_) (cwV 1 hts gX11_crease_X11_stripAt rfl rfl rfl (by decide +kernel) ⟨Nat.le_of_ble_eq_true rfl, Nat.le_of_ble_eq_true rfl⟩) (z_preV (k := 11) hK_ hE hw (cL hSh 0) (cK hSh 0) (by decide) rfl) rfl rfl hl.1 rfl (lv_room (Nat.le_of_ble_eq_true rfl)) dX11_crease_2 ⟨Nat.le_of_ble_eq_true rfl, Nat.le_of_ble_eq_true rfl⟩) (fun v1 S2 H_ locs_ hp hw => ?_)
  obtain ⟨rfl, rfl⟩ := hp
  refine lv_astoreN (lv' := [(4, .null), (0, .ref (r_ 0)), (1, .int t_), (2, .long x_)]) hx hb_ dX11_crease_5 hl (by decide) rfl (fun ls hl => ?_)
  refine lv_aloadN hx hb_ dX11_crease_7 (lv_at hl 0 rfl) ?_
  refine lv_ifnonnullN hx hb_ dX11_crease_9 ?_
  refine lv_aload_n hx hb_ dX11_crease_12 rfl (lv_at hl 1 rfl) ?_
  refine lv_iconst (v := (-1)) hx hb_ dX11_crease_13 (by decide) ?_
  refine z_ki hw hA (va_runV (As := [.int (-1)]) (rest := []) hcf (c_X11_refuse l cD cy _ r_ S_ hSh (-1) (by decide) (by decide)) (cwV 1 hts gX11_crease_X11_refuse rfl rfl rfl (by decide +kernel) ⟨Nat.le_of_ble_eq_true rfl, Nat.le_of_ble_eq_true rfl⟩) (z_preV (k := 11) hK_ hE hw (cL hSh 0) (cK hSh 0) (by decide) rfl) rfl rfl hl.1 rfl (lv_room (Nat.le_of_ble_eq_true rfl)) dX11_crease_14 ⟨Nat.le_of_ble_eq_true rfl, Nat.le_of_ble_eq_true rfl⟩) (fun v3 S4 H_ locs_ hp hw => ?_)
  obtain ⟨rfl, f5, rfl⟩ := hp
  exact z_iret (ty := .int) (v := (-1)) hcf hr rfl hlk hw (rfl) dX11_crease_17

set_option maxHeartbeats 4000000 in
set_option maxRecDepth 100000 in
/-- way on an object just made -/
theorem c_X11_way (l : Launch) (cD : va_G) (cy : Nat → ClassId) (sz_ : Nat) (r_ : Nat → Nat) (S_ : zS) (hSh : ShC S_ r_) (hF : FrC S_ r_) (t_ : Int32) (x_ : Int64) : Met l yX11_way wsX11_way ({ frames := 1, cells := 0, slots := 0, locals := 22 } : Room) (va_Pc [.ref (r_ 0), .int t_, .long x_] (zPre cD cy S_ sz_)) (va_Qi (fun (v_ : Int32) (S1 : zS) => v_ = -1) (zPost cD cy (zAd cy S_ sz_)) (zAd cy S_ sz_)) 0 0 (zAd cy S_ sz_) := by
  refine z_ofW (cc := cX11_way) (maxL := 5) (ret := (some .int)) (own := RX11) (QQ := fun A_ => va_Qi (fun (v_ : Int32) (S1 : zS) => v_ = -1) (zPost cD cy A_) A_) (by decide) rfl rfl (Nat.le_of_ble_eq_true rfl) ?_
  intro p_ e_ s_ m_ args_ below_ meth_ c_ A_ ls hcf hr hlk hnm hK_ hE hw hA hl
  obtain ⟨hx, hb_, hml, hown, hts⟩ := id hcf
  have hl : lv_has ls 5 [(0, .ref (r_ 0)), (1, .int t_), (2, .long x_)] := hl
  refine lv_aload_n hx hb_ dX11_way_0 rfl (lv_at hl 0 rfl) ?_
  refine lv_iload_n hx hb_ dX11_way_1 rfl (lv_at hl 1 rfl) ?_
  refine z_kq hw hA (va_runV (As := [.int t_]) (rest := []) hcf (c_X11_stripAt l cD cy _ r_ S_ hSh hF.1 t_) (cwV 1 hts gX11_way_X11_stripAt rfl rfl rfl (by decide +kernel) ⟨Nat.le_of_ble_eq_true rfl, Nat.le_of_ble_eq_true rfl⟩) (z_preV (k := 11) hK_ hE hw (cL hSh 0) (cK hSh 0) (by decide) rfl) rfl rfl hl.1 rfl (lv_room (Nat.le_of_ble_eq_true rfl)) dX11_way_2 ⟨Nat.le_of_ble_eq_true rfl, Nat.le_of_ble_eq_true rfl⟩) (fun v1 S2 H_ locs_ hp hw => ?_)
  obtain ⟨rfl, rfl⟩ := hp
  refine lv_astoreN (lv' := [(4, .null), (0, .ref (r_ 0)), (1, .int t_), (2, .long x_)]) hx hb_ dX11_way_5 hl (by decide) rfl (fun ls hl => ?_)
  refine lv_aloadN hx hb_ dX11_way_7 (lv_at hl 0 rfl) ?_
  refine lv_ifnonnullN hx hb_ dX11_way_9 ?_
  refine lv_aload_n hx hb_ dX11_way_12 rfl (lv_at hl 1 rfl) ?_
  refine lv_iconst (v := (-1)) hx hb_ dX11_way_13 (by decide) ?_
  refine z_ki hw hA (va_runV (As := [.int (-1)]) (rest := []) hcf (c_X11_refuse l cD cy _ r_ S_ hSh (-1) (by decide) (by decide)) (cwV 1 hts gX11_way_X11_refuse rfl rfl rfl (by decide +kernel) ⟨Nat.le_of_ble_eq_true rfl, Nat.le_of_ble_eq_true rfl⟩) (z_preV (k := 11) hK_ hE hw (cL hSh 0) (cK hSh 0) (by decide) rfl) rfl rfl hl.1 rfl (lv_room (Nat.le_of_ble_eq_true rfl)) dX11_way_14 ⟨Nat.le_of_ble_eq_true rfl, Nat.le_of_ble_eq_true rfl⟩) (fun v3 S4 H_ locs_ hp hw => ?_)
  obtain ⟨rfl, f5, rfl⟩ := hp
  exact z_iret (ty := .int) (v := (-1)) hcf hr rfl hlk hw (rfl) dX11_way_17

set_option maxHeartbeats 4000000 in
set_option maxRecDepth 100000 in
/-- place on an object just made -/
theorem c_X11_place (l : Launch) (cD : va_G) (cy : Nat → ClassId) (sz_ : Nat) (r_ : Nat → Nat) (S_ : zS) (hSh : ShC S_ r_) (hF : FrC S_ r_) (t_ : Int32) (x_ : Int64) (u_ : Int32) : Met l yX11_place wsX11_place ({ frames := 1, cells := 0, slots := 0, locals := 22 } : Room) (va_Pc [.ref (r_ 0), .int t_, .long x_, .int u_] (zPre cD cy S_ sz_)) (va_Ql (fun (v_ : Int64) (S1 : zS) => v_ = -2000000000000001) (zPost cD cy (zAd cy S_ sz_)) (zAd cy S_ sz_)) 0 0 (zAd cy S_ sz_) := by
  refine z_ofW (cc := cX11_place) (maxL := 7) (ret := (some .long)) (own := RX11) (QQ := fun A_ => va_Ql (fun (v_ : Int64) (S1 : zS) => v_ = -2000000000000001) (zPost cD cy A_) A_) (by decide) rfl rfl (Nat.le_of_ble_eq_true rfl) ?_
  intro p_ e_ s_ m_ args_ below_ meth_ c_ A_ ls hcf hr hlk hnm hK_ hE hw hA hl
  obtain ⟨hx, hb_, hml, hown, hts⟩ := id hcf
  have hl : lv_has ls 7 [(0, .ref (r_ 0)), (1, .int t_), (2, .long x_), (4, .int u_)] := hl
  refine lv_aload_n hx hb_ dX11_place_0 rfl (lv_at hl 0 rfl) ?_
  refine lv_iload_n hx hb_ dX11_place_1 rfl (lv_at hl 1 rfl) ?_
  refine z_kq hw hA (va_runV (As := [.int t_]) (rest := []) hcf (c_X11_stripAt l cD cy _ r_ S_ hSh hF.1 t_) (cwV 1 hts gX11_place_X11_stripAt rfl rfl rfl (by decide +kernel) ⟨Nat.le_of_ble_eq_true rfl, Nat.le_of_ble_eq_true rfl⟩) (z_preV (k := 11) hK_ hE hw (cL hSh 0) (cK hSh 0) (by decide) rfl) rfl rfl hl.1 rfl (lv_room (Nat.le_of_ble_eq_true rfl)) dX11_place_2 ⟨Nat.le_of_ble_eq_true rfl, Nat.le_of_ble_eq_true rfl⟩) (fun v1 S2 H_ locs_ hp hw => ?_)
  obtain ⟨rfl, rfl⟩ := hp
  refine lv_astoreN (lv' := [(5, .null), (0, .ref (r_ 0)), (1, .int t_), (2, .long x_), (4, .int u_)]) hx hb_ dX11_place_5 hl (by decide) rfl (fun ls hl => ?_)
  refine lv_aloadN hx hb_ dX11_place_7 (lv_at hl 0 rfl) ?_
  refine lv_ifnonnullN hx hb_ dX11_place_9 ?_
  refine lv_ldc2 (v := (-2000000000000000)) hx hb_ hown (hts (.constantLong RX11 234 (-2000000000000000)) (by decide +kernel)) dX11_place_12 ?_
  refine lv_aload_n hx hb_ dX11_place_15 rfl (lv_at hl 1 rfl) ?_
  refine lv_iconst (v := (-1)) hx hb_ dX11_place_16 (by decide) ?_
  refine z_ki hw hA (va_runV (As := [.int (-1)]) (rest := [.long (-2000000000000000)]) hcf (c_X11_refuse l cD cy _ r_ S_ hSh (-1) (by decide) (by decide)) (cwV 1 hts gX11_place_X11_refuse rfl rfl rfl (by decide +kernel) ⟨Nat.le_of_ble_eq_true rfl, Nat.le_of_ble_eq_true rfl⟩) (z_preV (k := 11) hK_ hE hw (cL hSh 0) (cK hSh 0) (by decide) rfl) rfl rfl hl.1 rfl (lv_room (Nat.le_of_ble_eq_true rfl)) dX11_place_17 ⟨Nat.le_of_ble_eq_true rfl, Nat.le_of_ble_eq_true rfl⟩) (fun v3 S4 H_ locs_ hp hw => ?_)
  obtain ⟨rfl, f5, rfl⟩ := hp
  refine lv_i2l (v := (-1)) hx hb_ dX11_place_20 (by decide) ?_
  refine lv_ladd hx hb_ dX11_place_21 ?_
  exact z_lret (v := ((-2000000000000000) + (-1))) hcf hr hlk hw (rfl) dX11_place_22

set_option maxHeartbeats 4000000 in
set_option maxRecDepth 100000 in
/-- passed on an object just made -/
theorem c_X11_passed (l : Launch) (cD : va_G) (cy : Nat → ClassId) (sz_ : Nat) (r_ : Nat → Nat) (S_ : zS) (hSh : ShC S_ r_) (hF : FrC S_ r_) (t_ : Int32) (n_ : Int32) (x_ : Int32) (y_ : Int32) : Met l yX11_passed wsX11_passed ({ frames := 1, cells := 0, slots := 0, locals := 22 } : Room) (va_Pc [.ref (r_ 0), .int t_, .int n_, .int x_, .int y_] (zPre cD cy S_ sz_)) (va_Qi (fun (v_ : Int32) (S1 : zS) => v_ = -1) (zPost cD cy (zAd cy S_ sz_)) (zAd cy S_ sz_)) 0 0 (zAd cy S_ sz_) := by
  refine z_ofW (cc := cX11_passed) (maxL := 10) (ret := (some .int)) (own := RX11) (QQ := fun A_ => va_Qi (fun (v_ : Int32) (S1 : zS) => v_ = -1) (zPost cD cy A_) A_) (by decide) rfl rfl (Nat.le_of_ble_eq_true rfl) ?_
  intro p_ e_ s_ m_ args_ below_ meth_ c_ A_ ls hcf hr hlk hnm hK_ hE hw hA hl
  obtain ⟨hx, hb_, hml, hown, hts⟩ := id hcf
  have hl : lv_has ls 10 [(0, .ref (r_ 0)), (1, .int t_), (2, .int n_), (3, .int x_), (4, .int y_)] := hl
  refine lv_aload_n hx hb_ dX11_passed_0 rfl (lv_at hl 0 rfl) ?_
  refine lv_iload_n hx hb_ dX11_passed_1 rfl (lv_at hl 1 rfl) ?_
  refine z_kq hw hA (va_runV (As := [.int t_]) (rest := []) hcf (c_X11_stripAt l cD cy _ r_ S_ hSh hF.1 t_) (cwV 1 hts gX11_passed_X11_stripAt rfl rfl rfl (by decide +kernel) ⟨Nat.le_of_ble_eq_true rfl, Nat.le_of_ble_eq_true rfl⟩) (z_preV (k := 11) hK_ hE hw (cL hSh 0) (cK hSh 0) (by decide) rfl) rfl rfl hl.1 rfl (lv_room (Nat.le_of_ble_eq_true rfl)) dX11_passed_2 ⟨Nat.le_of_ble_eq_true rfl, Nat.le_of_ble_eq_true rfl⟩) (fun v1 S2 H_ locs_ hp hw => ?_)
  obtain ⟨rfl, rfl⟩ := hp
  refine lv_astoreN (lv' := [(5, .null), (0, .ref (r_ 0)), (1, .int t_), (2, .int n_), (3, .int x_), (4, .int y_)]) hx hb_ dX11_passed_5 hl (by decide) rfl (fun ls hl => ?_)
  refine lv_aloadN hx hb_ dX11_passed_7 (lv_at hl 0 rfl) ?_
  refine lv_iload_n hx hb_ dX11_passed_9 rfl (lv_at hl 3 rfl) ?_
  refine lv_sipush (v := 4000) hx hb_ dX11_passed_10 (by decide) ?_
  refine z_ki hw hA (va_runS (As := [.null, .int n_, .int 4000]) (rest := []) hcf (c_X11_walkTrouble_n l cD cy _ S_ n_ 4000) (va_cwS 3 hts gX11_passed_X11_walkTrouble rfl rfl rfl (by decide +kernel) ⟨Nat.le_of_ble_eq_true rfl, Nat.le_of_ble_eq_true rfl⟩) (z_preS hK_ hE hw) rfl rfl hl.1 rfl (lv_room (Nat.le_of_ble_eq_true rfl)) dX11_passed_13 ⟨Nat.le_of_ble_eq_true rfl, Nat.le_of_ble_eq_true rfl⟩) (fun v3 S4 H_ locs_ hp hw => ?_)
  obtain ⟨rfl, rfl⟩ := hp
  refine lv_istore (lv' := [(6, .int (-1)), (5, .null), (0, .ref (r_ 0)), (1, .int t_), (2, .int n_), (3, .int x_), (4, .int y_)]) hx hb_ dX11_passed_16 hl (by decide) rfl (fun ls hl => ?_)
  refine lv_iload hx hb_ dX11_passed_18 (lv_at hl 0 rfl) ?_
  refine lv_if_ne (tgt := 28) hx hb_ dX11_passed_20 (by decide) (fun _ => ?_) (fun c_20 => absurd c_20 (by decide))
  refine lv_aload_n hx hb_ dX11_passed_28 rfl (lv_at hl 2 rfl) ?_
  refine lv_iload hx hb_ dX11_passed_29 (lv_at hl 0 rfl) ?_
  refine z_ki hw hA (va_runV (As := [.int (-1)]) (rest := []) hcf (c_X11_refuse l cD cy _ r_ S_ hSh (-1) (by decide) (by decide)) (cwV 1 hts gX11_passed_X11_refuse rfl rfl rfl (by decide +kernel) ⟨Nat.le_of_ble_eq_true rfl, Nat.le_of_ble_eq_true rfl⟩) (z_preV (k := 11) hK_ hE hw (cL hSh 0) (cK hSh 0) (by decide) rfl) rfl rfl hl.1 rfl (lv_room (Nat.le_of_ble_eq_true rfl)) dX11_passed_31 ⟨Nat.le_of_ble_eq_true rfl, Nat.le_of_ble_eq_true rfl⟩) (fun v5 S6 H_ locs_ hp hw => ?_)
  obtain ⟨rfl, f7, rfl⟩ := hp
  exact z_iret (ty := .int) (v := (-1)) hcf hr rfl hlk hw (rfl) dX11_passed_34

set_option maxHeartbeats 4000000 in
set_option maxRecDepth 100000 in
/-- most on an object just made -/
theorem c_X11_most (l : Launch) (cD : va_G) (cy : Nat → ClassId) (sz_ : Nat) (r_ : Nat → Nat) (S_ : zS) (hSh : ShC S_ r_) (hF : FrC S_ r_) (t_ : Int32) (n_ : Int32) : Met l yX11_most wsX11_most ({ frames := 1, cells := 0, slots := 0, locals := 22 } : Room) (va_Pc [.ref (r_ 0), .int t_, .int n_] (zPre cD cy S_ sz_)) (va_Qi (fun (v_ : Int32) (S1 : zS) => v_ = -1) (zPost cD cy (zAd cy S_ sz_)) (zAd cy S_ sz_)) 0 0 (zAd cy S_ sz_) := by
  refine z_ofW (cc := cX11_most) (maxL := 8) (ret := (some .int)) (own := RX11) (QQ := fun A_ => va_Qi (fun (v_ : Int32) (S1 : zS) => v_ = -1) (zPost cD cy A_) A_) (by decide) rfl rfl (Nat.le_of_ble_eq_true rfl) ?_
  intro p_ e_ s_ m_ args_ below_ meth_ c_ A_ ls hcf hr hlk hnm hK_ hE hw hA hl
  obtain ⟨hx, hb_, hml, hown, hts⟩ := id hcf
  have hl : lv_has ls 8 [(0, .ref (r_ 0)), (1, .int t_), (2, .int n_)] := hl
  refine lv_aload_n hx hb_ dX11_most_0 rfl (lv_at hl 0 rfl) ?_
  refine lv_iload_n hx hb_ dX11_most_1 rfl (lv_at hl 1 rfl) ?_
  refine z_kq hw hA (va_runV (As := [.int t_]) (rest := []) hcf (c_X11_stripAt l cD cy _ r_ S_ hSh hF.1 t_) (cwV 1 hts gX11_most_X11_stripAt rfl rfl rfl (by decide +kernel) ⟨Nat.le_of_ble_eq_true rfl, Nat.le_of_ble_eq_true rfl⟩) (z_preV (k := 11) hK_ hE hw (cL hSh 0) (cK hSh 0) (by decide) rfl) rfl rfl hl.1 rfl (lv_room (Nat.le_of_ble_eq_true rfl)) dX11_most_2 ⟨Nat.le_of_ble_eq_true rfl, Nat.le_of_ble_eq_true rfl⟩) (fun v1 S2 H_ locs_ hp hw => ?_)
  obtain ⟨rfl, rfl⟩ := hp
  refine lv_astore_nN (lv' := [(3, .null), (0, .ref (r_ 0)), (1, .int t_), (2, .int n_)]) hx hb_ dX11_most_5 rfl hl (by decide) rfl (fun ls hl => ?_)
  refine lv_aload_nN hx hb_ dX11_most_6 rfl (lv_at hl 0 rfl) ?_
  refine lv_iload_n hx hb_ dX11_most_7 rfl (lv_at hl 3 rfl) ?_
  refine lv_sipush (v := 4000) hx hb_ dX11_most_8 (by decide) ?_
  refine z_ki hw hA (va_runS (As := [.null, .int n_, .int 4000]) (rest := []) hcf (c_X11_walkTrouble_n l cD cy _ S_ n_ 4000) (va_cwS 3 hts gX11_most_X11_walkTrouble rfl rfl rfl (by decide +kernel) ⟨Nat.le_of_ble_eq_true rfl, Nat.le_of_ble_eq_true rfl⟩) (z_preS hK_ hE hw) rfl rfl hl.1 rfl (lv_room (Nat.le_of_ble_eq_true rfl)) dX11_most_11 ⟨Nat.le_of_ble_eq_true rfl, Nat.le_of_ble_eq_true rfl⟩) (fun v3 S4 H_ locs_ hp hw => ?_)
  obtain ⟨rfl, rfl⟩ := hp
  refine lv_istore (lv' := [(4, .int (-1)), (3, .null), (0, .ref (r_ 0)), (1, .int t_), (2, .int n_)]) hx hb_ dX11_most_14 hl (by decide) rfl (fun ls hl => ?_)
  refine lv_iload hx hb_ dX11_most_16 (lv_at hl 0 rfl) ?_
  refine lv_if_ne (tgt := 25) hx hb_ dX11_most_18 (by decide) (fun _ => ?_) (fun c_18 => absurd c_18 (by decide))
  refine lv_aload_n hx hb_ dX11_most_25 rfl (lv_at hl 2 rfl) ?_
  refine lv_iload hx hb_ dX11_most_26 (lv_at hl 0 rfl) ?_
  refine z_ki hw hA (va_runV (As := [.int (-1)]) (rest := []) hcf (c_X11_refuse l cD cy _ r_ S_ hSh (-1) (by decide) (by decide)) (cwV 1 hts gX11_most_X11_refuse rfl rfl rfl (by decide +kernel) ⟨Nat.le_of_ble_eq_true rfl, Nat.le_of_ble_eq_true rfl⟩) (z_preV (k := 11) hK_ hE hw (cL hSh 0) (cK hSh 0) (by decide) rfl) rfl rfl hl.1 rfl (lv_room (Nat.le_of_ble_eq_true rfl)) dX11_most_28 ⟨Nat.le_of_ble_eq_true rfl, Nat.le_of_ble_eq_true rfl⟩) (fun v5 S6 H_ locs_ hp hw => ?_)
  obtain ⟨rfl, f7, rfl⟩ := hp
  exact z_iret (ty := .int) (v := (-1)) hcf hr rfl hlk hw (rfl) dX11_most_31

set_option maxHeartbeats 4000000 in
set_option maxRecDepth 100000 in
/-- twice on an object just made -/
theorem c_X11_twice (l : Launch) (cD : va_G) (cy : Nat → ClassId) (sz_ : Nat) (r_ : Nat → Nat) (S_ : zS) (hSh : ShC S_ r_) (hF : FrC S_ r_) (t_ : Int32) (n_ : Int32) : Met l yX11_twice wsX11_twice ({ frames := 1, cells := 0, slots := 0, locals := 22 } : Room) (va_Pc [.ref (r_ 0), .int t_, .int n_] (zPre cD cy S_ sz_)) (va_Qi (fun (v_ : Int32) (S1 : zS) => v_ = -1) (zPost cD cy (zAd cy S_ sz_)) (zAd cy S_ sz_)) 0 0 (zAd cy S_ sz_) := by
  refine z_ofW (cc := cX11_twice) (maxL := 8) (ret := (some .int)) (own := RX11) (QQ := fun A_ => va_Qi (fun (v_ : Int32) (S1 : zS) => v_ = -1) (zPost cD cy A_) A_) (by decide) rfl rfl (Nat.le_of_ble_eq_true rfl) ?_
  intro p_ e_ s_ m_ args_ below_ meth_ c_ A_ ls hcf hr hlk hnm hK_ hE hw hA hl
  obtain ⟨hx, hb_, hml, hown, hts⟩ := id hcf
  have hl : lv_has ls 8 [(0, .ref (r_ 0)), (1, .int t_), (2, .int n_)] := hl
  refine lv_aload_n hx hb_ dX11_twice_0 rfl (lv_at hl 0 rfl) ?_
  refine lv_iload_n hx hb_ dX11_twice_1 rfl (lv_at hl 1 rfl) ?_
  refine z_kq hw hA (va_runV (As := [.int t_]) (rest := []) hcf (c_X11_stripAt l cD cy _ r_ S_ hSh hF.1 t_) (cwV 1 hts gX11_twice_X11_stripAt rfl rfl rfl (by decide +kernel) ⟨Nat.le_of_ble_eq_true rfl, Nat.le_of_ble_eq_true rfl⟩) (z_preV (k := 11) hK_ hE hw (cL hSh 0) (cK hSh 0) (by decide) rfl) rfl rfl hl.1 rfl (lv_room (Nat.le_of_ble_eq_true rfl)) dX11_twice_2 ⟨Nat.le_of_ble_eq_true rfl, Nat.le_of_ble_eq_true rfl⟩) (fun v1 S2 H_ locs_ hp hw => ?_)
  obtain ⟨rfl, rfl⟩ := hp
  refine lv_astore_nN (lv' := [(3, .null), (0, .ref (r_ 0)), (1, .int t_), (2, .int n_)]) hx hb_ dX11_twice_5 rfl hl (by decide) rfl (fun ls hl => ?_)
  refine lv_aload_nN hx hb_ dX11_twice_6 rfl (lv_at hl 0 rfl) ?_
  refine lv_iload_n hx hb_ dX11_twice_7 rfl (lv_at hl 3 rfl) ?_
  refine lv_sipush (v := 4000) hx hb_ dX11_twice_8 (by decide) ?_
  refine z_ki hw hA (va_runS (As := [.null, .int n_, .int 4000]) (rest := []) hcf (c_X11_walkTrouble_n l cD cy _ S_ n_ 4000) (va_cwS 3 hts gX11_twice_X11_walkTrouble rfl rfl rfl (by decide +kernel) ⟨Nat.le_of_ble_eq_true rfl, Nat.le_of_ble_eq_true rfl⟩) (z_preS hK_ hE hw) rfl rfl hl.1 rfl (lv_room (Nat.le_of_ble_eq_true rfl)) dX11_twice_11 ⟨Nat.le_of_ble_eq_true rfl, Nat.le_of_ble_eq_true rfl⟩) (fun v3 S4 H_ locs_ hp hw => ?_)
  obtain ⟨rfl, rfl⟩ := hp
  refine lv_istore (lv' := [(4, .int (-1)), (3, .null), (0, .ref (r_ 0)), (1, .int t_), (2, .int n_)]) hx hb_ dX11_twice_14 hl (by decide) rfl (fun ls hl => ?_)
  refine lv_iload hx hb_ dX11_twice_16 (lv_at hl 0 rfl) ?_
  refine lv_if_ne (tgt := 25) hx hb_ dX11_twice_18 (by decide) (fun _ => ?_) (fun c_18 => absurd c_18 (by decide))
  refine lv_aload_n hx hb_ dX11_twice_25 rfl (lv_at hl 2 rfl) ?_
  refine lv_iload hx hb_ dX11_twice_26 (lv_at hl 0 rfl) ?_
  refine z_ki hw hA (va_runV (As := [.int (-1)]) (rest := []) hcf (c_X11_refuse l cD cy _ r_ S_ hSh (-1) (by decide) (by decide)) (cwV 1 hts gX11_twice_X11_refuse rfl rfl rfl (by decide +kernel) ⟨Nat.le_of_ble_eq_true rfl, Nat.le_of_ble_eq_true rfl⟩) (z_preV (k := 11) hK_ hE hw (cL hSh 0) (cK hSh 0) (by decide) rfl) rfl rfl hl.1 rfl (lv_room (Nat.le_of_ble_eq_true rfl)) dX11_twice_28 ⟨Nat.le_of_ble_eq_true rfl, Nat.le_of_ble_eq_true rfl⟩) (fun v5 S6 H_ locs_ hp hw => ?_)
  obtain ⟨rfl, f7, rfl⟩ := hp
  exact z_iret (ty := .int) (v := (-1)) hcf hr rfl hlk hw (rfl) dX11_twice_31

set_option maxHeartbeats 4000000 in
set_option maxRecDepth 100000 in
/-- cover on an object just made -/
theorem c_X11_cover (l : Launch) (cD : va_G) (cy : Nat → ClassId) (sz_ : Nat) (r_ : Nat → Nat) (S_ : zS) (hSh : ShC S_ r_) (hF : FrC S_ r_) (t_ : Int32) (n_ : Int32) : Met l yX11_cover wsX11_cover ({ frames := 1, cells := 0, slots := 0, locals := 22 } : Room) (va_Pc [.ref (r_ 0), .int t_, .int n_] (zPre cD cy S_ sz_)) (va_Qi (fun (v_ : Int32) (S1 : zS) => v_ = -1) (zPost cD cy (zAd cy S_ sz_)) (zAd cy S_ sz_)) 0 0 (zAd cy S_ sz_) := by
  refine z_ofW (cc := cX11_cover) (maxL := 8) (ret := (some .int)) (own := RX11) (QQ := fun A_ => va_Qi (fun (v_ : Int32) (S1 : zS) => v_ = -1) (zPost cD cy A_) A_) (by decide) rfl rfl (Nat.le_of_ble_eq_true rfl) ?_
  intro p_ e_ s_ m_ args_ below_ meth_ c_ A_ ls hcf hr hlk hnm hK_ hE hw hA hl
  obtain ⟨hx, hb_, hml, hown, hts⟩ := id hcf
  have hl : lv_has ls 8 [(0, .ref (r_ 0)), (1, .int t_), (2, .int n_)] := hl
  refine lv_aload_n hx hb_ dX11_cover_0 rfl (lv_at hl 0 rfl) ?_
  refine lv_iload_n hx hb_ dX11_cover_1 rfl (lv_at hl 1 rfl) ?_
  refine z_kq hw hA (va_runV (As := [.int t_]) (rest := []) hcf (c_X11_stripAt l cD cy _ r_ S_ hSh hF.1 t_) (cwV 1 hts gX11_cover_X11_stripAt rfl rfl rfl (by decide +kernel) ⟨Nat.le_of_ble_eq_true rfl, Nat.le_of_ble_eq_true rfl⟩) (z_preV (k := 11) hK_ hE hw (cL hSh 0) (cK hSh 0) (by decide) rfl) rfl rfl hl.1 rfl (lv_room (Nat.le_of_ble_eq_true rfl)) dX11_cover_2 ⟨Nat.le_of_ble_eq_true rfl, Nat.le_of_ble_eq_true rfl⟩) (fun v1 S2 H_ locs_ hp hw => ?_)
  obtain ⟨rfl, rfl⟩ := hp
  refine lv_astore_nN (lv' := [(3, .null), (0, .ref (r_ 0)), (1, .int t_), (2, .int n_)]) hx hb_ dX11_cover_5 rfl hl (by decide) rfl (fun ls hl => ?_)
  refine lv_aload_nN hx hb_ dX11_cover_6 rfl (lv_at hl 0 rfl) ?_
  refine lv_iload_n hx hb_ dX11_cover_7 rfl (lv_at hl 3 rfl) ?_
  refine lv_sipush (v := 4000) hx hb_ dX11_cover_8 (by decide) ?_
  refine z_ki hw hA (va_runS (As := [.null, .int n_, .int 4000]) (rest := []) hcf (c_X11_walkTrouble_n l cD cy _ S_ n_ 4000) (va_cwS 3 hts gX11_cover_X11_walkTrouble rfl rfl rfl (by decide +kernel) ⟨Nat.le_of_ble_eq_true rfl, Nat.le_of_ble_eq_true rfl⟩) (z_preS hK_ hE hw) rfl rfl hl.1 rfl (lv_room (Nat.le_of_ble_eq_true rfl)) dX11_cover_11 ⟨Nat.le_of_ble_eq_true rfl, Nat.le_of_ble_eq_true rfl⟩) (fun v3 S4 H_ locs_ hp hw => ?_)
  obtain ⟨rfl, rfl⟩ := hp
  refine lv_istore (lv' := [(4, .int (-1)), (3, .null), (0, .ref (r_ 0)), (1, .int t_), (2, .int n_)]) hx hb_ dX11_cover_14 hl (by decide) rfl (fun ls hl => ?_)
  refine lv_iload hx hb_ dX11_cover_16 (lv_at hl 0 rfl) ?_
  refine lv_if_ne (tgt := 25) hx hb_ dX11_cover_18 (by decide) (fun _ => ?_) (fun c_18 => absurd c_18 (by decide))
  refine lv_aload_n hx hb_ dX11_cover_25 rfl (lv_at hl 2 rfl) ?_
  refine lv_iload hx hb_ dX11_cover_26 (lv_at hl 0 rfl) ?_
  refine z_ki hw hA (va_runV (As := [.int (-1)]) (rest := []) hcf (c_X11_refuse l cD cy _ r_ S_ hSh (-1) (by decide) (by decide)) (cwV 1 hts gX11_cover_X11_refuse rfl rfl rfl (by decide +kernel) ⟨Nat.le_of_ble_eq_true rfl, Nat.le_of_ble_eq_true rfl⟩) (z_preV (k := 11) hK_ hE hw (cL hSh 0) (cK hSh 0) (by decide) rfl) rfl rfl hl.1 rfl (lv_room (Nat.le_of_ble_eq_true rfl)) dX11_cover_28 ⟨Nat.le_of_ble_eq_true rfl, Nat.le_of_ble_eq_true rfl⟩) (fun v5 S6 H_ locs_ hp hw => ?_)
  obtain ⟨rfl, f7, rfl⟩ := hp
  exact z_iret (ty := .int) (v := (-1)) hcf hr rfl hlk hw (rfl) dX11_cover_31

set_option maxHeartbeats 4000000 in
set_option maxRecDepth 100000 in
/-- near on an object just made -/
theorem c_X11_near (l : Launch) (cD : va_G) (cy : Nat → ClassId) (sz_ : Nat) (r_ : Nat → Nat) (S_ : zS) (hSh : ShC S_ r_) (hF : FrC S_ r_) (t_ : Int32) (u_ : Int32) (n_ : Int32) (x_ : Int32) (y_ : Int32) (q_ : Int32) : Met l yX11_near wsX11_near ({ frames := 1, cells := 0, slots := 0, locals := 22 } : Room) (va_Pc [.ref (r_ 0), .int t_, .int u_, .int n_, .int x_, .int y_, .int q_] (zPre cD cy S_ sz_)) (va_Qi (fun (v_ : Int32) (S1 : zS) => v_ = -1) (zPost cD cy (zAd cy S_ sz_)) (zAd cy S_ sz_)) 0 0 (zAd cy S_ sz_) := by
  refine z_ofW (cc := cX11_near) (maxL := 21) (ret := (some .int)) (own := RX11) (QQ := fun A_ => va_Qi (fun (v_ : Int32) (S1 : zS) => v_ = -1) (zPost cD cy A_) A_) (by decide) rfl rfl (Nat.le_of_ble_eq_true rfl) ?_
  intro p_ e_ s_ m_ args_ below_ meth_ c_ A_ ls hcf hr hlk hnm hK_ hE hw hA hl
  obtain ⟨hx, hb_, hml, hown, hts⟩ := id hcf
  have hl : lv_has ls 21 [(0, .ref (r_ 0)), (1, .int t_), (2, .int u_), (3, .int n_), (4, .int x_), (5, .int y_), (6, .int q_)] := hl
  refine lv_aload_n hx hb_ dX11_near_0 rfl (lv_at hl 0 rfl) ?_
  refine lv_iload_n hx hb_ dX11_near_1 rfl (lv_at hl 1 rfl) ?_
  refine z_kq hw hA (va_runV (As := [.int t_]) (rest := []) hcf (c_X11_stripAt l cD cy _ r_ S_ hSh hF.1 t_) (cwV 1 hts gX11_near_X11_stripAt rfl rfl rfl (by decide +kernel) ⟨Nat.le_of_ble_eq_true rfl, Nat.le_of_ble_eq_true rfl⟩) (z_preV (k := 11) hK_ hE hw (cL hSh 0) (cK hSh 0) (by decide) rfl) rfl rfl hl.1 rfl (lv_room (Nat.le_of_ble_eq_true rfl)) dX11_near_2 ⟨Nat.le_of_ble_eq_true rfl, Nat.le_of_ble_eq_true rfl⟩) (fun v1 S2 H_ locs_ hp hw => ?_)
  obtain ⟨rfl, rfl⟩ := hp
  refine lv_astoreN (lv' := [(7, .null), (0, .ref (r_ 0)), (1, .int t_), (2, .int u_), (3, .int n_), (4, .int x_), (5, .int y_), (6, .int q_)]) hx hb_ dX11_near_5 hl (by decide) rfl (fun ls hl => ?_)
  refine lv_aload_n hx hb_ dX11_near_7 rfl (lv_at hl 1 rfl) ?_
  refine lv_iload_n hx hb_ dX11_near_8 rfl (lv_at hl 3 rfl) ?_
  refine z_kq hw hA (va_runV (As := [.int u_]) (rest := []) hcf (c_X11_stripAt l cD cy _ r_ S_ hSh hF.1 u_) (cwV 1 hts gX11_near_X11_stripAt rfl rfl rfl (by decide +kernel) ⟨Nat.le_of_ble_eq_true rfl, Nat.le_of_ble_eq_true rfl⟩) (z_preV (k := 11) hK_ hE hw (cL hSh 0) (cK hSh 0) (by decide) rfl) rfl rfl hl.1 rfl (lv_room (Nat.le_of_ble_eq_true rfl)) dX11_near_9 ⟨Nat.le_of_ble_eq_true rfl, Nat.le_of_ble_eq_true rfl⟩) (fun v3 S4 H_ locs_ hp hw => ?_)
  obtain ⟨rfl, rfl⟩ := hp
  refine lv_astoreN (lv' := [(8, .null), (7, .null), (0, .ref (r_ 0)), (1, .int t_), (2, .int u_), (3, .int n_), (4, .int x_), (5, .int y_), (6, .int q_)]) hx hb_ dX11_near_12 hl (by decide) rfl (fun ls hl => ?_)
  refine lv_aloadN hx hb_ dX11_near_14 (lv_at hl 1 rfl) ?_
  refine lv_ifnullN (tgt := 24) hx hb_ dX11_near_16 (by decide) ?_
  refine lv_aload_n hx hb_ dX11_near_24 rfl (lv_at hl 2 rfl) ?_
  refine lv_iconst (v := (-1)) hx hb_ dX11_near_25 (by decide) ?_
  refine z_ki hw hA (va_runV (As := [.int (-1)]) (rest := []) hcf (c_X11_refuse l cD cy _ r_ S_ hSh (-1) (by decide) (by decide)) (cwV 1 hts gX11_near_X11_refuse rfl rfl rfl (by decide +kernel) ⟨Nat.le_of_ble_eq_true rfl, Nat.le_of_ble_eq_true rfl⟩) (z_preV (k := 11) hK_ hE hw (cL hSh 0) (cK hSh 0) (by decide) rfl) rfl rfl hl.1 rfl (lv_room (Nat.le_of_ble_eq_true rfl)) dX11_near_26 ⟨Nat.le_of_ble_eq_true rfl, Nat.le_of_ble_eq_true rfl⟩) (fun v5 S6 H_ locs_ hp hw => ?_)
  obtain ⟨rfl, f7, rfl⟩ := hp
  exact z_iret (ty := .int) (v := (-1)) hcf hr rfl hlk hw (rfl) dX11_near_29

set_option maxHeartbeats 4000000 in
set_option maxRecDepth 100000 in
/-- four on an object just made -/
theorem c_X11_four (l : Launch) (cD : va_G) (cy : Nat → ClassId) (sz_ : Nat) (r_ : Nat → Nat) (S_ : zS) (hSh : ShC S_ r_) (hF : FrC S_ r_) (t_ : Int32) (n_ : Int32) : Met l yX11_four wsX11_four ({ frames := 1, cells := 0, slots := 0, locals := 22 } : Room) (va_Pc [.ref (r_ 0), .int t_, .int n_] (zPre cD cy S_ sz_)) (va_Qi (fun (v_ : Int32) (S1 : zS) => v_ = -1) (zPost cD cy (zAd cy S_ sz_)) (zAd cy S_ sz_)) 0 0 (zAd cy S_ sz_) := by
  refine z_ofW (cc := cX11_four) (maxL := 8) (ret := (some .int)) (own := RX11) (QQ := fun A_ => va_Qi (fun (v_ : Int32) (S1 : zS) => v_ = -1) (zPost cD cy A_) A_) (by decide) rfl rfl (Nat.le_of_ble_eq_true rfl) ?_
  intro p_ e_ s_ m_ args_ below_ meth_ c_ A_ ls hcf hr hlk hnm hK_ hE hw hA hl
  obtain ⟨hx, hb_, hml, hown, hts⟩ := id hcf
  have hl : lv_has ls 8 [(0, .ref (r_ 0)), (1, .int t_), (2, .int n_)] := hl
  refine lv_aload_n hx hb_ dX11_four_0 rfl (lv_at hl 0 rfl) ?_
  refine lv_iload_n hx hb_ dX11_four_1 rfl (lv_at hl 1 rfl) ?_
  refine z_kq hw hA (va_runV (As := [.int t_]) (rest := []) hcf (c_X11_stripAt l cD cy _ r_ S_ hSh hF.1 t_) (cwV 1 hts gX11_four_X11_stripAt rfl rfl rfl (by decide +kernel) ⟨Nat.le_of_ble_eq_true rfl, Nat.le_of_ble_eq_true rfl⟩) (z_preV (k := 11) hK_ hE hw (cL hSh 0) (cK hSh 0) (by decide) rfl) rfl rfl hl.1 rfl (lv_room (Nat.le_of_ble_eq_true rfl)) dX11_four_2 ⟨Nat.le_of_ble_eq_true rfl, Nat.le_of_ble_eq_true rfl⟩) (fun v1 S2 H_ locs_ hp hw => ?_)
  obtain ⟨rfl, rfl⟩ := hp
  refine lv_astore_nN (lv' := [(3, .null), (0, .ref (r_ 0)), (1, .int t_), (2, .int n_)]) hx hb_ dX11_four_5 rfl hl (by decide) rfl (fun ls hl => ?_)
  refine lv_aload_nN hx hb_ dX11_four_6 rfl (lv_at hl 0 rfl) ?_
  refine lv_iload_n hx hb_ dX11_four_7 rfl (lv_at hl 3 rfl) ?_
  refine lv_sipush (v := 1000) hx hb_ dX11_four_8 (by decide) ?_
  refine z_ki hw hA (va_runS (As := [.null, .int n_, .int 1000]) (rest := []) hcf (c_X11_walkTrouble_n l cD cy _ S_ n_ 1000) (va_cwS 3 hts gX11_four_X11_walkTrouble rfl rfl rfl (by decide +kernel) ⟨Nat.le_of_ble_eq_true rfl, Nat.le_of_ble_eq_true rfl⟩) (z_preS hK_ hE hw) rfl rfl hl.1 rfl (lv_room (Nat.le_of_ble_eq_true rfl)) dX11_four_11 ⟨Nat.le_of_ble_eq_true rfl, Nat.le_of_ble_eq_true rfl⟩) (fun v3 S4 H_ locs_ hp hw => ?_)
  obtain ⟨rfl, rfl⟩ := hp
  refine lv_istore (lv' := [(4, .int (-1)), (3, .null), (0, .ref (r_ 0)), (1, .int t_), (2, .int n_)]) hx hb_ dX11_four_14 hl (by decide) rfl (fun ls hl => ?_)
  refine lv_iload hx hb_ dX11_four_16 (lv_at hl 0 rfl) ?_
  refine lv_if_ne (tgt := 25) hx hb_ dX11_four_18 (by decide) (fun _ => ?_) (fun c_18 => absurd c_18 (by decide))
  refine lv_aload_n hx hb_ dX11_four_25 rfl (lv_at hl 2 rfl) ?_
  refine lv_iload hx hb_ dX11_four_26 (lv_at hl 0 rfl) ?_
  refine z_ki hw hA (va_runV (As := [.int (-1)]) (rest := []) hcf (c_X11_refuse l cD cy _ r_ S_ hSh (-1) (by decide) (by decide)) (cwV 1 hts gX11_four_X11_refuse rfl rfl rfl (by decide +kernel) ⟨Nat.le_of_ble_eq_true rfl, Nat.le_of_ble_eq_true rfl⟩) (z_preV (k := 11) hK_ hE hw (cL hSh 0) (cK hSh 0) (by decide) rfl) rfl rfl hl.1 rfl (lv_room (Nat.le_of_ble_eq_true rfl)) dX11_four_28 ⟨Nat.le_of_ble_eq_true rfl, Nat.le_of_ble_eq_true rfl⟩) (fun v5 S6 H_ locs_ hp hw => ?_)
  obtain ⟨rfl, f7, rfl⟩ := hp
  exact z_iret (ty := .int) (v := (-1)) hcf hr rfl hlk hw (rfl) dX11_four_31

set_option maxHeartbeats 4000000 in
set_option maxRecDepth 100000 in
/-- piece on an object just made -/
theorem c_X11_piece (l : Launch) (cD : va_G) (cy : Nat → ClassId) (sz_ : Nat) (r_ : Nat → Nat) (S_ : zS) (hSh : ShC S_ r_) (hF : FrC S_ r_) (t_ : Int32) (a_ : Int32) (n_ : Int32) (q_ : Int32) : Met l yX11_piece wsX11_piece ({ frames := 1, cells := 0, slots := 0, locals := 22 } : Room) (va_Pc [.ref (r_ 0), .int t_, .int a_, .int n_, .int q_] (zPre cD cy S_ sz_)) (va_Qi (fun (v_ : Int32) (S1 : zS) => v_ = -1) (zPost cD cy (zAd cy S_ sz_)) (zAd cy S_ sz_)) 0 0 (zAd cy S_ sz_) := by
  refine z_ofW (cc := cX11_piece) (maxL := 19) (ret := (some .int)) (own := RX11) (QQ := fun A_ => va_Qi (fun (v_ : Int32) (S1 : zS) => v_ = -1) (zPost cD cy A_) A_) (by decide) rfl rfl (Nat.le_of_ble_eq_true rfl) ?_
  intro p_ e_ s_ m_ args_ below_ meth_ c_ A_ ls hcf hr hlk hnm hK_ hE hw hA hl
  obtain ⟨hx, hb_, hml, hown, hts⟩ := id hcf
  have hl : lv_has ls 19 [(0, .ref (r_ 0)), (1, .int t_), (2, .int a_), (3, .int n_), (4, .int q_)] := hl
  refine lv_aload_n hx hb_ dX11_piece_0 rfl (lv_at hl 0 rfl) ?_
  refine lv_iload_n hx hb_ dX11_piece_1 rfl (lv_at hl 1 rfl) ?_
  refine z_kq hw hA (va_runV (As := [.int t_]) (rest := []) hcf (c_X11_stripAt l cD cy _ r_ S_ hSh hF.1 t_) (cwV 1 hts gX11_piece_X11_stripAt rfl rfl rfl (by decide +kernel) ⟨Nat.le_of_ble_eq_true rfl, Nat.le_of_ble_eq_true rfl⟩) (z_preV (k := 11) hK_ hE hw (cL hSh 0) (cK hSh 0) (by decide) rfl) rfl rfl hl.1 rfl (lv_room (Nat.le_of_ble_eq_true rfl)) dX11_piece_2 ⟨Nat.le_of_ble_eq_true rfl, Nat.le_of_ble_eq_true rfl⟩) (fun v1 S2 H_ locs_ hp hw => ?_)
  obtain ⟨rfl, rfl⟩ := hp
  refine lv_astoreN (lv' := [(5, .null), (0, .ref (r_ 0)), (1, .int t_), (2, .int a_), (3, .int n_), (4, .int q_)]) hx hb_ dX11_piece_5 hl (by decide) rfl (fun ls hl => ?_)
  refine lv_aload_n hx hb_ dX11_piece_7 rfl (lv_at hl 1 rfl) ?_
  refine lv_iload_n hx hb_ dX11_piece_8 rfl (lv_at hl 3 rfl) ?_
  refine z_kq hw hA (va_runV (As := [.int a_]) (rest := []) hcf (c_X11_shelfAt l cD cy _ r_ S_ hSh a_) (cwV 1 hts gX11_piece_X11_shelfAt rfl rfl rfl (by decide +kernel) ⟨Nat.le_of_ble_eq_true rfl, Nat.le_of_ble_eq_true rfl⟩) (z_preV (k := 11) hK_ hE hw (cL hSh 0) (cK hSh 0) (by decide) rfl) rfl rfl hl.1 rfl (lv_room (Nat.le_of_ble_eq_true rfl)) dX11_piece_9 ⟨Nat.le_of_ble_eq_true rfl, Nat.le_of_ble_eq_true rfl⟩) (fun v3 S4 H_ locs_ hp hw => ?_)
  obtain ⟨hp, rfl⟩ := hp
  rcases hp with ⟨hs5, rfl⟩ | ⟨⟨ha5, hb5⟩, j5, hj5, ej5, rfl⟩
  · refine lv_astoreN (lv' := [(6, .null), (5, .null), (0, .ref (r_ 0)), (1, .int t_), (2, .int a_), (3, .int n_), (4, .int q_)]) hx hb_ dX11_piece_12 hl (by decide) rfl (fun ls hl => ?_)
    refine lv_aloadN hx hb_ dX11_piece_14 (lv_at hl 1 rfl) ?_
    refine lv_ifnullN (tgt := 24) hx hb_ dX11_piece_16 (by decide) ?_
    refine lv_aload_n hx hb_ dX11_piece_24 rfl (lv_at hl 2 rfl) ?_
    refine lv_iconst (v := (-1)) hx hb_ dX11_piece_25 (by decide) ?_
    refine z_ki hw hA (va_runV (As := [.int (-1)]) (rest := []) hcf (c_X11_refuse l cD cy _ r_ S_ hSh (-1) (by decide) (by decide)) (cwV 1 hts gX11_piece_X11_refuse rfl rfl rfl (by decide +kernel) ⟨Nat.le_of_ble_eq_true rfl, Nat.le_of_ble_eq_true rfl⟩) (z_preV (k := 11) hK_ hE hw (cL hSh 0) (cK hSh 0) (by decide) rfl) rfl rfl hl.1 rfl (lv_room (Nat.le_of_ble_eq_true rfl)) dX11_piece_26 ⟨Nat.le_of_ble_eq_true rfl, Nat.le_of_ble_eq_true rfl⟩) (fun v6 S7 H_ locs_ hp hw => ?_)
    obtain ⟨rfl, f8, rfl⟩ := hp
    exact z_iret (ty := .int) (v := (-1)) hcf hr rfl hlk hw (rfl) dX11_piece_29
  · refine lv_astore (lv' := [(6, .ref (r_ (17 + j5))), (5, .null), (0, .ref (r_ 0)), (1, .int t_), (2, .int a_), (3, .int n_), (4, .int q_)]) hx hb_ dX11_piece_12 hl (by decide) rfl (fun ls hl => ?_)
    refine lv_aloadN hx hb_ dX11_piece_14 (lv_at hl 1 rfl) ?_
    refine lv_ifnullN (tgt := 24) hx hb_ dX11_piece_16 (by decide) ?_
    refine lv_aload_n hx hb_ dX11_piece_24 rfl (lv_at hl 2 rfl) ?_
    refine lv_iconst (v := (-1)) hx hb_ dX11_piece_25 (by decide) ?_
    refine z_ki hw hA (va_runV (As := [.int (-1)]) (rest := []) hcf (c_X11_refuse l cD cy _ r_ S_ hSh (-1) (by decide) (by decide)) (cwV 1 hts gX11_piece_X11_refuse rfl rfl rfl (by decide +kernel) ⟨Nat.le_of_ble_eq_true rfl, Nat.le_of_ble_eq_true rfl⟩) (z_preV (k := 11) hK_ hE hw (cL hSh 0) (cK hSh 0) (by decide) rfl) rfl rfl hl.1 rfl (lv_room (Nat.le_of_ble_eq_true rfl)) dX11_piece_26 ⟨Nat.le_of_ble_eq_true rfl, Nat.le_of_ble_eq_true rfl⟩) (fun v9 S10 H_ locs_ hp hw => ?_)
    obtain ⟨rfl, f11, rfl⟩ := hp
    exact z_iret (ty := .int) (v := (-1)) hcf hr rfl hlk hw (rfl) dX11_piece_29

set_option maxHeartbeats 4000000 in
set_option maxRecDepth 100000 in
/-- when on an object just made -/
theorem c_X11_when (l : Launch) (cD : va_G) (cy : Nat → ClassId) (sz_ : Nat) (r_ : Nat → Nat) (S_ : zS) (hSh : ShC S_ r_) (hF : FrC S_ r_) (t_ : Int32) (x_ : Int32) (y_ : Int32) (i_ : Int32) : Met l yX11_when wsX11_when ({ frames := 2, cells := 0, slots := 0, locals := 43 } : Room) (va_Pc [.ref (r_ 0), .int t_, .int x_, .int y_, .int i_] (zPre cD cy S_ sz_)) (va_Qi (fun (v_ : Int32) (S1 : zS) => v_ = -11) (zPost cD cy (zAd cy S_ sz_)) (zAd cy S_ sz_)) 0 0 (zAd cy S_ sz_) := by
  refine z_ofW (cc := cX11_when) (maxL := 11) (ret := (some .int)) (own := RX11) (QQ := fun A_ => va_Qi (fun (v_ : Int32) (S1 : zS) => v_ = -11) (zPost cD cy A_) A_) (by decide) rfl rfl (Nat.le_of_ble_eq_true rfl) ?_
  intro p_ e_ s_ m_ args_ below_ meth_ c_ A_ ls hcf hr hlk hnm hK_ hE hw hA hl
  obtain ⟨hx, hb_, hml, hown, hts⟩ := id hcf
  have hl : lv_has ls 11 [(0, .ref (r_ 0)), (1, .int t_), (2, .int x_), (3, .int y_), (4, .int i_)] := hl
  refine lv_aload_n hx hb_ dX11_when_0 rfl (lv_at hl 0 rfl) ?_
  refine lv_iload_n hx hb_ dX11_when_1 rfl (lv_at hl 1 rfl) ?_
  refine z_kq hw hA (va_runV (As := [.int t_]) (rest := []) hcf (c_X11_stripAt l cD cy _ r_ S_ hSh hF.1 t_) (cwV 1 hts gX11_when_X11_stripAt rfl rfl rfl (by decide +kernel) ⟨Nat.le_of_ble_eq_true rfl, Nat.le_of_ble_eq_true rfl⟩) (z_preV (k := 11) hK_ hE hw (cL hSh 0) (cK hSh 0) (by decide) rfl) rfl rfl hl.1 rfl (lv_room (Nat.le_of_ble_eq_true rfl)) dX11_when_2 ⟨Nat.le_of_ble_eq_true rfl, Nat.le_of_ble_eq_true rfl⟩) (fun v1 S2 H_ locs_ hp hw => ?_)
  obtain ⟨rfl, rfl⟩ := hp
  refine lv_astoreN (lv' := [(5, .null), (0, .ref (r_ 0)), (1, .int t_), (2, .int x_), (3, .int y_), (4, .int i_)]) hx hb_ dX11_when_5 hl (by decide) rfl (fun ls hl => ?_)
  refine lv_aloadN hx hb_ dX11_when_7 (lv_at hl 0 rfl) ?_
  refine lv_ifnonnullN hx hb_ dX11_when_9 ?_
  refine lv_aload_n hx hb_ dX11_when_12 rfl (lv_at hl 1 rfl) ?_
  refine lv_iconst (v := (-1)) hx hb_ dX11_when_13 (by decide) ?_
  refine z_ki hw hA (va_runV (As := [.int (-1)]) (rest := []) hcf (c_X11_refuseTens l cD cy _ r_ S_ hSh (-1) (by decide) (by decide)) (cwV 1 hts gX11_when_X11_refuseTens rfl rfl rfl (by decide +kernel) ⟨Nat.le_of_ble_eq_true rfl, Nat.le_of_ble_eq_true rfl⟩) (z_preV (k := 11) hK_ hE hw (cL hSh 0) (cK hSh 0) (by decide) rfl) rfl rfl hl.1 rfl (lv_room (Nat.le_of_ble_eq_true rfl)) dX11_when_14 ⟨Nat.le_of_ble_eq_true rfl, Nat.le_of_ble_eq_true rfl⟩) (fun v3 S4 H_ locs_ hp hw => ?_)
  obtain ⟨rfl, f5, rfl⟩ := hp
  refine z_topi (y := (-11)) (by decide) ?_
  exact z_iret (ty := .int) (v := (-11)) hcf hr rfl hlk hw (rfl) dX11_when_17

set_option maxHeartbeats 4000000 in
set_option maxRecDepth 100000 in
/-- words on an object just made -/
theorem c_X11_words (l : Launch) (cD : va_G) (cy : Nat → ClassId) (sz_ : Nat) (r_ : Nat → Nat) (S_ : zS) (hSh : ShC S_ r_) (hF : FrC S_ r_) (a_ : Int32) (n_ : Int32) (q_ : Int32) : Met l yX11_words wsX11_words ({ frames := 3, cells := 0, slots := 0, locals := 64 } : Room) (va_Pc [.ref (r_ 0), .int a_, .int n_, .int q_] (zPre cD cy S_ sz_)) (va_Qi (fun (v_ : Int32) (S1 : zS) => v_ = q_bad a_ (-11) (-13)) (zPost cD cy (zAd cy S_ sz_)) (zAd cy S_ sz_)) 0 0 (zAd cy S_ sz_) := by
  refine z_ofW (cc := cX11_words) (maxL := 7) (ret := (some .int)) (own := RX11) (QQ := fun A_ => va_Qi (fun (v_ : Int32) (S1 : zS) => v_ = q_bad a_ (-11) (-13)) (zPost cD cy A_) A_) (by decide) rfl rfl (Nat.le_of_ble_eq_true rfl) ?_
  intro p_ e_ s_ m_ args_ below_ meth_ c_ A_ ls hcf hr hlk hnm hK_ hE hw hA hl
  obtain ⟨hx, hb_, hml, hown, hts⟩ := id hcf
  have hl : lv_has ls 7 [(0, .ref (r_ 0)), (1, .int a_), (2, .int n_), (3, .int q_)] := hl
  refine lv_aload_n hx hb_ dX11_words_0 rfl (lv_at hl 0 rfl) ?_
  refine lv_iload_n hx hb_ dX11_words_1 rfl (lv_at hl 1 rfl) ?_
  refine z_kq hw hA (va_runV (As := [.int a_]) (rest := []) hcf (c_X11_shelfAt l cD cy _ r_ S_ hSh a_) (cwV 1 hts gX11_words_X11_shelfAt rfl rfl rfl (by decide +kernel) ⟨Nat.le_of_ble_eq_true rfl, Nat.le_of_ble_eq_true rfl⟩) (z_preV (k := 11) hK_ hE hw (cL hSh 0) (cK hSh 0) (by decide) rfl) rfl rfl hl.1 rfl (lv_room (Nat.le_of_ble_eq_true rfl)) dX11_words_2 ⟨Nat.le_of_ble_eq_true rfl, Nat.le_of_ble_eq_true rfl⟩) (fun v1 S2 H_ locs_ hp hw => ?_)
  obtain ⟨hp, rfl⟩ := hp
  rcases hp with ⟨hs3, rfl⟩ | ⟨⟨ha3, hb3⟩, j3, hj3, ej3, rfl⟩
  · refine lv_astoreN (lv' := [(4, .null), (0, .ref (r_ 0)), (1, .int a_), (2, .int n_), (3, .int q_)]) hx hb_ dX11_words_5 hl (by decide) rfl (fun ls hl => ?_)
    refine lv_aloadN hx hb_ dX11_words_7 (lv_at hl 0 rfl) ?_
    refine lv_iload_n hx hb_ dX11_words_9 rfl (lv_at hl 3 rfl) ?_
    refine z_ki hw hA (va_runS (As := [.null, .int n_]) (rest := []) hcf (c_X11_toldTroubleTo63_n l cD cy _ S_ n_) (va_cwS 2 hts gX11_words_X11_toldTroubleTo63 rfl rfl rfl (by decide +kernel) ⟨Nat.le_of_ble_eq_true rfl, Nat.le_of_ble_eq_true rfl⟩) (z_preS hK_ hE hw) rfl rfl hl.1 rfl (lv_room (Nat.le_of_ble_eq_true rfl)) dX11_words_10 ⟨Nat.le_of_ble_eq_true rfl, Nat.le_of_ble_eq_true rfl⟩) (fun v4 S5 H_ locs_ hp hw => ?_)
    obtain ⟨rfl, rfl⟩ := hp
    refine lv_istore (lv' := [(5, .int (-1)), (4, .null), (0, .ref (r_ 0)), (1, .int a_), (2, .int n_), (3, .int q_)]) hx hb_ dX11_words_13 hl (by decide) rfl (fun ls hl => ?_)
    refine lv_iload hx hb_ dX11_words_15 (lv_at hl 0 rfl) ?_
    refine lv_if_ne (tgt := 25) hx hb_ dX11_words_17 (by decide) (fun _ => ?_) (fun c_17 => absurd c_17 (by decide))
    refine lv_aload_n hx hb_ dX11_words_25 rfl (lv_at hl 2 rfl) ?_
    refine lv_iload hx hb_ dX11_words_26 (lv_at hl 0 rfl) ?_
    refine z_ki hw hA (va_runV (As := [.int (-1)]) (rest := []) hcf (c_X11_refuseTens l cD cy _ r_ S_ hSh (-1) (by decide) (by decide)) (cwV 1 hts gX11_words_X11_refuseTens rfl rfl rfl (by decide +kernel) ⟨Nat.le_of_ble_eq_true rfl, Nat.le_of_ble_eq_true rfl⟩) (z_preV (k := 11) hK_ hE hw (cL hSh 0) (cK hSh 0) (by decide) rfl) rfl rfl hl.1 rfl (lv_room (Nat.le_of_ble_eq_true rfl)) dX11_words_28 ⟨Nat.le_of_ble_eq_true rfl, Nat.le_of_ble_eq_true rfl⟩) (fun v6 S7 H_ locs_ hp hw => ?_)
    obtain ⟨rfl, f8, rfl⟩ := hp
    refine z_topi (y := (-11)) (by decide) ?_
    exact z_iret (ty := .int) (v := (-11)) hcf hr rfl hlk hw (by first | (simp [q_bad, hs3]; done) | (rcases hs3 with q_ | q_ <;> (simp [q_bad, q_]; done)) | (simp_all [q_bad]; done)) dX11_words_31
  · refine lv_astore (lv' := [(4, .ref (r_ (17 + j3))), (0, .ref (r_ 0)), (1, .int a_), (2, .int n_), (3, .int q_)]) hx hb_ dX11_words_5 hl (by decide) rfl (fun ls hl => ?_)
    refine lv_aload hx hb_ dX11_words_7 (lv_at hl 0 rfl) ?_
    refine lv_iload_n hx hb_ dX11_words_9 rfl (lv_at hl 3 rfl) ?_
    refine z_ki hw hA (va_runS (As := [.ref (r_ (17 + j3)), .int n_]) (rest := []) hcf (c_X11_toldTroubleTo63_s l cD cy _ r_ S_ hSh hF j3 hj3 n_) (va_cwS 2 hts gX11_words_X11_toldTroubleTo63 rfl rfl rfl (by decide +kernel) ⟨Nat.le_of_ble_eq_true rfl, Nat.le_of_ble_eq_true rfl⟩) (z_preS hK_ hE hw) rfl rfl hl.1 rfl (lv_room (Nat.le_of_ble_eq_true rfl)) dX11_words_10 ⟨Nat.le_of_ble_eq_true rfl, Nat.le_of_ble_eq_true rfl⟩) (fun v9 S10 H_ locs_ hp hw => ?_)
    obtain ⟨rfl, rfl⟩ := hp
    refine lv_istore (lv' := [(5, .int (-3)), (4, .ref (r_ (17 + j3))), (0, .ref (r_ 0)), (1, .int a_), (2, .int n_), (3, .int q_)]) hx hb_ dX11_words_13 hl (by decide) rfl (fun ls hl => ?_)
    refine lv_iload hx hb_ dX11_words_15 (lv_at hl 0 rfl) ?_
    refine lv_if_ne (tgt := 25) hx hb_ dX11_words_17 (by decide) (fun _ => ?_) (fun c_17 => absurd c_17 (by decide))
    refine lv_aload_n hx hb_ dX11_words_25 rfl (lv_at hl 2 rfl) ?_
    refine lv_iload hx hb_ dX11_words_26 (lv_at hl 0 rfl) ?_
    refine z_ki hw hA (va_runV (As := [.int (-3)]) (rest := []) hcf (c_X11_refuseTens l cD cy _ r_ S_ hSh (-3) (by decide) (by decide)) (cwV 1 hts gX11_words_X11_refuseTens rfl rfl rfl (by decide +kernel) ⟨Nat.le_of_ble_eq_true rfl, Nat.le_of_ble_eq_true rfl⟩) (z_preV (k := 11) hK_ hE hw (cL hSh 0) (cK hSh 0) (by decide) rfl) rfl rfl hl.1 rfl (lv_room (Nat.le_of_ble_eq_true rfl)) dX11_words_28 ⟨Nat.le_of_ble_eq_true rfl, Nat.le_of_ble_eq_true rfl⟩) (fun v11 S12 H_ locs_ hp hw => ?_)
    obtain ⟨rfl, f13, rfl⟩ := hp
    refine z_topi (y := (-13)) (by decide) ?_
    exact z_iret (ty := .int) (v := (-13)) hcf hr rfl hlk hw (by first | (simp [q_bad, ha3, hb3]; done) | (simp_all [q_bad]; done)) dX11_words_31

set_option maxHeartbeats 4000000 in
set_option maxRecDepth 100000 in
/-- wrong on an object just made -/
theorem c_X11_wrong (l : Launch) (cD : va_G) (cy : Nat → ClassId) (sz_ : Nat) (r_ : Nat → Nat) (S_ : zS) (hSh : ShC S_ r_) (hF : FrC S_ r_) (a_ : Int32) (n_ : Int32) : Met l yX11_wrong wsX11_wrong ({ frames := 3, cells := 0, slots := 0, locals := 64 } : Room) (va_Pc [.ref (r_ 0), .int a_, .int n_] (zPre cD cy S_ sz_)) (va_Qi (fun (v_ : Int32) (S1 : zS) => v_ = q_bad a_ (-11) (-13)) (zPost cD cy (zAd cy S_ sz_)) (zAd cy S_ sz_)) 0 0 (zAd cy S_ sz_) := by
  refine z_ofW (cc := cX11_wrong) (maxL := 6) (ret := (some .int)) (own := RX11) (QQ := fun A_ => va_Qi (fun (v_ : Int32) (S1 : zS) => v_ = q_bad a_ (-11) (-13)) (zPost cD cy A_) A_) (by decide) rfl rfl (Nat.le_of_ble_eq_true rfl) ?_
  intro p_ e_ s_ m_ args_ below_ meth_ c_ A_ ls hcf hr hlk hnm hK_ hE hw hA hl
  obtain ⟨hx, hb_, hml, hown, hts⟩ := id hcf
  have hl : lv_has ls 6 [(0, .ref (r_ 0)), (1, .int a_), (2, .int n_)] := hl
  refine lv_aload_n hx hb_ dX11_wrong_0 rfl (lv_at hl 0 rfl) ?_
  refine lv_iload_n hx hb_ dX11_wrong_1 rfl (lv_at hl 1 rfl) ?_
  refine z_kq hw hA (va_runV (As := [.int a_]) (rest := []) hcf (c_X11_shelfAt l cD cy _ r_ S_ hSh a_) (cwV 1 hts gX11_wrong_X11_shelfAt rfl rfl rfl (by decide +kernel) ⟨Nat.le_of_ble_eq_true rfl, Nat.le_of_ble_eq_true rfl⟩) (z_preV (k := 11) hK_ hE hw (cL hSh 0) (cK hSh 0) (by decide) rfl) rfl rfl hl.1 rfl (lv_room (Nat.le_of_ble_eq_true rfl)) dX11_wrong_2 ⟨Nat.le_of_ble_eq_true rfl, Nat.le_of_ble_eq_true rfl⟩) (fun v1 S2 H_ locs_ hp hw => ?_)
  obtain ⟨hp, rfl⟩ := hp
  rcases hp with ⟨hs3, rfl⟩ | ⟨⟨ha3, hb3⟩, j3, hj3, ej3, rfl⟩
  · refine lv_astore_nN (lv' := [(3, .null), (0, .ref (r_ 0)), (1, .int a_), (2, .int n_)]) hx hb_ dX11_wrong_5 rfl hl (by decide) rfl (fun ls hl => ?_)
    refine lv_aload_nN hx hb_ dX11_wrong_6 rfl (lv_at hl 0 rfl) ?_
    refine lv_iload_n hx hb_ dX11_wrong_7 rfl (lv_at hl 3 rfl) ?_
    refine z_ki hw hA (va_runS (As := [.null, .int n_]) (rest := []) hcf (c_X11_toldTroubleTo63_n l cD cy _ S_ n_) (va_cwS 2 hts gX11_wrong_X11_toldTroubleTo63 rfl rfl rfl (by decide +kernel) ⟨Nat.le_of_ble_eq_true rfl, Nat.le_of_ble_eq_true rfl⟩) (z_preS hK_ hE hw) rfl rfl hl.1 rfl (lv_room (Nat.le_of_ble_eq_true rfl)) dX11_wrong_8 ⟨Nat.le_of_ble_eq_true rfl, Nat.le_of_ble_eq_true rfl⟩) (fun v4 S5 H_ locs_ hp hw => ?_)
    obtain ⟨rfl, rfl⟩ := hp
    refine lv_istore (lv' := [(4, .int (-1)), (3, .null), (0, .ref (r_ 0)), (1, .int a_), (2, .int n_)]) hx hb_ dX11_wrong_11 hl (by decide) rfl (fun ls hl => ?_)
    refine lv_iload hx hb_ dX11_wrong_13 (lv_at hl 0 rfl) ?_
    refine lv_if_ne (tgt := 22) hx hb_ dX11_wrong_15 (by decide) (fun _ => ?_) (fun c_15 => absurd c_15 (by decide))
    refine lv_aload_n hx hb_ dX11_wrong_22 rfl (lv_at hl 2 rfl) ?_
    refine lv_iload hx hb_ dX11_wrong_23 (lv_at hl 0 rfl) ?_
    refine z_ki hw hA (va_runV (As := [.int (-1)]) (rest := []) hcf (c_X11_refuseTens l cD cy _ r_ S_ hSh (-1) (by decide) (by decide)) (cwV 1 hts gX11_wrong_X11_refuseTens rfl rfl rfl (by decide +kernel) ⟨Nat.le_of_ble_eq_true rfl, Nat.le_of_ble_eq_true rfl⟩) (z_preV (k := 11) hK_ hE hw (cL hSh 0) (cK hSh 0) (by decide) rfl) rfl rfl hl.1 rfl (lv_room (Nat.le_of_ble_eq_true rfl)) dX11_wrong_25 ⟨Nat.le_of_ble_eq_true rfl, Nat.le_of_ble_eq_true rfl⟩) (fun v6 S7 H_ locs_ hp hw => ?_)
    obtain ⟨rfl, f8, rfl⟩ := hp
    refine z_topi (y := (-11)) (by decide) ?_
    exact z_iret (ty := .int) (v := (-11)) hcf hr rfl hlk hw (by first | (simp [q_bad, hs3]; done) | (rcases hs3 with q_ | q_ <;> (simp [q_bad, q_]; done)) | (simp_all [q_bad]; done)) dX11_wrong_28
  · refine lv_astore_n (lv' := [(3, .ref (r_ (17 + j3))), (0, .ref (r_ 0)), (1, .int a_), (2, .int n_)]) hx hb_ dX11_wrong_5 rfl hl (by decide) rfl (fun ls hl => ?_)
    refine lv_aload_n hx hb_ dX11_wrong_6 rfl (lv_at hl 0 rfl) ?_
    refine lv_iload_n hx hb_ dX11_wrong_7 rfl (lv_at hl 3 rfl) ?_
    refine z_ki hw hA (va_runS (As := [.ref (r_ (17 + j3)), .int n_]) (rest := []) hcf (c_X11_toldTroubleTo63_s l cD cy _ r_ S_ hSh hF j3 hj3 n_) (va_cwS 2 hts gX11_wrong_X11_toldTroubleTo63 rfl rfl rfl (by decide +kernel) ⟨Nat.le_of_ble_eq_true rfl, Nat.le_of_ble_eq_true rfl⟩) (z_preS hK_ hE hw) rfl rfl hl.1 rfl (lv_room (Nat.le_of_ble_eq_true rfl)) dX11_wrong_8 ⟨Nat.le_of_ble_eq_true rfl, Nat.le_of_ble_eq_true rfl⟩) (fun v9 S10 H_ locs_ hp hw => ?_)
    obtain ⟨rfl, rfl⟩ := hp
    refine lv_istore (lv' := [(4, .int (-3)), (3, .ref (r_ (17 + j3))), (0, .ref (r_ 0)), (1, .int a_), (2, .int n_)]) hx hb_ dX11_wrong_11 hl (by decide) rfl (fun ls hl => ?_)
    refine lv_iload hx hb_ dX11_wrong_13 (lv_at hl 0 rfl) ?_
    refine lv_if_ne (tgt := 22) hx hb_ dX11_wrong_15 (by decide) (fun _ => ?_) (fun c_15 => absurd c_15 (by decide))
    refine lv_aload_n hx hb_ dX11_wrong_22 rfl (lv_at hl 2 rfl) ?_
    refine lv_iload hx hb_ dX11_wrong_23 (lv_at hl 0 rfl) ?_
    refine z_ki hw hA (va_runV (As := [.int (-3)]) (rest := []) hcf (c_X11_refuseTens l cD cy _ r_ S_ hSh (-3) (by decide) (by decide)) (cwV 1 hts gX11_wrong_X11_refuseTens rfl rfl rfl (by decide +kernel) ⟨Nat.le_of_ble_eq_true rfl, Nat.le_of_ble_eq_true rfl⟩) (z_preV (k := 11) hK_ hE hw (cL hSh 0) (cK hSh 0) (by decide) rfl) rfl rfl hl.1 rfl (lv_room (Nat.le_of_ble_eq_true rfl)) dX11_wrong_25 ⟨Nat.le_of_ble_eq_true rfl, Nat.le_of_ble_eq_true rfl⟩) (fun v11 S12 H_ locs_ hp hw => ?_)
    obtain ⟨rfl, f13, rfl⟩ := hp
    refine z_topi (y := (-13)) (by decide) ?_
    exact z_iret (ty := .int) (v := (-13)) hcf hr rfl hlk hw (by first | (simp [q_bad, ha3, hb3]; done) | (simp_all [q_bad]; done)) dX11_wrong_28

set_option maxHeartbeats 4000000 in
set_option maxRecDepth 100000 in
/-- mend on an object just made -/
theorem c_X11_mend (l : Launch) (cD : va_G) (cy : Nat → ClassId) (sz_ : Nat) (r_ : Nat → Nat) (S_ : zS) (hSh : ShC S_ r_) (hF : FrC S_ r_) (a_ : Int32) (n_ : Int32) : Met l yX11_mend wsX11_mend ({ frames := 3, cells := 0, slots := 0, locals := 64 } : Room) (va_Pc [.ref (r_ 0), .int a_, .int n_] (zPre cD cy S_ sz_)) (va_Qi (fun (v_ : Int32) (S1 : zS) => v_ = q_bad a_ (-1) (-3)) (zPost cD cy (zAd cy S_ sz_)) (zAd cy S_ sz_)) 0 0 (zAd cy S_ sz_) := by
  refine z_ofW (cc := cX11_mend) (maxL := 8) (ret := (some .int)) (own := RX11) (QQ := fun A_ => va_Qi (fun (v_ : Int32) (S1 : zS) => v_ = q_bad a_ (-1) (-3)) (zPost cD cy A_) A_) (by decide) rfl rfl (Nat.le_of_ble_eq_true rfl) ?_
  intro p_ e_ s_ m_ args_ below_ meth_ c_ A_ ls hcf hr hlk hnm hK_ hE hw hA hl
  obtain ⟨hx, hb_, hml, hown, hts⟩ := id hcf
  have hl : lv_has ls 8 [(0, .ref (r_ 0)), (1, .int a_), (2, .int n_)] := hl
  refine lv_aload_n hx hb_ dX11_mend_0 rfl (lv_at hl 0 rfl) ?_
  refine lv_iload_n hx hb_ dX11_mend_1 rfl (lv_at hl 1 rfl) ?_
  refine z_kq hw hA (va_runV (As := [.int a_]) (rest := []) hcf (c_X11_shelfAt l cD cy _ r_ S_ hSh a_) (cwV 1 hts gX11_mend_X11_shelfAt rfl rfl rfl (by decide +kernel) ⟨Nat.le_of_ble_eq_true rfl, Nat.le_of_ble_eq_true rfl⟩) (z_preV (k := 11) hK_ hE hw (cL hSh 0) (cK hSh 0) (by decide) rfl) rfl rfl hl.1 rfl (lv_room (Nat.le_of_ble_eq_true rfl)) dX11_mend_2 ⟨Nat.le_of_ble_eq_true rfl, Nat.le_of_ble_eq_true rfl⟩) (fun v1 S2 H_ locs_ hp hw => ?_)
  obtain ⟨hp, rfl⟩ := hp
  rcases hp with ⟨hs3, rfl⟩ | ⟨⟨ha3, hb3⟩, j3, hj3, ej3, rfl⟩
  · refine lv_astore_nN (lv' := [(3, .null), (0, .ref (r_ 0)), (1, .int a_), (2, .int n_)]) hx hb_ dX11_mend_5 rfl hl (by decide) rfl (fun ls hl => ?_)
    refine lv_aload_nN hx hb_ dX11_mend_6 rfl (lv_at hl 0 rfl) ?_
    refine lv_iload_n hx hb_ dX11_mend_7 rfl (lv_at hl 3 rfl) ?_
    refine z_ki hw hA (va_runS (As := [.null, .int n_]) (rest := []) hcf (c_X11_toldTroubleTo63_n l cD cy _ S_ n_) (va_cwS 2 hts gX11_mend_X11_toldTroubleTo63 rfl rfl rfl (by decide +kernel) ⟨Nat.le_of_ble_eq_true rfl, Nat.le_of_ble_eq_true rfl⟩) (z_preS hK_ hE hw) rfl rfl hl.1 rfl (lv_room (Nat.le_of_ble_eq_true rfl)) dX11_mend_8 ⟨Nat.le_of_ble_eq_true rfl, Nat.le_of_ble_eq_true rfl⟩) (fun v4 S5 H_ locs_ hp hw => ?_)
    obtain ⟨rfl, rfl⟩ := hp
    refine lv_istore (lv' := [(4, .int (-1)), (3, .null), (0, .ref (r_ 0)), (1, .int a_), (2, .int n_)]) hx hb_ dX11_mend_11 hl (by decide) rfl (fun ls hl => ?_)
    refine lv_iload hx hb_ dX11_mend_13 (lv_at hl 0 rfl) ?_
    refine lv_if_ne (tgt := 22) hx hb_ dX11_mend_15 (by decide) (fun _ => ?_) (fun c_15 => absurd c_15 (by decide))
    refine lv_aload_n hx hb_ dX11_mend_22 rfl (lv_at hl 2 rfl) ?_
    refine lv_iload hx hb_ dX11_mend_23 (lv_at hl 0 rfl) ?_
    refine z_ki hw hA (va_runV (As := [.int (-1)]) (rest := []) hcf (c_X11_refuse l cD cy _ r_ S_ hSh (-1) (by decide) (by decide)) (cwV 1 hts gX11_mend_X11_refuse rfl rfl rfl (by decide +kernel) ⟨Nat.le_of_ble_eq_true rfl, Nat.le_of_ble_eq_true rfl⟩) (z_preV (k := 11) hK_ hE hw (cL hSh 0) (cK hSh 0) (by decide) rfl) rfl rfl hl.1 rfl (lv_room (Nat.le_of_ble_eq_true rfl)) dX11_mend_25 ⟨Nat.le_of_ble_eq_true rfl, Nat.le_of_ble_eq_true rfl⟩) (fun v6 S7 H_ locs_ hp hw => ?_)
    obtain ⟨rfl, f8, rfl⟩ := hp
    exact z_iret (ty := .int) (v := (-1)) hcf hr rfl hlk hw (by first | (simp [q_bad, hs3]; done) | (rcases hs3 with q_ | q_ <;> (simp [q_bad, q_]; done)) | (simp_all [q_bad]; done)) dX11_mend_28
  · refine lv_astore_n (lv' := [(3, .ref (r_ (17 + j3))), (0, .ref (r_ 0)), (1, .int a_), (2, .int n_)]) hx hb_ dX11_mend_5 rfl hl (by decide) rfl (fun ls hl => ?_)
    refine lv_aload_n hx hb_ dX11_mend_6 rfl (lv_at hl 0 rfl) ?_
    refine lv_iload_n hx hb_ dX11_mend_7 rfl (lv_at hl 3 rfl) ?_
    refine z_ki hw hA (va_runS (As := [.ref (r_ (17 + j3)), .int n_]) (rest := []) hcf (c_X11_toldTroubleTo63_s l cD cy _ r_ S_ hSh hF j3 hj3 n_) (va_cwS 2 hts gX11_mend_X11_toldTroubleTo63 rfl rfl rfl (by decide +kernel) ⟨Nat.le_of_ble_eq_true rfl, Nat.le_of_ble_eq_true rfl⟩) (z_preS hK_ hE hw) rfl rfl hl.1 rfl (lv_room (Nat.le_of_ble_eq_true rfl)) dX11_mend_8 ⟨Nat.le_of_ble_eq_true rfl, Nat.le_of_ble_eq_true rfl⟩) (fun v9 S10 H_ locs_ hp hw => ?_)
    obtain ⟨rfl, rfl⟩ := hp
    refine lv_istore (lv' := [(4, .int (-3)), (3, .ref (r_ (17 + j3))), (0, .ref (r_ 0)), (1, .int a_), (2, .int n_)]) hx hb_ dX11_mend_11 hl (by decide) rfl (fun ls hl => ?_)
    refine lv_iload hx hb_ dX11_mend_13 (lv_at hl 0 rfl) ?_
    refine lv_if_ne (tgt := 22) hx hb_ dX11_mend_15 (by decide) (fun _ => ?_) (fun c_15 => absurd c_15 (by decide))
    refine lv_aload_n hx hb_ dX11_mend_22 rfl (lv_at hl 2 rfl) ?_
    refine lv_iload hx hb_ dX11_mend_23 (lv_at hl 0 rfl) ?_
    refine z_ki hw hA (va_runV (As := [.int (-3)]) (rest := []) hcf (c_X11_refuse l cD cy _ r_ S_ hSh (-3) (by decide) (by decide)) (cwV 1 hts gX11_mend_X11_refuse rfl rfl rfl (by decide +kernel) ⟨Nat.le_of_ble_eq_true rfl, Nat.le_of_ble_eq_true rfl⟩) (z_preV (k := 11) hK_ hE hw (cL hSh 0) (cK hSh 0) (by decide) rfl) rfl rfl hl.1 rfl (lv_room (Nat.le_of_ble_eq_true rfl)) dX11_mend_25 ⟨Nat.le_of_ble_eq_true rfl, Nat.le_of_ble_eq_true rfl⟩) (fun v11 S12 H_ locs_ hp hw => ?_)
    obtain ⟨rfl, f13, rfl⟩ := hp
    exact z_iret (ty := .int) (v := (-3)) hcf hr rfl hlk hw (by first | (simp [q_bad, ha3, hb3]; done) | (simp_all [q_bad]; done)) dX11_mend_28

set_option maxHeartbeats 4000000 in
set_option maxRecDepth 100000 in
/-- judge on an object just made -/
theorem c_X11_judge (l : Launch) (cD : va_G) (cy : Nat → ClassId) (sz_ : Nat) (r_ : Nat → Nat) (S_ : zS) (hSh : ShC S_ r_) (hF : FrC S_ r_) (t_ : Int32) (a_ : Int32) (n_ : Int32) : Met l yX11_judge wsX11_judge ({ frames := 2, cells := 0, slots := 0, locals := 43 } : Room) (va_Pc [.ref (r_ 0), .int t_, .int a_, .int n_] (zPre cD cy S_ sz_)) (va_Qi (fun (v_ : Int32) (S1 : zS) => v_ = -11) (zPost cD cy (zAd cy S_ sz_)) (zAd cy S_ sz_)) 0 0 (zAd cy S_ sz_) := by
  refine z_ofW (cc := cX11_judge) (maxL := 9) (ret := (some .int)) (own := RX11) (QQ := fun A_ => va_Qi (fun (v_ : Int32) (S1 : zS) => v_ = -11) (zPost cD cy A_) A_) (by decide) rfl rfl (Nat.le_of_ble_eq_true rfl) ?_
  intro p_ e_ s_ m_ args_ below_ meth_ c_ A_ ls hcf hr hlk hnm hK_ hE hw hA hl
  obtain ⟨hx, hb_, hml, hown, hts⟩ := id hcf
  have hl : lv_has ls 9 [(0, .ref (r_ 0)), (1, .int t_), (2, .int a_), (3, .int n_)] := hl
  refine lv_aload_n hx hb_ dX11_judge_0 rfl (lv_at hl 0 rfl) ?_
  refine lv_iload_n hx hb_ dX11_judge_1 rfl (lv_at hl 1 rfl) ?_
  refine z_kq hw hA (va_runV (As := [.int t_]) (rest := []) hcf (c_X11_stripAt l cD cy _ r_ S_ hSh hF.1 t_) (cwV 1 hts gX11_judge_X11_stripAt rfl rfl rfl (by decide +kernel) ⟨Nat.le_of_ble_eq_true rfl, Nat.le_of_ble_eq_true rfl⟩) (z_preV (k := 11) hK_ hE hw (cL hSh 0) (cK hSh 0) (by decide) rfl) rfl rfl hl.1 rfl (lv_room (Nat.le_of_ble_eq_true rfl)) dX11_judge_2 ⟨Nat.le_of_ble_eq_true rfl, Nat.le_of_ble_eq_true rfl⟩) (fun v1 S2 H_ locs_ hp hw => ?_)
  obtain ⟨rfl, rfl⟩ := hp
  refine lv_astoreN (lv' := [(4, .null), (0, .ref (r_ 0)), (1, .int t_), (2, .int a_), (3, .int n_)]) hx hb_ dX11_judge_5 hl (by decide) rfl (fun ls hl => ?_)
  refine lv_aload_n hx hb_ dX11_judge_7 rfl (lv_at hl 1 rfl) ?_
  refine lv_iload_n hx hb_ dX11_judge_8 rfl (lv_at hl 3 rfl) ?_
  refine z_kq hw hA (va_runV (As := [.int a_]) (rest := []) hcf (c_X11_shelfAt l cD cy _ r_ S_ hSh a_) (cwV 1 hts gX11_judge_X11_shelfAt rfl rfl rfl (by decide +kernel) ⟨Nat.le_of_ble_eq_true rfl, Nat.le_of_ble_eq_true rfl⟩) (z_preV (k := 11) hK_ hE hw (cL hSh 0) (cK hSh 0) (by decide) rfl) rfl rfl hl.1 rfl (lv_room (Nat.le_of_ble_eq_true rfl)) dX11_judge_9 ⟨Nat.le_of_ble_eq_true rfl, Nat.le_of_ble_eq_true rfl⟩) (fun v3 S4 H_ locs_ hp hw => ?_)
  obtain ⟨hp, rfl⟩ := hp
  rcases hp with ⟨hs5, rfl⟩ | ⟨⟨ha5, hb5⟩, j5, hj5, ej5, rfl⟩
  · refine lv_astoreN (lv' := [(5, .null), (4, .null), (0, .ref (r_ 0)), (1, .int t_), (2, .int a_), (3, .int n_)]) hx hb_ dX11_judge_12 hl (by decide) rfl (fun ls hl => ?_)
    refine lv_aloadN hx hb_ dX11_judge_14 (lv_at hl 1 rfl) ?_
    refine lv_ifnullN (tgt := 24) hx hb_ dX11_judge_16 (by decide) ?_
    refine lv_aload_n hx hb_ dX11_judge_24 rfl (lv_at hl 2 rfl) ?_
    refine lv_iconst (v := (-1)) hx hb_ dX11_judge_25 (by decide) ?_
    refine z_ki hw hA (va_runV (As := [.int (-1)]) (rest := []) hcf (c_X11_refuseTens l cD cy _ r_ S_ hSh (-1) (by decide) (by decide)) (cwV 1 hts gX11_judge_X11_refuseTens rfl rfl rfl (by decide +kernel) ⟨Nat.le_of_ble_eq_true rfl, Nat.le_of_ble_eq_true rfl⟩) (z_preV (k := 11) hK_ hE hw (cL hSh 0) (cK hSh 0) (by decide) rfl) rfl rfl hl.1 rfl (lv_room (Nat.le_of_ble_eq_true rfl)) dX11_judge_26 ⟨Nat.le_of_ble_eq_true rfl, Nat.le_of_ble_eq_true rfl⟩) (fun v6 S7 H_ locs_ hp hw => ?_)
    obtain ⟨rfl, f8, rfl⟩ := hp
    refine z_topi (y := (-11)) (by decide) ?_
    exact z_iret (ty := .int) (v := (-11)) hcf hr rfl hlk hw (rfl) dX11_judge_29
  · refine lv_astore (lv' := [(5, .ref (r_ (17 + j5))), (4, .null), (0, .ref (r_ 0)), (1, .int t_), (2, .int a_), (3, .int n_)]) hx hb_ dX11_judge_12 hl (by decide) rfl (fun ls hl => ?_)
    refine lv_aloadN hx hb_ dX11_judge_14 (lv_at hl 1 rfl) ?_
    refine lv_ifnullN (tgt := 24) hx hb_ dX11_judge_16 (by decide) ?_
    refine lv_aload_n hx hb_ dX11_judge_24 rfl (lv_at hl 2 rfl) ?_
    refine lv_iconst (v := (-1)) hx hb_ dX11_judge_25 (by decide) ?_
    refine z_ki hw hA (va_runV (As := [.int (-1)]) (rest := []) hcf (c_X11_refuseTens l cD cy _ r_ S_ hSh (-1) (by decide) (by decide)) (cwV 1 hts gX11_judge_X11_refuseTens rfl rfl rfl (by decide +kernel) ⟨Nat.le_of_ble_eq_true rfl, Nat.le_of_ble_eq_true rfl⟩) (z_preV (k := 11) hK_ hE hw (cL hSh 0) (cK hSh 0) (by decide) rfl) rfl rfl hl.1 rfl (lv_room (Nat.le_of_ble_eq_true rfl)) dX11_judge_26 ⟨Nat.le_of_ble_eq_true rfl, Nat.le_of_ble_eq_true rfl⟩) (fun v9 S10 H_ locs_ hp hw => ?_)
    obtain ⟨rfl, f11, rfl⟩ := hp
    refine z_topi (y := (-11)) (by decide) ?_
    exact z_iret (ty := .int) (v := (-11)) hcf hr rfl hlk hw (rfl) dX11_judge_29

set_option maxHeartbeats 4000000 in
set_option maxRecDepth 100000 in
/-- can on an object just made -/
theorem c_X11_can (l : Launch) (cD : va_G) (cy : Nat → ClassId) (sz_ : Nat) (r_ : Nat → Nat) (S_ : zS) (hSh : ShC S_ r_) (hF : FrC S_ r_) (a_ : Int32) (n_ : Int32) : Met l yX11_can wsX11_can ({ frames := 2, cells := 0, slots := 0, locals := 42 } : Room) (va_Pc [.ref (r_ 0), .int a_, .int n_] (zPre cD cy S_ sz_)) (va_Qi (fun (v_ : Int32) (S1 : zS) => v_ = q_bad a_ (-1) (-3)) (zPost cD cy (zAd cy S_ sz_)) (zAd cy S_ sz_)) 0 0 (zAd cy S_ sz_) := by
  refine z_ofW (cc := cX11_can) (maxL := 8) (ret := (some .int)) (own := RX11) (QQ := fun A_ => va_Qi (fun (v_ : Int32) (S1 : zS) => v_ = q_bad a_ (-1) (-3)) (zPost cD cy A_) A_) (by decide) rfl rfl (Nat.le_of_ble_eq_true rfl) ?_
  intro p_ e_ s_ m_ args_ below_ meth_ c_ A_ ls hcf hr hlk hnm hK_ hE hw hA hl
  obtain ⟨hx, hb_, hml, hown, hts⟩ := id hcf
  have hl : lv_has ls 8 [(0, .ref (r_ 0)), (1, .int a_), (2, .int n_)] := hl
  refine lv_aload_n hx hb_ dX11_can_0 rfl (lv_at hl 0 rfl) ?_
  refine lv_iload_n hx hb_ dX11_can_1 rfl (lv_at hl 1 rfl) ?_
  refine z_kq hw hA (va_runV (As := [.int a_]) (rest := []) hcf (c_X11_shelfAt l cD cy _ r_ S_ hSh a_) (cwV 1 hts gX11_can_X11_shelfAt rfl rfl rfl (by decide +kernel) ⟨Nat.le_of_ble_eq_true rfl, Nat.le_of_ble_eq_true rfl⟩) (z_preV (k := 11) hK_ hE hw (cL hSh 0) (cK hSh 0) (by decide) rfl) rfl rfl hl.1 rfl (lv_room (Nat.le_of_ble_eq_true rfl)) dX11_can_2 ⟨Nat.le_of_ble_eq_true rfl, Nat.le_of_ble_eq_true rfl⟩) (fun v1 S2 H_ locs_ hp hw => ?_)
  obtain ⟨hp, rfl⟩ := hp
  rcases hp with ⟨hs3, rfl⟩ | ⟨⟨ha3, hb3⟩, j3, hj3, ej3, rfl⟩
  · refine lv_astore_nN (lv' := [(3, .null), (0, .ref (r_ 0)), (1, .int a_), (2, .int n_)]) hx hb_ dX11_can_5 rfl hl (by decide) rfl (fun ls hl => ?_)
    refine lv_aload_nN hx hb_ dX11_can_6 rfl (lv_at hl 0 rfl) ?_
    refine lv_iload_n hx hb_ dX11_can_7 rfl (lv_at hl 3 rfl) ?_
    refine z_ki hw hA (va_runS (As := [.null, .int n_]) (rest := []) hcf (c_X11_toldTrouble_n l cD cy _ S_ n_) (va_cwS 2 hts gX11_can_X11_toldTrouble rfl rfl rfl (by decide +kernel) ⟨Nat.le_of_ble_eq_true rfl, Nat.le_of_ble_eq_true rfl⟩) (z_preS hK_ hE hw) rfl rfl hl.1 rfl (lv_room (Nat.le_of_ble_eq_true rfl)) dX11_can_8 ⟨Nat.le_of_ble_eq_true rfl, Nat.le_of_ble_eq_true rfl⟩) (fun v4 S5 H_ locs_ hp hw => ?_)
    obtain ⟨rfl, rfl⟩ := hp
    refine lv_istore (lv' := [(4, .int (-1)), (3, .null), (0, .ref (r_ 0)), (1, .int a_), (2, .int n_)]) hx hb_ dX11_can_11 hl (by decide) rfl (fun ls hl => ?_)
    refine lv_iload hx hb_ dX11_can_13 (lv_at hl 0 rfl) ?_
    refine lv_if_ne (tgt := 33) hx hb_ dX11_can_15 (by decide) (fun _ => ?_) (fun c_15 => absurd c_15 (by decide))
    refine lv_iload hx hb_ dX11_can_33 (lv_at hl 0 rfl) ?_
    refine lv_if_ne (tgt := 42) hx hb_ dX11_can_35 (by decide) (fun _ => ?_) (fun c_35 => absurd c_35 (by decide))
    refine lv_aload_n hx hb_ dX11_can_42 rfl (lv_at hl 2 rfl) ?_
    refine lv_iload hx hb_ dX11_can_43 (lv_at hl 0 rfl) ?_
    refine z_ki hw hA (va_runV (As := [.int (-1)]) (rest := []) hcf (c_X11_refuse l cD cy _ r_ S_ hSh (-1) (by decide) (by decide)) (cwV 1 hts gX11_can_X11_refuse rfl rfl rfl (by decide +kernel) ⟨Nat.le_of_ble_eq_true rfl, Nat.le_of_ble_eq_true rfl⟩) (z_preV (k := 11) hK_ hE hw (cL hSh 0) (cK hSh 0) (by decide) rfl) rfl rfl hl.1 rfl (lv_room (Nat.le_of_ble_eq_true rfl)) dX11_can_45 ⟨Nat.le_of_ble_eq_true rfl, Nat.le_of_ble_eq_true rfl⟩) (fun v6 S7 H_ locs_ hp hw => ?_)
    obtain ⟨rfl, f8, rfl⟩ := hp
    exact z_iret (ty := .int) (v := (-1)) hcf hr rfl hlk hw (by first | (simp [q_bad, hs3]; done) | (rcases hs3 with q_ | q_ <;> (simp [q_bad, q_]; done)) | (simp_all [q_bad]; done)) dX11_can_48
  · refine lv_astore_n (lv' := [(3, .ref (r_ (17 + j3))), (0, .ref (r_ 0)), (1, .int a_), (2, .int n_)]) hx hb_ dX11_can_5 rfl hl (by decide) rfl (fun ls hl => ?_)
    refine lv_aload_n hx hb_ dX11_can_6 rfl (lv_at hl 0 rfl) ?_
    refine lv_iload_n hx hb_ dX11_can_7 rfl (lv_at hl 3 rfl) ?_
    refine z_ki hw hA (va_runS (As := [.ref (r_ (17 + j3)), .int n_]) (rest := []) hcf (c_X11_toldTrouble_s l cD cy _ r_ S_ hSh hF j3 hj3 n_) (va_cwS 2 hts gX11_can_X11_toldTrouble rfl rfl rfl (by decide +kernel) ⟨Nat.le_of_ble_eq_true rfl, Nat.le_of_ble_eq_true rfl⟩) (z_preS hK_ hE hw) rfl rfl hl.1 rfl (lv_room (Nat.le_of_ble_eq_true rfl)) dX11_can_8 ⟨Nat.le_of_ble_eq_true rfl, Nat.le_of_ble_eq_true rfl⟩) (fun v9 S10 H_ locs_ hp hw => ?_)
    obtain ⟨rfl, rfl⟩ := hp
    refine lv_istore (lv' := [(4, .int (-3)), (3, .ref (r_ (17 + j3))), (0, .ref (r_ 0)), (1, .int a_), (2, .int n_)]) hx hb_ dX11_can_11 hl (by decide) rfl (fun ls hl => ?_)
    refine lv_iload hx hb_ dX11_can_13 (lv_at hl 0 rfl) ?_
    refine lv_if_ne (tgt := 33) hx hb_ dX11_can_15 (by decide) (fun _ => ?_) (fun c_15 => absurd c_15 (by decide))
    refine lv_iload hx hb_ dX11_can_33 (lv_at hl 0 rfl) ?_
    refine lv_if_ne (tgt := 42) hx hb_ dX11_can_35 (by decide) (fun _ => ?_) (fun c_35 => absurd c_35 (by decide))
    refine lv_aload_n hx hb_ dX11_can_42 rfl (lv_at hl 2 rfl) ?_
    refine lv_iload hx hb_ dX11_can_43 (lv_at hl 0 rfl) ?_
    refine z_ki hw hA (va_runV (As := [.int (-3)]) (rest := []) hcf (c_X11_refuse l cD cy _ r_ S_ hSh (-3) (by decide) (by decide)) (cwV 1 hts gX11_can_X11_refuse rfl rfl rfl (by decide +kernel) ⟨Nat.le_of_ble_eq_true rfl, Nat.le_of_ble_eq_true rfl⟩) (z_preV (k := 11) hK_ hE hw (cL hSh 0) (cK hSh 0) (by decide) rfl) rfl rfl hl.1 rfl (lv_room (Nat.le_of_ble_eq_true rfl)) dX11_can_45 ⟨Nat.le_of_ble_eq_true rfl, Nat.le_of_ble_eq_true rfl⟩) (fun v11 S12 H_ locs_ hp hw => ?_)
    obtain ⟨rfl, f13, rfl⟩ := hp
    exact z_iret (ty := .int) (v := (-3)) hcf hr rfl hlk hw (by first | (simp [q_bad, ha3, hb3]; done) | (simp_all [q_bad]; done)) dX11_can_48

set_option maxHeartbeats 4000000 in
set_option maxRecDepth 100000 in
/-- drop on an object just made -/
theorem c_X11_drop (l : Launch) (cD : va_G) (cy : Nat → ClassId) (sz_ : Nat) (r_ : Nat → Nat) (S_ : zS) (hSh : ShC S_ r_) (hF : FrC S_ r_) : Met l yX11_drop wsX11_drop ({ frames := 1, cells := 0, slots := 0, locals := 22 } : Room) (va_Pc [.ref (r_ 0)] (zPre cD cy S_ sz_)) (va_Qi (fun (v_ : Int32) (S1 : zS) => v_ = -6) (zPost cD cy (zAd cy S_ sz_)) (zAd cy S_ sz_)) 0 0 (zAd cy S_ sz_) := by
  refine z_ofW (cc := cX11_drop) (maxL := 1) (ret := (some .int)) (own := RX11) (QQ := fun A_ => va_Qi (fun (v_ : Int32) (S1 : zS) => v_ = -6) (zPost cD cy A_) A_) (by decide) rfl rfl (Nat.le_of_ble_eq_true rfl) ?_
  intro p_ e_ s_ m_ args_ below_ meth_ c_ A_ ls hcf hr hlk hnm hK_ hE hw hA hl
  obtain ⟨hx, hb_, hml, hown, hts⟩ := id hcf
  have hin11 : ∀ w_ ∈ wsX110, w_ ∈ wsX11_drop := fun w_ h_ => (List.mem_cons_of_mem _ (List.mem_append_left _ (List.mem_append_right _ h_)))
  have hl : lv_has ls 1 [(0, .ref (r_ 0))] := hl
  refine lv_aload_n hx hb_ dX11_drop_0 rfl (lv_at hl 0 rfl) ?_
  refine z_get (k := 11) (i := 10) (j := 1110) (v := .int 0) (ref := "FoldedInHalf") (C := RX11) (T := TX11) (N := 13) hcf hK_ hw hin11 (cL hSh 0) (cK hSh 0) rfl (by decide) (by decide) rfl rfl (congrArg Value.int hF.1) (List.mem_of_getElem? (i := 1) rfl) (fun _ h_ => h_) dX11_drop_1 ?_
  refine lv_if_ne (tgt := 14) hx hb_ dX11_drop_4 (by decide) (fun c_4 => absurd c_4 (by decide)) (fun _ => ?_)
  refine lv_aload_n hx hb_ dX11_drop_7 rfl (lv_at hl 0 rfl) ?_
  refine lv_bipush (v := (-6)) hx hb_ dX11_drop_8 (by decide) ?_
  refine z_ki hw hA (va_runV (As := [.int (-6)]) (rest := []) hcf (c_X11_refuse l cD cy _ r_ S_ hSh (-6) (by decide) (by decide)) (cwV 1 hts gX11_drop_X11_refuse rfl rfl rfl (by decide +kernel) ⟨Nat.le_of_ble_eq_true rfl, Nat.le_of_ble_eq_true rfl⟩) (z_preV (k := 11) hK_ hE hw (cL hSh 0) (cK hSh 0) (by decide) rfl) rfl rfl hl.1 rfl (lv_room (Nat.le_of_ble_eq_true rfl)) dX11_drop_10 ⟨Nat.le_of_ble_eq_true rfl, Nat.le_of_ble_eq_true rfl⟩) (fun v1 S2 H_ locs_ hp hw => ?_)
  obtain ⟨rfl, f3_, rfl⟩ := hp
  exact z_iret (ty := .int) (v := (-6)) hcf hr rfl hlk hw (rfl) dX11_drop_13

set_option maxHeartbeats 4000000 in
set_option maxRecDepth 100000 in
/-- act on an object just made -/
theorem c_X11_act (l : Launch) (cD : va_G) (cy : Nat → ClassId) (sz_ : Nat) (r_ : Nat → Nat) (S_ : zS) (hSh : ShC S_ r_) (hF : FrC S_ r_) (t_ : Int32) (k_ : Int32) (x_ : Int32) : Met l yX11_act wsX11_act ({ frames := 1, cells := 0, slots := 0, locals := 21 } : Room) (va_Pc [.ref (r_ 0), .int t_, .int k_, .int x_] (zPre cD cy S_ sz_)) (va_Qi (fun (v_ : Int32) (S1 : zS) => v_ = 0) (zPost cD cy (zAd cy S_ sz_)) (zAd cy S_ sz_)) 0 0 (zAd cy S_ sz_) := by
  refine z_ofW (cc := cX11_act) (maxL := 5) (ret := (some .int)) (own := RX11) (QQ := fun A_ => va_Qi (fun (v_ : Int32) (S1 : zS) => v_ = 0) (zPost cD cy A_) A_) (by decide) rfl rfl (Nat.le_of_ble_eq_true rfl) ?_
  intro p_ e_ s_ m_ args_ below_ meth_ c_ A_ ls hcf hr hlk hnm hK_ hE hw hA hl
  obtain ⟨hx, hb_, hml, hown, hts⟩ := id hcf
  have hin11 : ∀ w_ ∈ wsX110, w_ ∈ wsX11_act := fun w_ h_ => (List.mem_cons_of_mem _ (List.mem_append_left _ (List.mem_append_left _ (List.mem_append_left _ (List.mem_append_left _ (List.mem_append_left _ (List.mem_append_left _ (List.mem_append_left _ (List.mem_append_right _ h_)))))))))
  have hl : lv_has ls 5 [(0, .ref (r_ 0)), (1, .int t_), (2, .int k_), (3, .int x_)] := hl
  refine lv_aload_n hx hb_ dX11_act_0 rfl (lv_at hl 0 rfl) ?_
  refine lv_iconst (v := 0) hx hb_ dX11_act_1 (by decide) ?_
  refine z_putI (k := 11) (i := 12) (j := 1112) (x := 0) (v := .int 0) (ty := .int) (ref := "FoldedInHalf") (C := RX11) (T := TX11) (N := 13) tyX11 hcf hK_ hw hin11 tyX11_ok nmX11 (cL hSh 0) (cK hSh 0) rfl (by decide) (by decide) rfl rfl (List.mem_of_getElem? (i := 1) rfl) (fun _ h_ => h_) rfl rfl (by decide +kernel) rfl rfl dX11_act_2 (fun H_ locs_ hw => ?_)
  refine lv_aload_n hx hb_ dX11_act_5 rfl (lv_at hl 0 rfl) ?_
  refine lv_iload_n hx hb_ dX11_act_6 rfl (lv_at hl 1 rfl) ?_
  refine z_kq hw hA (va_runV (As := [.int t_]) (rest := []) hcf (c_X11_stripAt l cD cy _ r_ (zsI S_ 1112 (r_ 0) 0) hSh hF.1 t_) (cwV 1 hts gX11_act_X11_stripAt rfl rfl rfl (by decide +kernel) ⟨Nat.le_of_ble_eq_true rfl, Nat.le_of_ble_eq_true rfl⟩) (z_preV (k := 11) hK_ hE hw (cL hSh 0) (cK hSh 0) (by decide) rfl) rfl rfl hl.1 rfl (lv_room (Nat.le_of_ble_eq_true rfl)) dX11_act_7 ⟨Nat.le_of_ble_eq_true rfl, Nat.le_of_ble_eq_true rfl⟩) (fun v1 S2 H_ locs_ hp hw => ?_)
  obtain ⟨rfl, rfl⟩ := hp
  refine lv_astoreN (lv' := [(4, .null), (0, .ref (r_ 0)), (1, .int t_), (2, .int k_), (3, .int x_)]) hx hb_ dX11_act_10 hl (by decide) rfl (fun ls hl => ?_)
  refine lv_aloadN hx hb_ dX11_act_12 (lv_at hl 0 rfl) ?_
  refine lv_ifnonnullN hx hb_ dX11_act_14 ?_
  refine lv_iconst (v := 0) hx hb_ dX11_act_17 (by decide) ?_
  exact z_iret (ty := .int) (v := 0) hcf hr rfl hlk hw (rfl) dX11_act_18

set_option maxHeartbeats 4000000 in
set_option maxRecDepth 100000 in
/-- trace on an object just made -/
theorem c_X11_trace (l : Launch) (cD : va_G) (cy : Nat → ClassId) (sz_ : Nat) (r_ : Nat → Nat) (S_ : zS) (hSh : ShC S_ r_) (hF : FrC S_ r_) (i_ : Int32) : Met l yX11_trace wsX11_trace ({ frames := 0, cells := 0, slots := 0, locals := 0 } : Room) (va_Pc [.ref (r_ 0), .int i_] (zPre cD cy S_ sz_)) (va_Qi (fun (v_ : Int32) (S1 : zS) => v_ = -1) (zPost cD cy (zAd cy S_ sz_)) (zAd cy S_ sz_)) 0 0 (zAd cy S_ sz_) := by
  refine z_ofW (cc := cX11_trace) (maxL := 2) (ret := (some .int)) (own := RX11) (QQ := fun A_ => va_Qi (fun (v_ : Int32) (S1 : zS) => v_ = -1) (zPost cD cy A_) A_) (by decide) rfl rfl (Nat.le_of_ble_eq_true rfl) ?_
  intro p_ e_ s_ m_ args_ below_ meth_ c_ A_ ls hcf hr hlk hnm hK_ hE hw hA hl
  obtain ⟨hx, hb_, hml, hown, hts⟩ := id hcf
  have hin11 : ∀ w_ ∈ wsX110, w_ ∈ wsX11_trace := fun w_ h_ => (List.mem_cons_of_mem _ (List.mem_append_right _ h_))
  have hl : lv_has ls 2 [(0, .ref (r_ 0)), (1, .int i_)] := hl
  refine lv_iload_n hx hb_ dX11_trace_0 rfl (lv_at hl 1 rfl) ?_
  refine lv_if_lt (tgt := 27) hx hb_ dX11_trace_1 (by decide) (fun c_1 => ?_) (fun c_1 => ?_)
  · refine lv_iconst (v := (-1)) hx hb_ dX11_trace_27 (by decide) ?_
    exact z_iret (ty := .int) (v := (-1)) hcf hr rfl hlk hw (rfl) dX11_trace_28
  · refine lv_iload_n hx hb_ dX11_trace_4 rfl (lv_at hl 1 rfl) ?_
    refine lv_aload_n hx hb_ dX11_trace_5 rfl (lv_at hl 0 rfl) ?_
    refine z_get (k := 11) (i := 12) (j := 1112) (v := .int 0) (ref := "FoldedInHalf") (C := RX11) (T := TX11) (N := 13) hcf hK_ hw hin11 (cL hSh 0) (cK hSh 0) rfl (by decide) (by decide) rfl rfl (congrArg Value.int hF.2.2.1) (List.mem_of_getElem? (i := 1) rfl) (fun _ h_ => h_) dX11_trace_6 ?_
    refine lv_icmp_ge (tgt := 27) hx hb_ dX11_trace_9 (by decide) (fun c_9 => ?_) (fun c_9 => absurd (zx_nlt c_1) c_9)
    refine lv_iconst (v := (-1)) hx hb_ dX11_trace_27 (by decide) ?_
    exact z_iret (ty := .int) (v := (-1)) hcf hr rfl hlk hw (rfl) dX11_trace_28

set_option maxHeartbeats 4000000 in
set_option maxRecDepth 100000 in
/-- restore on an object just made -/
theorem c_X11_restore (l : Launch) (cD : va_G) (cy : Nat → ClassId) (sz_ : Nat) (r_ : Nat → Nat) (S_ : zS) (hSh : ShC S_ r_) (hF : FrC S_ r_) : Met l yX11_restore wsX11_restore ({ frames := 1, cells := 0, slots := 0, locals := 22 } : Room) (va_Pc [.ref (r_ 0)] (zPre cD cy S_ sz_)) (va_Qi (fun (v_ : Int32) (S1 : zS) => v_ = -6) (zPost cD cy (zAd cy S_ sz_)) (zAd cy S_ sz_)) 0 0 (zAd cy S_ sz_) := by
  refine z_ofW (cc := cX11_restore) (maxL := 1) (ret := (some .int)) (own := RX11) (QQ := fun A_ => va_Qi (fun (v_ : Int32) (S1 : zS) => v_ = -6) (zPost cD cy A_) A_) (by decide) rfl rfl (Nat.le_of_ble_eq_true rfl) ?_
  intro p_ e_ s_ m_ args_ below_ meth_ c_ A_ ls hcf hr hlk hnm hK_ hE hw hA hl
  obtain ⟨hx, hb_, hml, hown, hts⟩ := id hcf
  have hin11 : ∀ w_ ∈ wsX110, w_ ∈ wsX11_restore := fun w_ h_ => (List.mem_cons_of_mem _ (List.mem_append_left _ (List.mem_append_right _ h_)))
  have hl : lv_has ls 1 [(0, .ref (r_ 0))] := hl
  refine lv_aload_n hx hb_ dX11_restore_0 rfl (lv_at hl 0 rfl) ?_
  refine z_get (k := 11) (i := 11) (j := 1111) (v := .int (-1)) (ref := "FoldedInHalf") (C := RX11) (T := TX11) (N := 13) hcf hK_ hw hin11 (cL hSh 0) (cK hSh 0) rfl (by decide) (by decide) rfl rfl (congrArg Value.int hF.2.1) (List.mem_of_getElem? (i := 1) rfl) (fun _ h_ => h_) dX11_restore_1 ?_
  refine lv_iconst (v := (-1)) hx hb_ dX11_restore_4 (by decide) ?_
  refine lv_icmp_ne (tgt := 15) hx hb_ dX11_restore_5 (by decide) (fun c_5 => absurd c_5 (by decide)) (fun _ => ?_)
  refine lv_aload_n hx hb_ dX11_restore_8 rfl (lv_at hl 0 rfl) ?_
  refine lv_bipush (v := (-6)) hx hb_ dX11_restore_9 (by decide) ?_
  refine z_ki hw hA (va_runV (As := [.int (-6)]) (rest := []) hcf (c_X11_refuse l cD cy _ r_ S_ hSh (-6) (by decide) (by decide)) (cwV 1 hts gX11_restore_X11_refuse rfl rfl rfl (by decide +kernel) ⟨Nat.le_of_ble_eq_true rfl, Nat.le_of_ble_eq_true rfl⟩) (z_preV (k := 11) hK_ hE hw (cL hSh 0) (cK hSh 0) (by decide) rfl) rfl rfl hl.1 rfl (lv_room (Nat.le_of_ble_eq_true rfl)) dX11_restore_11 ⟨Nat.le_of_ble_eq_true rfl, Nat.le_of_ble_eq_true rfl⟩) (fun v1 S2 H_ locs_ hp hw => ?_)
  obtain ⟨rfl, f3_, rfl⟩ := hp
  exact z_iret (ty := .int) (v := (-6)) hcf hr rfl hlk hw (rfl) dX11_restore_14

set_option maxHeartbeats 4000000 in
set_option maxRecDepth 100000 in
/-- status on an object just made -/
theorem c_X11_status (l : Launch) (cD : va_G) (cy : Nat → ClassId) (sz_ : Nat) (r_ : Nat → Nat) (S_ : zS) (hSh : ShC S_ r_) (hF : FrC S_ r_) (x_ : Int32) : Met l yX11_status wsX11_status ({ frames := 0, cells := 0, slots := 0, locals := 0 } : Room) (va_Pc [.ref (r_ 0), .int x_] (zPre cD cy S_ sz_)) (va_Qi (fun (v_ : Int32) (S1 : zS) => v_ = q_status x_) (zPost cD cy (zAd cy S_ sz_)) (zAd cy S_ sz_)) 0 0 (zAd cy S_ sz_) := by
  refine z_ofW (cc := cX11_status) (maxL := 6) (ret := (some .int)) (own := RX11) (QQ := fun A_ => va_Qi (fun (v_ : Int32) (S1 : zS) => v_ = q_status x_) (zPost cD cy A_) A_) (by decide) rfl rfl (Nat.le_of_ble_eq_true rfl) ?_
  intro p_ e_ s_ m_ args_ below_ meth_ c_ A_ ls hcf hr hlk hnm hK_ hE hw hA hl
  obtain ⟨hx, hb_, hml, hown, hts⟩ := id hcf
  have hin11 : ∀ w_ ∈ wsX110, w_ ∈ wsX11_status := fun w_ h_ => (List.mem_cons_of_mem _ (List.mem_append_left _ (List.mem_append_left _ (List.mem_append_left _ (List.mem_append_left _ (List.mem_append_left _ (List.mem_append_left _ (List.mem_append_left _ (List.mem_append_right _ h_)))))))))
  have hl : lv_has ls 6 [(0, .ref (r_ 0)), (1, .int x_)] := hl
  refine lv_iload_n hx hb_ dX11_status_0 rfl (lv_at hl 1 rfl) ?_
  refine lv_bipush (v := 11) hx hb_ dX11_status_1 (by decide) ?_
  refine lv_icmp_lt (tgt := 22) hx hb_ dX11_status_3 (by decide) (fun c_3 => ?_) (fun c_3 => ?_)
  · refine lv_iconst (v := 0) hx hb_ dX11_status_22 (by decide) ?_
    refine lv_istore_n (lv' := [(2, .int 0), (0, .ref (r_ 0)), (1, .int x_)]) hx hb_ dX11_status_23 rfl hl (by decide) rfl (fun ls hl => ?_)
    refine lv_iconst (v := 0) hx hb_ dX11_status_24 (by decide) ?_
    refine lv_istore_n (lv' := [(3, .int 0), (2, .int 0), (0, .ref (r_ 0)), (1, .int x_)]) hx hb_ dX11_status_25 rfl hl (by decide) rfl (fun ls hl => ?_)
    refine lv_iconst (v := 0) hx hb_ dX11_status_26 (by decide) ?_
    refine lv_istore (lv' := [(4, .int 0), (3, .int 0), (2, .int 0), (0, .ref (r_ 0)), (1, .int x_)]) hx hb_ dX11_status_27 hl (by decide) rfl (fun ls hl => ?_)
    refine lv_iload hx hb_ dX11_status_29 (lv_at hl 0 rfl) ?_
    refine lv_aload_n hx hb_ dX11_status_31 rfl (lv_at hl 3 rfl) ?_
    refine z_get (k := 11) (i := 10) (j := 1110) (v := .int 0) (ref := "FoldedInHalf") (C := RX11) (T := TX11) (N := 13) hcf hK_ hw hin11 (cL hSh 0) (cK hSh 0) rfl (by decide) (by decide) rfl rfl (congrArg Value.int hF.1) (List.mem_of_getElem? (i := 2) rfl) (fun _ h_ => h_) dX11_status_32 ?_
    refine lv_icmp_ge (tgt := 76) hx hb_ dX11_status_35 (by decide) (fun _ => ?_) (fun c_35 => absurd c_35 (by decide))
    refine lv_iload_n hx hb_ dX11_status_76 rfl (lv_at hl 4 rfl) ?_
    by_cases k_77_0 : x_ = 0
    · refine z_topi (y := 0) k_77_0 ?_
      refine lv_tableIn (off := 31) (tgt := 108) hx hb_ dX11_status_77 (by decide) (by decide) (by decide) (by decide) ?_
      refine lv_aload_n hx hb_ dX11_status_108 rfl (lv_at hl 3 rfl) ?_
      refine z_get (k := 11) (i := 10) (j := 1110) (v := .int 0) (ref := "FoldedInHalf") (C := RX11) (T := TX11) (N := 13) hcf hK_ hw hin11 (cL hSh 0) (cK hSh 0) rfl (by decide) (by decide) rfl rfl (congrArg Value.int hF.1) (List.mem_of_getElem? (i := 2) rfl) (fun _ h_ => h_) dX11_status_109 ?_
      exact z_iret (ty := .int) (v := 0) hcf hr rfl hlk hw (by first | (simp [q_status, c_3, k_77_0]; done) | (simp_all [q_status]; done)) dX11_status_112
    by_cases k_77_1 : x_ = 1
    · refine z_topi (y := 1) k_77_1 ?_
      refine lv_tableIn (off := 36) (tgt := 113) hx hb_ dX11_status_77 (by decide) (by decide) (by decide) (by decide) ?_
      refine lv_iload_n hx hb_ dX11_status_113 rfl (lv_at hl 2 rfl) ?_
      exact z_iret (ty := .int) (v := 0) hcf hr rfl hlk hw (by first | (simp [q_status, c_3, k_77_1]; done) | (simp_all [q_status]; done)) dX11_status_114
    by_cases k_77_2 : x_ = 2
    · refine z_topi (y := 2) k_77_2 ?_
      refine lv_tableIn (off := 38) (tgt := 115) hx hb_ dX11_status_77 (by decide) (by decide) (by decide) (by decide) ?_
      refine lv_iload_n hx hb_ dX11_status_115 rfl (lv_at hl 1 rfl) ?_
      exact z_iret (ty := .int) (v := 0) hcf hr rfl hlk hw (by first | (simp [q_status, c_3, k_77_2]; done) | (simp_all [q_status]; done)) dX11_status_116
    by_cases k_77_3 : x_ = 3
    · refine z_topi (y := 3) k_77_3 ?_
      refine lv_tableIn (off := 40) (tgt := 117) hx hb_ dX11_status_77 (by decide) (by decide) (by decide) (by decide) ?_
      refine lv_aload_n hx hb_ dX11_status_117 rfl (lv_at hl 3 rfl) ?_
      refine z_get (k := 11) (i := 12) (j := 1112) (v := .int 0) (ref := "FoldedInHalf") (C := RX11) (T := TX11) (N := 13) hcf hK_ hw hin11 (cL hSh 0) (cK hSh 0) rfl (by decide) (by decide) rfl rfl (congrArg Value.int hF.2.2.1) (List.mem_of_getElem? (i := 5) rfl) (fun _ h_ => h_) dX11_status_118 ?_
      exact z_iret (ty := .int) (v := 0) hcf hr rfl hlk hw (by first | (simp [q_status, c_3, k_77_3]; done) | (simp_all [q_status]; done)) dX11_status_121
    have hout : x_.toInt < 0 ∨ 3 < x_.toInt := by
      have q0 := lv_neT k_77_0 (a := 0) (by decide)
      have q1 := lv_neT k_77_1 (a := 1) (by decide)
      have q2 := lv_neT k_77_2 (a := 2) (by decide)
      have q3 := lv_neT k_77_3 (a := 3) (by decide)
      omega
    refine lv_tableOut (tgt := 122) hx hb_ dX11_status_77 hout (by decide) ?_
    refine lv_iconst (v := (-1)) hx hb_ dX11_status_122 (by decide) ?_
    exact z_iret (ty := .int) (v := (-1)) hcf hr rfl hlk hw (by first | (simp [q_status, c_3, k_77_0, k_77_1, k_77_2, k_77_3]; done) | (simp_all [q_status]; done)) dX11_status_123
  · refine lv_iload_n hx hb_ dX11_status_6 rfl (lv_at hl 1 rfl) ?_
    refine lv_bipush (v := 17) hx hb_ dX11_status_7 (by decide) ?_
    refine lv_icmp_gt (tgt := 22) hx hb_ dX11_status_9 (by decide) (fun c_9 => ?_) (fun c_9 => ?_)
    · refine lv_iconst (v := 0) hx hb_ dX11_status_22 (by decide) ?_
      refine lv_istore_n (lv' := [(2, .int 0), (0, .ref (r_ 0)), (1, .int x_)]) hx hb_ dX11_status_23 rfl hl (by decide) rfl (fun ls hl => ?_)
      refine lv_iconst (v := 0) hx hb_ dX11_status_24 (by decide) ?_
      refine lv_istore_n (lv' := [(3, .int 0), (2, .int 0), (0, .ref (r_ 0)), (1, .int x_)]) hx hb_ dX11_status_25 rfl hl (by decide) rfl (fun ls hl => ?_)
      refine lv_iconst (v := 0) hx hb_ dX11_status_26 (by decide) ?_
      refine lv_istore (lv' := [(4, .int 0), (3, .int 0), (2, .int 0), (0, .ref (r_ 0)), (1, .int x_)]) hx hb_ dX11_status_27 hl (by decide) rfl (fun ls hl => ?_)
      refine lv_iload hx hb_ dX11_status_29 (lv_at hl 0 rfl) ?_
      refine lv_aload_n hx hb_ dX11_status_31 rfl (lv_at hl 3 rfl) ?_
      refine z_get (k := 11) (i := 10) (j := 1110) (v := .int 0) (ref := "FoldedInHalf") (C := RX11) (T := TX11) (N := 13) hcf hK_ hw hin11 (cL hSh 0) (cK hSh 0) rfl (by decide) (by decide) rfl rfl (congrArg Value.int hF.1) (List.mem_of_getElem? (i := 2) rfl) (fun _ h_ => h_) dX11_status_32 ?_
      refine lv_icmp_ge (tgt := 76) hx hb_ dX11_status_35 (by decide) (fun _ => ?_) (fun c_35 => absurd c_35 (by decide))
      refine lv_iload_n hx hb_ dX11_status_76 rfl (lv_at hl 4 rfl) ?_
      by_cases k_77_0 : x_ = 0
      · refine z_topi (y := 0) k_77_0 ?_
        refine lv_tableIn (off := 31) (tgt := 108) hx hb_ dX11_status_77 (by decide) (by decide) (by decide) (by decide) ?_
        refine lv_aload_n hx hb_ dX11_status_108 rfl (lv_at hl 3 rfl) ?_
        refine z_get (k := 11) (i := 10) (j := 1110) (v := .int 0) (ref := "FoldedInHalf") (C := RX11) (T := TX11) (N := 13) hcf hK_ hw hin11 (cL hSh 0) (cK hSh 0) rfl (by decide) (by decide) rfl rfl (congrArg Value.int hF.1) (List.mem_of_getElem? (i := 2) rfl) (fun _ h_ => h_) dX11_status_109 ?_
        exact z_iret (ty := .int) (v := 0) hcf hr rfl hlk hw (by first | (simp [q_status, c_3, c_9, k_77_0]; done) | (simp_all [q_status]; done)) dX11_status_112
      by_cases k_77_1 : x_ = 1
      · refine z_topi (y := 1) k_77_1 ?_
        refine lv_tableIn (off := 36) (tgt := 113) hx hb_ dX11_status_77 (by decide) (by decide) (by decide) (by decide) ?_
        refine lv_iload_n hx hb_ dX11_status_113 rfl (lv_at hl 2 rfl) ?_
        exact z_iret (ty := .int) (v := 0) hcf hr rfl hlk hw (by first | (simp [q_status, c_3, c_9, k_77_1]; done) | (simp_all [q_status]; done)) dX11_status_114
      by_cases k_77_2 : x_ = 2
      · refine z_topi (y := 2) k_77_2 ?_
        refine lv_tableIn (off := 38) (tgt := 115) hx hb_ dX11_status_77 (by decide) (by decide) (by decide) (by decide) ?_
        refine lv_iload_n hx hb_ dX11_status_115 rfl (lv_at hl 1 rfl) ?_
        exact z_iret (ty := .int) (v := 0) hcf hr rfl hlk hw (by first | (simp [q_status, c_3, c_9, k_77_2]; done) | (simp_all [q_status]; done)) dX11_status_116
      by_cases k_77_3 : x_ = 3
      · refine z_topi (y := 3) k_77_3 ?_
        refine lv_tableIn (off := 40) (tgt := 117) hx hb_ dX11_status_77 (by decide) (by decide) (by decide) (by decide) ?_
        refine lv_aload_n hx hb_ dX11_status_117 rfl (lv_at hl 3 rfl) ?_
        refine z_get (k := 11) (i := 12) (j := 1112) (v := .int 0) (ref := "FoldedInHalf") (C := RX11) (T := TX11) (N := 13) hcf hK_ hw hin11 (cL hSh 0) (cK hSh 0) rfl (by decide) (by decide) rfl rfl (congrArg Value.int hF.2.2.1) (List.mem_of_getElem? (i := 5) rfl) (fun _ h_ => h_) dX11_status_118 ?_
        exact z_iret (ty := .int) (v := 0) hcf hr rfl hlk hw (by first | (simp [q_status, c_3, c_9, k_77_3]; done) | (simp_all [q_status]; done)) dX11_status_121
      have hout : x_.toInt < 0 ∨ 3 < x_.toInt := by
        have q0 := lv_neT k_77_0 (a := 0) (by decide)
        have q1 := lv_neT k_77_1 (a := 1) (by decide)
        have q2 := lv_neT k_77_2 (a := 2) (by decide)
        have q3 := lv_neT k_77_3 (a := 3) (by decide)
        omega
      refine lv_tableOut (tgt := 122) hx hb_ dX11_status_77 hout (by decide) ?_
      refine lv_iconst (v := (-1)) hx hb_ dX11_status_122 (by decide) ?_
      exact z_iret (ty := .int) (v := (-1)) hcf hr rfl hlk hw (by first | (simp [q_status, c_3, c_9, k_77_0, k_77_1, k_77_2, k_77_3]; done) | (simp_all [q_status]; done)) dX11_status_123
    · refine lv_aload_n hx hb_ dX11_status_12 rfl (lv_at hl 0 rfl) ?_
      refine z_get (k := 11) (i := 3) (j := 1103) (v := .ref (r_ 4)) (ref := "FoldedInHalf") (C := RX11) (T := TX11) (N := 13) hcf hK_ hw hin11 (cL hSh 0) (cK hSh 0) rfl (by decide) (by decide) rfl rfl (congrArg va_rf (cP hSh 3)) (List.mem_of_getElem? (i := 1) rfl) (fun _ h_ => h_) dX11_status_13 ?_
      refine lv_iload_n hx hb_ dX11_status_16 rfl (lv_at hl 1 rfl) ?_
      refine lv_bipush (v := 10) hx hb_ dX11_status_17 (by decide) ?_
      refine lv_isub hx hb_ dX11_status_19 ?_
      refine z_iald (n := 8) hcf hK_ hw (cL hSh 4) (cK hSh 4) (cN hSh 4) (st_in c_3 (by rw [zx_lt] at c_9; rw [zx_le]; exact Int.not_lt.mp c_9)) dX11_status_20 ?_
      refine z_topi (y := 0) (hF.2.2.2.2.2.2.2.1 _) ?_
      exact z_iret (ty := .int) (v := 0) hcf hr rfl hlk hw (by first | (simp [q_status, c_3, c_9]; done) | (simp_all [q_status]; done)) dX11_status_21
