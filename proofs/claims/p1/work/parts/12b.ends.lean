set_option maxHeartbeats 1000000 in
set_option maxRecDepth 100000 in
theorem c_J6_bitCount_0f7a4 (l : Launch) (cD : va_G) (cy : Nat → ClassId) (sz_ : Nat) (S_ : zS) (x0 : Int32) : Met l yJ6_bitCount_0f7a4 wsJ6_bitCount_0f7a4 ({ frames := 0, cells := 0, slots := 0, locals := 0 } : Room) (va_Pc [.int x0] (zPre cD cy S_ sz_)) (va_Qi (fun (v_ : Int32) (S1 : zS) => v_ = bcM x0 ∧ S_ = S1) (zPost cD cy (zAd cy S_ sz_)) (zAd cy S_ sz_)) 0 0 (zAd cy S_ sz_) := by
  refine z_ofW (cc := cJ6_bitCount_0f7a4) (maxL := 1) (ret := (some .int)) (own := RJ6) (QQ := fun A_ => va_Qi (fun (v_ : Int32) (S1 : zS) => v_ = bcM x0 ∧ S_ = S1) (zPost cD cy A_) A_) (by decide) rfl rfl (Nat.le_of_ble_eq_true rfl) ?_
  intro p_ e_ s_ m_ args_ below_ meth_ c_ A_ ls hcf hr hlk hnm hK_ hE hw hA hl
  obtain ⟨hx, hb_, hml, hown, hts⟩ := id hcf
  have hl : lv_has ls 1 [(0, .int x0)] := hl
  refine lv_iload_n hx hb_ dJ6_bitCount_0f7a4_0 rfl (lv_at hl 0 rfl) ?_
  refine lv_iload_n hx hb_ dJ6_bitCount_0f7a4_1 rfl (lv_at hl 0 rfl) ?_
  refine lv_iconst (v := 1) hx hb_ dJ6_bitCount_0f7a4_2 (by decide) ?_
  refine lv_iushr (v := ((x0 : Int32).toUInt32 >>> ((1 : Int32).toUInt32 &&& Int32.toUInt32 31)).toInt32) hx hb_ dJ6_bitCount_0f7a4_3 rfl ?_
  refine lv_ldcw (v := 1431655765) hx hb_ hown (hts (.constant RJ6 265 1431655765) (by decide +kernel)) dJ6_bitCount_0f7a4_4 ?_
  refine lv_iand hx hb_ dJ6_bitCount_0f7a4_7 ?_
  refine lv_isub hx hb_ dJ6_bitCount_0f7a4_8 ?_
  refine lv_topi (fun x1 ex1 => ?_)
  refine lv_istore_n (lv' := [(0, .int x1)]) hx hb_ dJ6_bitCount_0f7a4_9 rfl hl (by decide) rfl (fun ls hl => ?_)
  refine lv_iload_n hx hb_ dJ6_bitCount_0f7a4_10 rfl (lv_at hl 0 rfl) ?_
  refine lv_ldcw (v := 858993459) hx hb_ hown (hts (.constant RJ6 266 858993459) (by decide +kernel)) dJ6_bitCount_0f7a4_11 ?_
  refine lv_iand hx hb_ dJ6_bitCount_0f7a4_14 ?_
  refine lv_iload_n hx hb_ dJ6_bitCount_0f7a4_15 rfl (lv_at hl 0 rfl) ?_
  refine lv_iconst (v := 2) hx hb_ dJ6_bitCount_0f7a4_16 (by decide) ?_
  refine lv_iushr (v := ((x1 : Int32).toUInt32 >>> ((2 : Int32).toUInt32 &&& Int32.toUInt32 31)).toInt32) hx hb_ dJ6_bitCount_0f7a4_17 rfl ?_
  refine lv_ldcw (v := 858993459) hx hb_ hown (hts (.constant RJ6 266 858993459) (by decide +kernel)) dJ6_bitCount_0f7a4_18 ?_
  refine lv_iand hx hb_ dJ6_bitCount_0f7a4_21 ?_
  refine lv_iadd hx hb_ dJ6_bitCount_0f7a4_22 ?_
  refine lv_topi (fun x2 ex2 => ?_)
  refine lv_istore_n (lv' := [(0, .int x2)]) hx hb_ dJ6_bitCount_0f7a4_23 rfl hl (by decide) rfl (fun ls hl => ?_)
  refine lv_iload_n hx hb_ dJ6_bitCount_0f7a4_24 rfl (lv_at hl 0 rfl) ?_
  refine lv_iload_n hx hb_ dJ6_bitCount_0f7a4_25 rfl (lv_at hl 0 rfl) ?_
  refine lv_iconst (v := 4) hx hb_ dJ6_bitCount_0f7a4_26 (by decide) ?_
  refine lv_iushr (v := ((x2 : Int32).toUInt32 >>> ((4 : Int32).toUInt32 &&& Int32.toUInt32 31)).toInt32) hx hb_ dJ6_bitCount_0f7a4_27 rfl ?_
  refine lv_iadd hx hb_ dJ6_bitCount_0f7a4_28 ?_
  refine lv_ldcw (v := 252645135) hx hb_ hown (hts (.constant RJ6 267 252645135) (by decide +kernel)) dJ6_bitCount_0f7a4_29 ?_
  refine lv_iand hx hb_ dJ6_bitCount_0f7a4_32 ?_
  refine lv_topi (fun x3 ex3 => ?_)
  refine lv_istore_n (lv' := [(0, .int x3)]) hx hb_ dJ6_bitCount_0f7a4_33 rfl hl (by decide) rfl (fun ls hl => ?_)
  refine lv_iload_n hx hb_ dJ6_bitCount_0f7a4_34 rfl (lv_at hl 0 rfl) ?_
  refine lv_iload_n hx hb_ dJ6_bitCount_0f7a4_35 rfl (lv_at hl 0 rfl) ?_
  refine lv_bipush (v := 8) hx hb_ dJ6_bitCount_0f7a4_36 (by decide) ?_
  refine lv_iushr (v := ((x3 : Int32).toUInt32 >>> ((8 : Int32).toUInt32 &&& Int32.toUInt32 31)).toInt32) hx hb_ dJ6_bitCount_0f7a4_38 rfl ?_
  refine lv_iadd hx hb_ dJ6_bitCount_0f7a4_39 ?_
  refine lv_topi (fun x4 ex4 => ?_)
  refine lv_istore_n (lv' := [(0, .int x4)]) hx hb_ dJ6_bitCount_0f7a4_40 rfl hl (by decide) rfl (fun ls hl => ?_)
  refine lv_iload_n hx hb_ dJ6_bitCount_0f7a4_41 rfl (lv_at hl 0 rfl) ?_
  refine lv_iload_n hx hb_ dJ6_bitCount_0f7a4_42 rfl (lv_at hl 0 rfl) ?_
  refine lv_bipush (v := 16) hx hb_ dJ6_bitCount_0f7a4_43 (by decide) ?_
  refine lv_iushr (v := ((x4 : Int32).toUInt32 >>> ((16 : Int32).toUInt32 &&& Int32.toUInt32 31)).toInt32) hx hb_ dJ6_bitCount_0f7a4_45 rfl ?_
  refine lv_iadd hx hb_ dJ6_bitCount_0f7a4_46 ?_
  refine lv_topi (fun x5 ex5 => ?_)
  refine lv_istore_n (lv' := [(0, .int x5)]) hx hb_ dJ6_bitCount_0f7a4_47 rfl hl (by decide) rfl (fun ls hl => ?_)
  refine lv_iload_n hx hb_ dJ6_bitCount_0f7a4_48 rfl (lv_at hl 0 rfl) ?_
  refine lv_bipush (v := 63) hx hb_ dJ6_bitCount_0f7a4_49 (by decide) ?_
  refine lv_iand hx hb_ dJ6_bitCount_0f7a4_51 ?_
  refine lv_topi (fun x6 ex6 => ?_)
  exact z_iret (ty := .int) (v := x6) hcf hr rfl hlk hw (⟨by rw [ex6, show x5 = bc5 x4 from ex5, show x4 = bc4 x3 from ex4, show x3 = bc3 x2 from ex3, show x2 = bc2 x1 from ex2, show x1 = bc1 x0 from ex1]; rfl, rfl⟩) dJ6_bitCount_0f7a4_52

set_option maxHeartbeats 1000000 in
set_option maxRecDepth 100000 in
theorem c_X11_endsAt (l : Launch) (cD : va_G) (cy : Nat → ClassId) (sz_ : Nat) (S_ : zS) (f_ ones x_ y_ : Int32) (f0 : Nat) (ef : f_ = nI f0) (hf0 : f0 ≤ 10) : Met l yX11_endsAt wsX11_endsAt ({ frames := 0, cells := 0, slots := 0, locals := 0 } : Room) (va_Pc [.int f_, .int ones, .int x_, .int y_] (zPre cD cy S_ sz_)) (va_Qi (fun (v_ : Int32) (S1 : zS) => v_ = (if cE ones f0 = (x_, y_) then 1 else 0) ∧ S_ = S1) (zPost cD cy (zAd cy S_ sz_)) (zAd cy S_ sz_)) 0 0 (zAd cy S_ sz_) := by
  refine z_ofW (cc := cX11_endsAt) (maxL := 9) (ret := (some .boolean)) (own := RX11) (QQ := fun A_ => va_Qi (fun (v_ : Int32) (S1 : zS) => v_ = (if cE ones f0 = (x_, y_) then 1 else 0) ∧ S_ = S1) (zPost cD cy A_) A_) (by decide) rfl rfl (Nat.le_of_ble_eq_true rfl) ?_
  intro p_ e_ s_ m_ args_ below_ meth_ c_ A_ ls hcf hr hlk hnm hK_ hE hw hA hl
  obtain ⟨hx, hb_, hml, hown, hts⟩ := id hcf
  have hl : lv_has ls 9 [(0, .int f_), (1, .int ones), (2, .int x_), (3, .int y_)] := hl
  refine lv_iconst (v := 1) hx hb_ dX11_endsAt_0 (by decide) ?_
  refine lv_istore (lv' := [(4, .int 1), (0, .int f_), (1, .int ones), (2, .int x_), (3, .int y_)]) hx hb_ dX11_endsAt_1 hl (by decide) rfl (fun ls hl => ?_)
  refine lv_iconst (v := 0) hx hb_ dX11_endsAt_3 (by decide) ?_
  refine lv_istore (lv' := [(5, .int 0), (4, .int 1), (0, .int f_), (1, .int ones), (2, .int x_), (3, .int y_)]) hx hb_ dX11_endsAt_4 hl (by decide) rfl (fun ls hl => ?_)
  refine lv_iconst (v := 0) hx hb_ dX11_endsAt_6 (by decide) ?_
  refine lv_istore (lv' := [(6, .int 0), (5, .int 0), (4, .int 1), (0, .int f_), (1, .int ones), (2, .int x_), (3, .int y_)]) hx hb_ dX11_endsAt_7 hl (by decide) rfl (fun ls hl => ?_)
  have JA : ∀ (nA jA : Nat) (iA : Int32), iA = nI jA → jA ≤ f0 → f0 < jA + nA → ∀ (a_ b_ : Int32), (a_, b_) = cE ones jA →  ∀ (H_ : Heap) (locs_ : List Loc), zPw cD cy A_ s_.heap S_ H_ locs_ → ∀ ls : Array Slot, lv_has ls 9 [(0, .int f_), (1, .int ones), (2, .int x_), (3, .int y_), (4, .int a_), (5, .int b_), (6, .int iA)] → W p_ l e_ ({ frames := 0, cells := 0, slots := 0, locals := 0 } : Room) s_ m_ args_ below_ meth_ c_ H_ locs_ 0 0 (MQ below_ (va_Qi (fun (v_ : Int32) (S1 : zS) => v_ = (if cE ones f0 = (x_, y_) then 1 else 0) ∧ S_ = S1) (zPost cD cy A_) A_) args_ s_ 0 0 A_) (F0 m_ 9 ls []) := by
    intro nA
    induction nA with
    | zero => intro jA iA _ hjA h_; exact absurd h_ (by omega)
    | succ nA ihA =>
      intro jA iA eiA hjA hmA a_ b_ hab H_ locs_ hw ls hl
      refine lv_iload hx hb_ dX11_endsAt_9 (lv_at hl 6 rfl) ?_
      refine lv_iload_n hx hb_ dX11_endsAt_11 rfl (lv_at hl 0 rfl) ?_
      refine lv_icmp_ge (tgt := 58) hx hb_ dX11_endsAt_12 (by decide) (fun c_12 => ?_) (fun c_12 => ?_)
      · refine lv_iload hx hb_ dX11_endsAt_58 (lv_at hl 4 rfl) ?_
        refine lv_iload_n hx hb_ dX11_endsAt_60 rfl (lv_at hl 2 rfl) ?_
        refine lv_icmp_ne (tgt := 74) hx hb_ dX11_endsAt_61 (by decide) (fun c_61 => ?_) (fun c_61 => ?_)
        · refine lv_iconst (v := 0) hx hb_ dX11_endsAt_74 (by decide) ?_
          exact z_iret (ty := .boolean) (v := 0) hcf hr rfl hlk hw (⟨by have hj : jA = f0 := (by have := zn_ge eiA ef (by omega) c_12; omega); rw [← hj, ← hab]; simp [c_61], rfl⟩) dX11_endsAt_75
        · refine lv_iload hx hb_ dX11_endsAt_64 (lv_at hl 5 rfl) ?_
          refine lv_iload_n hx hb_ dX11_endsAt_66 rfl (lv_at hl 3 rfl) ?_
          refine lv_icmp_ne (tgt := 74) hx hb_ dX11_endsAt_67 (by decide) (fun c_67 => ?_) (fun c_67 => ?_)
          · refine lv_iconst (v := 0) hx hb_ dX11_endsAt_74 (by decide) ?_
            exact z_iret (ty := .boolean) (v := 0) hcf hr rfl hlk hw (⟨by have hj : jA = f0 := (by have := zn_ge eiA ef (by omega) c_12; omega); rw [← hj, ← hab]; simp [c_61, c_67], rfl⟩) dX11_endsAt_75
          · refine lv_iconst (v := 1) hx hb_ dX11_endsAt_70 (by decide) ?_
            refine lv_goto (tgt := 75) hx hb_ dX11_endsAt_71 (by decide) ?_
            exact z_iret (ty := .boolean) (v := 1) hcf hr rfl hlk hw (⟨by have hj : jA = f0 := (by have := zn_ge eiA ef (by omega) c_12; omega); rw [← hj, ← hab]; simp [c_61, c_67], rfl⟩) dX11_endsAt_75
      · have hlt : jA < f0 := zn_lt eiA ef (by omega) c_12
        refine lv_iload hx hb_ dX11_endsAt_15 (lv_at hl 6 rfl) ?_
        refine lv_iload_n hx hb_ dX11_endsAt_17 rfl (lv_at hl 1 rfl) ?_
        refine lv_icmp_ge (tgt := 25) hx hb_ dX11_endsAt_18 (by decide) (fun c_18 => ?_) (fun c_18 => ?_)
        · refine lv_iconst (v := (-1)) hx hb_ dX11_endsAt_25 (by decide) ?_
          refine lv_istore (lv' := [(7, .int (-1)), (0, .int f_), (1, .int ones), (2, .int x_), (3, .int y_), (4, .int a_), (5, .int b_), (6, .int iA)]) hx hb_ dX11_endsAt_26 hl (by decide) rfl (fun ls hl => ?_)
          refine lv_iload hx hb_ dX11_endsAt_28 (lv_at hl 5 rfl) ?_
          refine lv_iload hx hb_ dX11_endsAt_30 (lv_at hl 0 rfl) ?_
          refine lv_iload hx hb_ dX11_endsAt_32 (lv_at hl 6 rfl) ?_
          refine lv_imul hx hb_ dX11_endsAt_34 ?_
          refine lv_isub hx hb_ dX11_endsAt_35 ?_
          refine lv_istore (lv' := [(8, .int (a_ - ((-1) * b_))), (7, .int (-1)), (0, .int f_), (1, .int ones), (2, .int x_), (3, .int y_), (4, .int a_), (5, .int b_), (6, .int iA)]) hx hb_ dX11_endsAt_36 hl (by decide) rfl (fun ls hl => ?_)
          refine lv_iload hx hb_ dX11_endsAt_38 (lv_at hl 7 rfl) ?_
          refine lv_iload hx hb_ dX11_endsAt_40 (lv_at hl 1 rfl) ?_
          refine lv_iload hx hb_ dX11_endsAt_42 (lv_at hl 6 rfl) ?_
          refine lv_imul hx hb_ dX11_endsAt_44 ?_
          refine lv_iadd hx hb_ dX11_endsAt_45 ?_
          refine lv_istore (lv' := [(5, .int (b_ + ((-1) * a_))), (8, .int (a_ - ((-1) * b_))), (7, .int (-1)), (0, .int f_), (1, .int ones), (2, .int x_), (3, .int y_), (4, .int a_), (6, .int iA)]) hx hb_ dX11_endsAt_46 hl (by decide) rfl (fun ls hl => ?_)
          refine lv_iload hx hb_ dX11_endsAt_48 (lv_at hl 1 rfl) ?_
          refine lv_istore (lv' := [(4, .int (a_ - ((-1) * b_))), (5, .int (b_ + ((-1) * a_))), (8, .int (a_ - ((-1) * b_))), (7, .int (-1)), (0, .int f_), (1, .int ones), (2, .int x_), (3, .int y_), (6, .int iA)]) hx hb_ dX11_endsAt_50 hl (by decide) rfl (fun ls hl => ?_)
          obtain ⟨i2_, ei2⟩ : ∃ y_ : Int32, y_ = iA + 1 := ⟨_, rfl⟩
          refine lv_iinc (v := i2_) (lv' := [(6, .int i2_), (4, .int (a_ - ((-1) * b_))), (5, .int (b_ + ((-1) * a_))), (8, .int (a_ - ((-1) * b_))), (7, .int (-1)), (0, .int f_), (1, .int ones), (2, .int x_), (3, .int y_)]) hx hb_ dX11_endsAt_52 hl (k := 8) rfl (by rw [ei2]; rfl) (by decide) rfl (fun ls hl => ?_)
          refine lv_goto (tgt := 9) hx hb_ dX11_endsAt_55 (by decide) ?_
          exact ihA (jA + 1) i2_ (by rw [ei2, eiA]; exact nI_1 jA) hlt (by omega) _ _ (by show _ = cE1 ones (nI jA) (cE ones jA); rw [← hab, ← eiA]; simp only [cE1, if_pos c_18]) _ _ hw ls (lv_sub hl [5, 6, 7, 8, 1, 2, 0] rfl)
        · refine lv_iconst (v := 1) hx hb_ dX11_endsAt_21 (by decide) ?_
          refine lv_goto (tgt := 26) hx hb_ dX11_endsAt_22 (by decide) ?_
          refine lv_istore (lv' := [(7, .int 1), (0, .int f_), (1, .int ones), (2, .int x_), (3, .int y_), (4, .int a_), (5, .int b_), (6, .int iA)]) hx hb_ dX11_endsAt_26 hl (by decide) rfl (fun ls hl => ?_)
          refine lv_iload hx hb_ dX11_endsAt_28 (lv_at hl 5 rfl) ?_
          refine lv_iload hx hb_ dX11_endsAt_30 (lv_at hl 0 rfl) ?_
          refine lv_iload hx hb_ dX11_endsAt_32 (lv_at hl 6 rfl) ?_
          refine lv_imul hx hb_ dX11_endsAt_34 ?_
          refine lv_isub hx hb_ dX11_endsAt_35 ?_
          refine lv_istore (lv' := [(8, .int (a_ - (1 * b_))), (7, .int 1), (0, .int f_), (1, .int ones), (2, .int x_), (3, .int y_), (4, .int a_), (5, .int b_), (6, .int iA)]) hx hb_ dX11_endsAt_36 hl (by decide) rfl (fun ls hl => ?_)
          refine lv_iload hx hb_ dX11_endsAt_38 (lv_at hl 7 rfl) ?_
          refine lv_iload hx hb_ dX11_endsAt_40 (lv_at hl 1 rfl) ?_
          refine lv_iload hx hb_ dX11_endsAt_42 (lv_at hl 6 rfl) ?_
          refine lv_imul hx hb_ dX11_endsAt_44 ?_
          refine lv_iadd hx hb_ dX11_endsAt_45 ?_
          refine lv_istore (lv' := [(5, .int (b_ + (1 * a_))), (8, .int (a_ - (1 * b_))), (7, .int 1), (0, .int f_), (1, .int ones), (2, .int x_), (3, .int y_), (4, .int a_), (6, .int iA)]) hx hb_ dX11_endsAt_46 hl (by decide) rfl (fun ls hl => ?_)
          refine lv_iload hx hb_ dX11_endsAt_48 (lv_at hl 1 rfl) ?_
          refine lv_istore (lv' := [(4, .int (a_ - (1 * b_))), (5, .int (b_ + (1 * a_))), (8, .int (a_ - (1 * b_))), (7, .int 1), (0, .int f_), (1, .int ones), (2, .int x_), (3, .int y_), (6, .int iA)]) hx hb_ dX11_endsAt_50 hl (by decide) rfl (fun ls hl => ?_)
          obtain ⟨i2_, ei2⟩ : ∃ y_ : Int32, y_ = iA + 1 := ⟨_, rfl⟩
          refine lv_iinc (v := i2_) (lv' := [(6, .int i2_), (4, .int (a_ - (1 * b_))), (5, .int (b_ + (1 * a_))), (8, .int (a_ - (1 * b_))), (7, .int 1), (0, .int f_), (1, .int ones), (2, .int x_), (3, .int y_)]) hx hb_ dX11_endsAt_52 hl (k := 8) rfl (by rw [ei2]; rfl) (by decide) rfl (fun ls hl => ?_)
          refine lv_goto (tgt := 9) hx hb_ dX11_endsAt_55 (by decide) ?_
          exact ihA (jA + 1) i2_ (by rw [ei2, eiA]; exact nI_1 jA) hlt (by omega) _ _ (by show _ = cE1 ones (nI jA) (cE ones jA); rw [← hab, ← eiA]; simp only [cE1, if_neg c_18]) _ _ hw ls (lv_sub hl [5, 6, 7, 8, 1, 2, 0] rfl)
  exact JA (f0 + 1) 0 0 nI_0.symm (Nat.zero_le _) (by omega) 1 0 rfl _ _ hw ls (lv_sub hl [3, 4, 5, 6, 2, 1, 0] rfl)

set_option maxHeartbeats 1000000 in
set_option maxRecDepth 100000 in
theorem c_X11_ends (l : Launch) (cD : va_G) (cy : Nat → ClassId) (sz_ : Nat) (r_ : Nat → Nat) (S_ : zS) (hSh : ShC S_ r_) (hF : FrC S_ r_) (f_ x_ y_ w_ : Int32) : Met l yX11_ends wsX11_ends ({ frames := 1, cells := 0, slots := 0, locals := 28 } : Room) (va_Pc [.ref (r_ 0), .int f_, .int x_, .int y_, .int w_] (zPre cD cy S_ sz_)) (va_Qi (fun (v_ : Int32) (S1 : zS) => v_ = q_ends f_ x_ y_ w_) (zPost cD cy (zAd cy S_ sz_)) (zAd cy S_ sz_)) 0 0 (zAd cy S_ sz_) := by
  refine z_ofW (cc := cX11_ends) (maxL := 9) (ret := (some .int)) (own := RX11) (QQ := fun A_ => va_Qi (fun (v_ : Int32) (S1 : zS) => v_ = q_ends f_ x_ y_ w_) (zPost cD cy A_) A_) (by decide) rfl rfl (Nat.le_of_ble_eq_true rfl) ?_
  intro p_ e_ s_ m_ args_ below_ meth_ c_ A_ ls hcf hr hlk hnm hK_ hE hw hA hl
  obtain ⟨hx, hb_, hml, hown, hts⟩ := id hcf
  have hl : lv_has ls 9 [(0, .ref (r_ 0)), (1, .int f_), (2, .int x_), (3, .int y_), (4, .int w_)] := hl
  refine lv_iload hx hb_ dX11_ends_0 (lv_at hl 4 rfl) ?_
  refine lv_if_lt (tgt := 11) hx hb_ dX11_ends_2 (by decide) (fun c_2 => ?_) (fun c_2 => ?_)
  · refine lv_aload_n hx hb_ dX11_ends_11 rfl (lv_at hl 0 rfl) ?_
    refine lv_bipush (v := (-5)) hx hb_ dX11_ends_12 (by decide) ?_
    refine z_ki hw hA (va_runV (As := [.int (-5)]) (rest := []) hcf (c_X11_refuse l cD cy _ r_ S_ hSh (-5) (by decide) (by decide)) (cwV 1 hts gX11_ends_X11_refuse rfl rfl rfl (by decide +kernel) ⟨Nat.le_of_ble_eq_true rfl, Nat.le_of_ble_eq_true rfl⟩) (z_preV (k := 11) hK_ hE hw (cL hSh 0) (cK hSh 0) (by decide) rfl) rfl rfl hl.1 rfl (lv_room (Nat.le_of_ble_eq_true rfl)) dX11_ends_14 ⟨Nat.le_of_ble_eq_true rfl, Nat.le_of_ble_eq_true rfl⟩) (fun v1 S2 H_ locs_ hp hw => ?_)
    obtain ⟨rfl, f3_, rfl⟩ := hp
    exact z_iret (ty := .int) (v := (-5)) hcf hr rfl hlk hw (by simp [q_ends, c_2]) dX11_ends_17
  · refine lv_iload hx hb_ dX11_ends_5 (lv_at hl 4 rfl) ?_
    refine lv_iconst (v := 1) hx hb_ dX11_ends_7 (by decide) ?_
    refine lv_icmp_le (tgt := 18) hx hb_ dX11_ends_8 (by decide) (fun c_8 => ?_) (fun c_8 => ?_)
    · refine lv_iload_n hx hb_ dX11_ends_18 rfl (lv_at hl 1 rfl) ?_
      refine lv_iconst (v := 1) hx hb_ dX11_ends_19 (by decide) ?_
      refine lv_icmp_lt (tgt := 29) hx hb_ dX11_ends_20 (by decide) (fun c_20 => ?_) (fun c_20 => ?_)
      · refine lv_aload_n hx hb_ dX11_ends_29 rfl (lv_at hl 0 rfl) ?_
        refine lv_bipush (v := (-6)) hx hb_ dX11_ends_30 (by decide) ?_
        refine z_ki hw hA (va_runV (As := [.int (-6)]) (rest := []) hcf (c_X11_refuse l cD cy _ r_ S_ hSh (-6) (by decide) (by decide)) (cwV 1 hts gX11_ends_X11_refuse rfl rfl rfl (by decide +kernel) ⟨Nat.le_of_ble_eq_true rfl, Nat.le_of_ble_eq_true rfl⟩) (z_preV (k := 11) hK_ hE hw (cL hSh 0) (cK hSh 0) (by decide) rfl) rfl rfl hl.1 rfl (lv_room (Nat.le_of_ble_eq_true rfl)) dX11_ends_32 ⟨Nat.le_of_ble_eq_true rfl, Nat.le_of_ble_eq_true rfl⟩) (fun v4 S5 H_ locs_ hp hw => ?_)
        obtain ⟨rfl, f6, rfl⟩ := hp
        exact z_iret (ty := .int) (v := (-6)) hcf hr rfl hlk hw (by simp [q_ends, c_2, c_8, c_20]) dX11_ends_35
      · refine lv_iload_n hx hb_ dX11_ends_23 rfl (lv_at hl 1 rfl) ?_
        refine lv_bipush (v := 10) hx hb_ dX11_ends_24 (by decide) ?_
        refine lv_icmp_le (tgt := 36) hx hb_ dX11_ends_26 (by decide) (fun c_26 => ?_) (fun c_26 => ?_)
        · obtain ⟨f0, hf1, hf10, ef⟩ := zx_of (a := 1) (b := 10) c_20 c_26 (by decide) (by decide)
          refine lv_iconst (v := 0) hx hb_ dX11_ends_36 (by decide) ?_
          refine lv_istore (lv' := [(5, .int 0), (0, .ref (r_ 0)), (1, .int f_), (2, .int x_), (3, .int y_), (4, .int w_)]) hx hb_ dX11_ends_37 hl (by decide) rfl (fun ls hl => ?_)
          refine lv_iconst (v := 0) hx hb_ dX11_ends_39 (by decide) ?_
          refine lv_istore (lv' := [(6, .int 0), (5, .int 0), (0, .ref (r_ 0)), (1, .int f_), (2, .int x_), (3, .int y_), (4, .int w_)]) hx hb_ dX11_ends_40 hl (by decide) rfl (fun ls hl => ?_)
          have JA : ∀ (nA jA : Nat) (iA : Int32), iA = nI jA → jA ≤ f0 + 1 → f0 + 1 < jA + nA → ∀ (mk : Int32), mk = cMk (cB f0 x_ y_) jA → ∀ (H_ : Heap) (locs_ : List Loc), zPw cD cy A_ s_.heap S_ H_ locs_ → ∀ ls : Array Slot, lv_has ls 9 [(0, .ref (r_ 0)), (1, .int f_), (2, .int x_), (3, .int y_), (4, .int w_), (5, .int mk), (6, .int iA)] → W p_ l e_ ({ frames := 1, cells := 0, slots := 0, locals := 28 } : Room) s_ m_ args_ below_ meth_ c_ H_ locs_ 0 0 (MQ below_ (va_Qi (fun (v_ : Int32) (S1 : zS) => v_ = q_ends f_ x_ y_ w_) (zPost cD cy A_) A_) args_ s_ 0 0 A_) (F0 m_ 42 ls []) := by
            intro nA
            induction nA with
            | zero => intro jA iA _ hjA h_; exact absurd h_ (by omega)
            | succ nA ihA =>
              intro jA iA eiA hjA hmA mk hmk H_ locs_ hw ls hl
              refine lv_iload hx hb_ dX11_ends_42 (lv_at hl 6 rfl) ?_
              refine lv_iload_n hx hb_ dX11_ends_44 rfl (lv_at hl 1 rfl) ?_
              refine lv_icmp_gt (tgt := 74) hx hb_ dX11_ends_45 (by decide) (fun c_45 => ?_) (fun c_45 => ?_)
              · have hjA : jA = f0 + 1 := by rw [zx_lt, ef, eiA, nI_toInt (by omega), nI_toInt (by omega)] at c_45; omega
                have hmk : mk = cMk (cB f0 x_ y_) (f0 + 1) := by rw [hmk, hjA]
                have h1024 := p2_le f0 (by omega)
                refine lv_iconst (v := 0) hx hb_ dX11_ends_74 (by decide) ?_
                refine lv_istore (lv' := [(6, .int 0), (0, .ref (r_ 0)), (1, .int f_), (2, .int x_), (3, .int y_), (4, .int w_), (5, .int mk)]) hx hb_ dX11_ends_75 hl (by decide) rfl (fun ls hl => ?_)
                refine lv_iconst (v := (-1)) hx hb_ dX11_ends_77 (by decide) ?_
                refine lv_istore (lv' := [(7, .int (-1)), (6, .int 0), (0, .ref (r_ 0)), (1, .int f_), (2, .int x_), (3, .int y_), (4, .int w_), (5, .int mk)]) hx hb_ dX11_ends_78 hl (by decide) rfl (fun ls hl => ?_)
                refine lv_iconst (v := 0) hx hb_ dX11_ends_80 (by decide) ?_
                refine lv_istore (lv' := [(8, .int 0), (7, .int (-1)), (6, .int 0), (0, .ref (r_ 0)), (1, .int f_), (2, .int x_), (3, .int y_), (4, .int w_), (5, .int mk)]) hx hb_ dX11_ends_81 hl (by decide) rfl (fun ls hl => ?_)
                have JB : ∀ (nB jB : Nat) (iB : Int32), iB = nI jB → jB ≤ 2 ^ f0 → 2 ^ f0 < jB + nB → ∀ (cnt fst : Int32), (cnt, fst) = eSt (fun k_ => cB f0 x_ y_ (pop k_)) jB → ∀ (H_ : Heap) (locs_ : List Loc), zPw cD cy A_ s_.heap S_ H_ locs_ → ∀ ls : Array Slot, lv_has ls 9 [(0, .ref (r_ 0)), (1, .int f_), (2, .int x_), (3, .int y_), (4, .int w_), (5, .int mk), (6, .int cnt), (7, .int fst), (8, .int iB)] → W p_ l e_ ({ frames := 1, cells := 0, slots := 0, locals := 28 } : Room) s_ m_ args_ below_ meth_ c_ H_ locs_ 0 0 (MQ below_ (va_Qi (fun (v_ : Int32) (S1 : zS) => v_ = q_ends f_ x_ y_ w_) (zPost cD cy A_) A_) args_ s_ 0 0 A_) (F0 m_ 83 ls []) := by
                  intro nB
                  induction nB with
                  | zero => intro jB iB _ hjB h_; exact absurd h_ (by omega)
                  | succ nB ihB =>
                    intro jB iB eiB hjB hmB cnt fst hcf2 H_ locs_ hw ls hl
                    refine lv_iload hx hb_ dX11_ends_83 (lv_at hl 8 rfl) ?_
                    refine lv_iconst (v := 1) hx hb_ dX11_ends_85 (by decide) ?_
                    refine lv_iload_n hx hb_ dX11_ends_86 rfl (lv_at hl 1 rfl) ?_
                    refine lv_ishl hx hb_ dX11_ends_87 ?_
                    refine z_topi (y := (nI (2 ^ f0))) (by rw [ef]; exact shl1 f0 (by omega)) ?_
                    refine lv_icmp_ge (tgt := 128) hx hb_ dX11_ends_88 (by decide) (fun c_88 => ?_) (fun c_88 => ?_)
                    · refine lv_iload hx hb_ dX11_ends_128 (lv_at hl 4 rfl) ?_
                      refine lv_if_ne (tgt := 136) hx hb_ dX11_ends_130 (by decide) (fun c_130 => ?_) (fun c_130 => ?_)
                      · refine lv_iload hx hb_ dX11_ends_136 (lv_at hl 7 rfl) ?_
                        refine lv_iconst (v := (-1)) hx hb_ dX11_ends_138 (by decide) ?_
                        refine lv_icmp_ne (tgt := 151) hx hb_ dX11_ends_139 (by decide) (fun c_139 => ?_) (fun c_139 => ?_)
                        · refine lv_iload hx hb_ dX11_ends_151 (lv_at hl 7 rfl) ?_
                          exact z_iret (ty := .int) (v := fst) hcf hr rfl hlk hw (by have hj : jB = 2 ^ f0 := (by have := zn_ge eiB rfl (by omega) c_88; omega); rw [q_ends_in c_2 c_8 c_20 c_26 ef hf10, ← hj, ← hcf2]; simp [q_end2, c_130, c_139]) dX11_ends_153
                        · refine lv_aload_n hx hb_ dX11_ends_142 rfl (lv_at hl 0 rfl) ?_
                          refine lv_bipush (v := (-5)) hx hb_ dX11_ends_143 (by decide) ?_
                          refine z_ki hw hA (va_runV (As := [.int (-5)]) (rest := []) hcf (c_X11_refuse l cD cy _ r_ S_ hSh (-5) (by decide) (by decide)) (cwV 1 hts gX11_ends_X11_refuse rfl rfl rfl (by decide +kernel) ⟨Nat.le_of_ble_eq_true rfl, Nat.le_of_ble_eq_true rfl⟩) (z_preV (k := 11) hK_ hE hw (cL hSh 0) (cK hSh 0) (by decide) rfl) rfl rfl hl.1 rfl (lv_room (Nat.le_of_ble_eq_true rfl)) dX11_ends_145 ⟨Nat.le_of_ble_eq_true rfl, Nat.le_of_ble_eq_true rfl⟩) (fun v7 S8 H_ locs_ hp hw => ?_)
                          obtain ⟨rfl, f9, rfl⟩ := hp
                          refine lv_goto (tgt := 153) hx hb_ dX11_ends_148 (by decide) ?_
                          exact z_iret (ty := .int) (v := (-5)) hcf hr rfl hlk hw (by have hj : jB = 2 ^ f0 := (by have := zn_ge eiB rfl (by omega) c_88; omega); rw [q_ends_in c_2 c_8 c_20 c_26 ef hf10, ← hj, ← hcf2]; simp [q_end2, c_130, c_139]) dX11_ends_153
                      · refine lv_iload hx hb_ dX11_ends_133 (lv_at hl 6 rfl) ?_
                        exact z_iret (ty := .int) (v := cnt) hcf hr rfl hlk hw (by have hj : jB = 2 ^ f0 := (by have := zn_ge eiB rfl (by omega) c_88; omega); rw [q_ends_in c_2 c_8 c_20 c_26 ef hf10, ← hj, ← hcf2]; simp [q_end2, c_130]) dX11_ends_135
                    · have hlt : jB < 2 ^ f0 := zn_lt eiB rfl (by omega) c_88
                      have hP : ((mk >>> (bcM iB &&& 31)) &&& 1 = 1) ↔ cB f0 x_ y_ (pop jB) = true := by rw [hmk, eiB, bcM_pop (by omega)]; exact cMk_bit (by omega) (by have := pop_le hlt hf10; omega)
                      refine lv_iload hx hb_ dX11_ends_91 (lv_at hl 5 rfl) ?_
                      refine lv_iload hx hb_ dX11_ends_93 (lv_at hl 8 rfl) ?_
                      refine z_ki hw hA (va_runS (As := [.int iB]) (rest := [.int mk]) hcf (c_J6_bitCount_0f7a4 l cD cy _ S_ iB) (va_cwS 1 hts gX11_ends_J6_bitCount_0f7a4 rfl rfl rfl (by decide +kernel) ⟨Nat.le_of_ble_eq_true rfl, Nat.le_of_ble_eq_true rfl⟩) (z_preS hK_ hE hw) rfl rfl hl.1 rfl (lv_room (Nat.le_of_ble_eq_true rfl)) dX11_ends_95 ⟨Nat.le_of_ble_eq_true rfl, Nat.le_of_ble_eq_true rfl⟩) (fun v10 S11 H_ locs_ hp hw => ?_)
                      obtain ⟨hv10, rfl⟩ := hp
                      refine lv_ishr hx hb_ dX11_ends_98 ?_
                      refine lv_iconst (v := 1) hx hb_ dX11_ends_99 (by decide) ?_
                      refine lv_iand hx hb_ dX11_ends_100 ?_
                      refine lv_iconst (v := 1) hx hb_ dX11_ends_101 (by decide) ?_
                      refine lv_icmp_ne (tgt := 122) hx hb_ dX11_ends_102 (by decide) (fun c_102 => ?_) (fun c_102 => ?_)
                      · obtain ⟨i3, ei3⟩ : ∃ y_ : Int32, y_ = iB + 1 := ⟨_, rfl⟩
                        refine lv_iinc (v := i3) (lv' := [(8, .int i3), (0, .ref (r_ 0)), (1, .int f_), (2, .int x_), (3, .int y_), (4, .int w_), (5, .int mk), (6, .int cnt), (7, .int fst)]) hx hb_ dX11_ends_122 hl (k := 8) rfl (by rw [ei3]; rfl) (by decide) rfl (fun ls hl => ?_)
                        refine lv_goto (tgt := 83) hx hb_ dX11_ends_125 (by decide) ?_
                        have hb_ : ¬ cB f0 x_ y_ (pop jB) = true := fun q_ => c_102 (by rw [hv10]; exact hP.2 q_)
                        exact ihB (jB + 1) i3 (by rw [ei3, eiB]; exact nI_1 jB) hlt (by omega) _ _ (by show _ = eS1 (cB f0 x_ y_ (pop jB)) jB _; rw [eS1, if_neg hb_]; exact hcf2) _ _ hw ls (lv_sub hl [1, 2, 3, 4, 5, 6, 7, 8, 0] rfl)
                      · refine lv_iload hx hb_ dX11_ends_105 (lv_at hl 6 rfl) ?_
                        refine lv_if_ne (tgt := 115) hx hb_ dX11_ends_107 (by decide) (fun c_107 => ?_) (fun c_107 => ?_)
                        · refine lv_iload hx hb_ dX11_ends_115 (lv_at hl 7 rfl) ?_
                          refine lv_istore (lv' := [(7, .int fst), (0, .ref (r_ 0)), (1, .int f_), (2, .int x_), (3, .int y_), (4, .int w_), (5, .int mk), (6, .int cnt), (8, .int iB)]) hx hb_ dX11_ends_117 hl (by decide) rfl (fun ls hl => ?_)
                          refine lv_iinc (v := (cnt + 1)) (lv' := [(6, .int (cnt + 1)), (7, .int fst), (0, .ref (r_ 0)), (1, .int f_), (2, .int x_), (3, .int y_), (4, .int w_), (5, .int mk), (8, .int iB)]) hx hb_ dX11_ends_119 hl (k := 7) rfl rfl (by decide) rfl (fun ls hl => ?_)
                          obtain ⟨i3, ei3⟩ : ∃ y_ : Int32, y_ = iB + 1 := ⟨_, rfl⟩
                          refine lv_iinc (v := i3) (lv' := [(8, .int i3), (6, .int (cnt + 1)), (7, .int fst), (0, .ref (r_ 0)), (1, .int f_), (2, .int x_), (3, .int y_), (4, .int w_), (5, .int mk)]) hx hb_ dX11_ends_122 hl (k := 8) rfl (by rw [ei3]; rfl) (by decide) rfl (fun ls hl => ?_)
                          refine lv_goto (tgt := 83) hx hb_ dX11_ends_125 (by decide) ?_
                          have hb_ : cB f0 x_ y_ (pop jB) = true := hP.1 (by rw [← hv10]; exact c_102)
                          exact ihB (jB + 1) i3 (by rw [ei3, eiB]; exact nI_1 jB) hlt (by omega) _ _ (by show _ = eS1 (cB f0 x_ y_ (pop jB)) jB _; rw [eS1, if_pos hb_, ← hcf2, ← eiB]; simp [c_107]) _ _ hw ls (lv_sub hl [3, 4, 5, 6, 7, 8, 1, 2, 0] rfl)
                        · refine lv_iload hx hb_ dX11_ends_110 (lv_at hl 8 rfl) ?_
                          refine lv_goto (tgt := 117) hx hb_ dX11_ends_112 (by decide) ?_
                          refine lv_istore (lv' := [(7, .int iB), (0, .ref (r_ 0)), (1, .int f_), (2, .int x_), (3, .int y_), (4, .int w_), (5, .int mk), (6, .int cnt), (8, .int iB)]) hx hb_ dX11_ends_117 hl (by decide) rfl (fun ls hl => ?_)
                          refine lv_iinc (v := (cnt + 1)) (lv' := [(6, .int (cnt + 1)), (7, .int iB), (0, .ref (r_ 0)), (1, .int f_), (2, .int x_), (3, .int y_), (4, .int w_), (5, .int mk), (8, .int iB)]) hx hb_ dX11_ends_119 hl (k := 7) rfl rfl (by decide) rfl (fun ls hl => ?_)
                          obtain ⟨i3, ei3⟩ : ∃ y_ : Int32, y_ = iB + 1 := ⟨_, rfl⟩
                          refine lv_iinc (v := i3) (lv' := [(8, .int i3), (6, .int (cnt + 1)), (7, .int iB), (0, .ref (r_ 0)), (1, .int f_), (2, .int x_), (3, .int y_), (4, .int w_), (5, .int mk)]) hx hb_ dX11_ends_122 hl (k := 8) rfl (by rw [ei3]; rfl) (by decide) rfl (fun ls hl => ?_)
                          refine lv_goto (tgt := 83) hx hb_ dX11_ends_125 (by decide) ?_
                          have hb_ : cB f0 x_ y_ (pop jB) = true := hP.1 (by rw [← hv10]; exact c_102)
                          exact ihB (jB + 1) i3 (by rw [ei3, eiB]; exact nI_1 jB) hlt (by omega) _ _ (by show _ = eS1 (cB f0 x_ y_ (pop jB)) jB _; rw [eS1, if_pos hb_, ← hcf2, ← eiB]; simp [c_107]) _ _ hw ls (lv_sub hl [3, 4, 5, 6, 7, 8, 1, 2, 0] rfl)
                exact JB (2 ^ f0 + 1) 0 0 nI_0.symm (Nat.zero_le _) (by omega) 0 (-1) rfl _ _ hw ls (lv_sub hl [3, 4, 5, 6, 7, 8, 2, 1, 0] rfl)
              · have hlt : jA < f0 + 1 := by rw [zx_lt, ef, eiA, nI_toInt (by omega), nI_toInt (by omega)] at c_45; omega
                refine lv_iload_n hx hb_ dX11_ends_48 rfl (lv_at hl 1 rfl) ?_
                refine lv_iload hx hb_ dX11_ends_49 (lv_at hl 6 rfl) ?_
                refine lv_iload_n hx hb_ dX11_ends_51 rfl (lv_at hl 2 rfl) ?_
                refine lv_iload_n hx hb_ dX11_ends_52 rfl (lv_at hl 3 rfl) ?_
                refine z_ki hw hA (va_runS (As := [.int f_, .int iA, .int x_, .int y_]) (rest := []) hcf (c_X11_endsAt l cD cy _ S_ f_ iA x_ y_ f0 ef hf10) (va_cwS 4 hts gX11_ends_X11_endsAt rfl rfl rfl (by decide +kernel) ⟨Nat.le_of_ble_eq_true rfl, Nat.le_of_ble_eq_true rfl⟩) (z_preS hK_ hE hw) rfl rfl hl.1 rfl (lv_room (Nat.le_of_ble_eq_true rfl)) dX11_ends_53 ⟨Nat.le_of_ble_eq_true rfl, Nat.le_of_ble_eq_true rfl⟩) (fun v12 S13 H_ locs_ hp hw => ?_)
                obtain ⟨hv12, rfl⟩ := hp
                refine lv_if_eq (tgt := 68) hx hb_ dX11_ends_56 (by decide) (fun c_56 => ?_) (fun c_56 => ?_)
                · obtain ⟨i2_, ei2⟩ : ∃ y_ : Int32, y_ = iA + 1 := ⟨_, rfl⟩
                  refine lv_iinc (v := i2_) (lv' := [(6, .int i2_), (0, .ref (r_ 0)), (1, .int f_), (2, .int x_), (3, .int y_), (4, .int w_), (5, .int mk)]) hx hb_ dX11_ends_68 hl (k := 6) rfl (by rw [ei2]; rfl) (by decide) rfl (fun ls hl => ?_)
                  refine lv_goto (tgt := 42) hx hb_ dX11_ends_71 (by decide) ?_
                  have hb_ : ¬ cB f0 x_ y_ jA = true := fun q_ => by rw [hv12, eiA, if_pos (of_decide_eq_true q_)] at c_56; exact absurd c_56 (by decide)
                  exact ihA (jA + 1) i2_ (by rw [ei2, eiA]; exact nI_1 jA) (by omega) (by omega) _ (by rw [cMk_f hb_]; exact hmk) _ _ hw ls (lv_sub hl [1, 2, 3, 4, 5, 6, 0] rfl)
                · refine lv_iload hx hb_ dX11_ends_59 (lv_at hl 5 rfl) ?_
                  refine lv_iconst (v := 1) hx hb_ dX11_ends_61 (by decide) ?_
                  refine lv_iload hx hb_ dX11_ends_62 (lv_at hl 6 rfl) ?_
                  refine lv_ishl hx hb_ dX11_ends_64 ?_
                  refine lv_ior hx hb_ dX11_ends_65 ?_
                  refine lv_istore (lv' := [(5, .int (mk ||| (1 <<< (iA &&& 31)))), (0, .ref (r_ 0)), (1, .int f_), (2, .int x_), (3, .int y_), (4, .int w_), (6, .int iA)]) hx hb_ dX11_ends_66 hl (by decide) rfl (fun ls hl => ?_)
                  obtain ⟨i2_, ei2⟩ : ∃ y_ : Int32, y_ = iA + 1 := ⟨_, rfl⟩
                  refine lv_iinc (v := i2_) (lv' := [(6, .int i2_), (5, .int (mk ||| (1 <<< (iA &&& 31)))), (0, .ref (r_ 0)), (1, .int f_), (2, .int x_), (3, .int y_), (4, .int w_)]) hx hb_ dX11_ends_68 hl (k := 6) rfl (by rw [ei2]; rfl) (by decide) rfl (fun ls hl => ?_)
                  refine lv_goto (tgt := 42) hx hb_ dX11_ends_71 (by decide) ?_
                  have hb_ : cB f0 x_ y_ jA = true := decide_eq_true (Classical.byContradiction fun q_ => c_56 (by rw [hv12, eiA, if_neg q_]))
                  exact ihA (jA + 1) i2_ (by rw [ei2, eiA]; exact nI_1 jA) (by omega) (by omega) _ (by rw [cMk_t hb_, ← hmk, ← eiA]) _ _ hw ls (lv_sub hl [2, 3, 4, 5, 6, 1, 0] rfl)
          exact JA (f0 + 2) 0 0 nI_0.symm (Nat.zero_le _) (by omega) 0 rfl _ _ hw ls (lv_sub hl [2, 3, 4, 5, 6, 1, 0] rfl)
        · refine lv_aload_n hx hb_ dX11_ends_29 rfl (lv_at hl 0 rfl) ?_
          refine lv_bipush (v := (-6)) hx hb_ dX11_ends_30 (by decide) ?_
          refine z_ki hw hA (va_runV (As := [.int (-6)]) (rest := []) hcf (c_X11_refuse l cD cy _ r_ S_ hSh (-6) (by decide) (by decide)) (cwV 1 hts gX11_ends_X11_refuse rfl rfl rfl (by decide +kernel) ⟨Nat.le_of_ble_eq_true rfl, Nat.le_of_ble_eq_true rfl⟩) (z_preV (k := 11) hK_ hE hw (cL hSh 0) (cK hSh 0) (by decide) rfl) rfl rfl hl.1 rfl (lv_room (Nat.le_of_ble_eq_true rfl)) dX11_ends_32 ⟨Nat.le_of_ble_eq_true rfl, Nat.le_of_ble_eq_true rfl⟩) (fun v14 S15 H_ locs_ hp hw => ?_)
          obtain ⟨rfl, f16, rfl⟩ := hp
          exact z_iret (ty := .int) (v := (-6)) hcf hr rfl hlk hw (by simp [q_ends, c_2, c_8, c_20, c_26]) dX11_ends_35
    · refine lv_aload_n hx hb_ dX11_ends_11 rfl (lv_at hl 0 rfl) ?_
      refine lv_bipush (v := (-5)) hx hb_ dX11_ends_12 (by decide) ?_
      refine z_ki hw hA (va_runV (As := [.int (-5)]) (rest := []) hcf (c_X11_refuse l cD cy _ r_ S_ hSh (-5) (by decide) (by decide)) (cwV 1 hts gX11_ends_X11_refuse rfl rfl rfl (by decide +kernel) ⟨Nat.le_of_ble_eq_true rfl, Nat.le_of_ble_eq_true rfl⟩) (z_preV (k := 11) hK_ hE hw (cL hSh 0) (cK hSh 0) (by decide) rfl) rfl rfl hl.1 rfl (lv_room (Nat.le_of_ble_eq_true rfl)) dX11_ends_14 ⟨Nat.le_of_ble_eq_true rfl, Nat.le_of_ble_eq_true rfl⟩) (fun v17 S18 H_ locs_ hp hw => ?_)
      obtain ⟨rfl, f19, rfl⟩ := hp
      exact z_iret (ty := .int) (v := (-5)) hcf hr rfl hlk hw (by simp [q_ends, c_2, c_8]) dX11_ends_17

set_option maxHeartbeats 1000000 in
set_option maxRecDepth 100000 in
theorem c_X12_turnX (l : Launch) (cD : va_G) (cy : Nat → ClassId) (sz_ : Nat) (r_ : Nat → Nat) (S_ : zS) (hSh : ShM S_ r_) (x_ y_ : Int64) (q_ : Int32) : Met l yX12_turnX wsX12_turnX ({ frames := 0, cells := 0, slots := 0, locals := 0 } : Room) (va_Pc [.ref (r_ 0), .long x_, .long y_, .int q_] (zPre cD cy S_ sz_)) (va_Ql (fun (v_ : Int64) (S1 : zS) => v_ = tX x_ y_ q_ ∧ S_ = S1) (zPost cD cy (zAd cy S_ sz_)) (zAd cy S_ sz_)) 0 0 (zAd cy S_ sz_) := by
  refine z_ofW (cc := cX12_turnX) (maxL := 7) (ret := (some .long)) (own := RX12) (QQ := fun A_ => va_Ql (fun (v_ : Int64) (S1 : zS) => v_ = tX x_ y_ q_ ∧ S_ = S1) (zPost cD cy A_) A_) (by decide) rfl rfl (Nat.le_of_ble_eq_true rfl) ?_
  intro p_ e_ s_ m_ args_ below_ meth_ c_ A_ ls hcf hr hlk hnm hK_ hE hw hA hl
  obtain ⟨hx, hb_, hml, hown, hts⟩ := id hcf
  have hl : lv_has ls 7 [(0, .ref (r_ 0)), (1, .long x_), (3, .long y_), (5, .int q_)] := hl
  refine lv_iload hx hb_ dX12_turnX_0 (lv_at hl 3 rfl) ?_
  refine lv_iconst (v := 3) hx hb_ dX12_turnX_2 (by decide) ?_
  refine lv_iand hx hb_ dX12_turnX_3 ?_
  refine lv_topi (fun k_ ek => ?_)
  refine lv_istore (lv' := [(6, .int k_), (0, .ref (r_ 0)), (1, .long x_), (3, .long y_), (5, .int q_)]) hx hb_ dX12_turnX_4 hl (by decide) rfl (fun ls hl => ?_)
  refine lv_iload hx hb_ dX12_turnX_6 (lv_at hl 0 rfl) ?_
  refine lv_if_ne (tgt := 15) hx hb_ dX12_turnX_8 (by decide) (fun c_8 => ?_) (fun c_8 => ?_)
  · refine lv_iload hx hb_ dX12_turnX_15 (lv_at hl 0 rfl) ?_
    refine lv_iconst (v := 1) hx hb_ dX12_turnX_17 (by decide) ?_
    refine lv_icmp_ne (tgt := 26) hx hb_ dX12_turnX_18 (by decide) (fun c_18 => ?_) (fun c_18 => ?_)
    · refine lv_iload hx hb_ dX12_turnX_26 (lv_at hl 0 rfl) ?_
      refine lv_iconst (v := 2) hx hb_ dX12_turnX_28 (by decide) ?_
      refine lv_icmp_ne (tgt := 37) hx hb_ dX12_turnX_29 (by decide) (fun c_29 => ?_) (fun c_29 => ?_)
      · refine lv_lload_n hx hb_ dX12_turnX_37 rfl (lv_at hl 3 rfl) ?_
        exact z_lret (v := y_) hcf hr hlk hw (⟨by simp [tX, ← ek, c_8, c_18, c_29], rfl⟩) dX12_turnX_38
      · refine lv_lload_n hx hb_ dX12_turnX_32 rfl (lv_at hl 2 rfl) ?_
        refine lv_lneg hx hb_ dX12_turnX_33 ?_
        refine lv_goto (tgt := 38) hx hb_ dX12_turnX_34 (by decide) ?_
        exact z_lret (v := (-x_)) hcf hr hlk hw (⟨by simp [tX, ← ek, c_8, c_18, c_29], rfl⟩) dX12_turnX_38
    · refine lv_lload_n hx hb_ dX12_turnX_21 rfl (lv_at hl 3 rfl) ?_
      refine lv_lneg hx hb_ dX12_turnX_22 ?_
      refine lv_goto (tgt := 38) hx hb_ dX12_turnX_23 (by decide) ?_
      exact z_lret (v := (-y_)) hcf hr hlk hw (⟨by simp [tX, ← ek, c_8, c_18], rfl⟩) dX12_turnX_38
  · refine lv_lload_n hx hb_ dX12_turnX_11 rfl (lv_at hl 2 rfl) ?_
    refine lv_goto (tgt := 38) hx hb_ dX12_turnX_12 (by decide) ?_
    exact z_lret (v := x_) hcf hr hlk hw (⟨by simp [tX, ← ek, c_8], rfl⟩) dX12_turnX_38

set_option maxHeartbeats 1000000 in
set_option maxRecDepth 100000 in
theorem c_X12_turnY (l : Launch) (cD : va_G) (cy : Nat → ClassId) (sz_ : Nat) (r_ : Nat → Nat) (S_ : zS) (hSh : ShM S_ r_) (x_ y_ : Int64) (q_ : Int32) : Met l yX12_turnY wsX12_turnY ({ frames := 0, cells := 0, slots := 0, locals := 0 } : Room) (va_Pc [.ref (r_ 0), .long x_, .long y_, .int q_] (zPre cD cy S_ sz_)) (va_Ql (fun (v_ : Int64) (S1 : zS) => v_ = tY x_ y_ q_ ∧ S_ = S1) (zPost cD cy (zAd cy S_ sz_)) (zAd cy S_ sz_)) 0 0 (zAd cy S_ sz_) := by
  refine z_ofW (cc := cX12_turnY) (maxL := 7) (ret := (some .long)) (own := RX12) (QQ := fun A_ => va_Ql (fun (v_ : Int64) (S1 : zS) => v_ = tY x_ y_ q_ ∧ S_ = S1) (zPost cD cy A_) A_) (by decide) rfl rfl (Nat.le_of_ble_eq_true rfl) ?_
  intro p_ e_ s_ m_ args_ below_ meth_ c_ A_ ls hcf hr hlk hnm hK_ hE hw hA hl
  obtain ⟨hx, hb_, hml, hown, hts⟩ := id hcf
  have hl : lv_has ls 7 [(0, .ref (r_ 0)), (1, .long x_), (3, .long y_), (5, .int q_)] := hl
  refine lv_iload hx hb_ dX12_turnY_0 (lv_at hl 3 rfl) ?_
  refine lv_iconst (v := 3) hx hb_ dX12_turnY_2 (by decide) ?_
  refine lv_iand hx hb_ dX12_turnY_3 ?_
  refine lv_topi (fun k_ ek => ?_)
  refine lv_istore (lv' := [(6, .int k_), (0, .ref (r_ 0)), (1, .long x_), (3, .long y_), (5, .int q_)]) hx hb_ dX12_turnY_4 hl (by decide) rfl (fun ls hl => ?_)
  refine lv_iload hx hb_ dX12_turnY_6 (lv_at hl 0 rfl) ?_
  refine lv_if_ne (tgt := 15) hx hb_ dX12_turnY_8 (by decide) (fun c_8 => ?_) (fun c_8 => ?_)
  · refine lv_iload hx hb_ dX12_turnY_15 (lv_at hl 0 rfl) ?_
    refine lv_iconst (v := 1) hx hb_ dX12_turnY_17 (by decide) ?_
    refine lv_icmp_ne (tgt := 25) hx hb_ dX12_turnY_18 (by decide) (fun c_18 => ?_) (fun c_18 => ?_)
    · refine lv_iload hx hb_ dX12_turnY_25 (lv_at hl 0 rfl) ?_
      refine lv_iconst (v := 2) hx hb_ dX12_turnY_27 (by decide) ?_
      refine lv_icmp_ne (tgt := 36) hx hb_ dX12_turnY_28 (by decide) (fun c_28 => ?_) (fun c_28 => ?_)
      · refine lv_lload_n hx hb_ dX12_turnY_36 rfl (lv_at hl 2 rfl) ?_
        refine lv_lneg hx hb_ dX12_turnY_37 ?_
        exact z_lret (v := (-x_)) hcf hr hlk hw (⟨by simp [tY, ← ek, c_8, c_18, c_28], rfl⟩) dX12_turnY_38
      · refine lv_lload_n hx hb_ dX12_turnY_31 rfl (lv_at hl 3 rfl) ?_
        refine lv_lneg hx hb_ dX12_turnY_32 ?_
        refine lv_goto (tgt := 38) hx hb_ dX12_turnY_33 (by decide) ?_
        exact z_lret (v := (-y_)) hcf hr hlk hw (⟨by simp [tY, ← ek, c_8, c_18, c_28], rfl⟩) dX12_turnY_38
    · refine lv_lload_n hx hb_ dX12_turnY_21 rfl (lv_at hl 2 rfl) ?_
      refine lv_goto (tgt := 38) hx hb_ dX12_turnY_22 (by decide) ?_
      exact z_lret (v := x_) hcf hr hlk hw (⟨by simp [tY, ← ek, c_8, c_18], rfl⟩) dX12_turnY_38
  · refine lv_lload_n hx hb_ dX12_turnY_11 rfl (lv_at hl 3 rfl) ?_
    refine lv_goto (tgt := 38) hx hb_ dX12_turnY_12 (by decide) ?_
    exact z_lret (v := y_) hcf hr hlk hw (⟨by simp [tY, ← ek, c_8], rfl⟩) dX12_turnY_38

set_option maxHeartbeats 1000000 in
set_option maxRecDepth 100000 in
theorem c_X12_endOf (l : Launch) (cD : va_G) (cy : Nat → ClassId) (sz_ : Nat) (r_ : Nat → Nat) (S_ : zS) (hSh : ShM S_ r_) (f_ sd : Int32) (f0 : Nat) (ef : f_ = nI f0) (hf0 : f0 ≤ 10) : Met l yX12_endOf wsX12_endOf ({ frames := 1, cells := 0, slots := 0, locals := 26 } : Room) (va_Pc [.ref (r_ 0), .int f_, .int sd] (zPre cD cy S_ sz_)) (va_Qv (fun (S1 : zS) => S1 = zsJ (zsJ S_ 1231 (r_ 0) (mE sd f0).1) 1232 (r_ 0) (mE sd f0).2.1) (zPost cD cy (zAd cy S_ sz_)) (zAd cy S_ sz_)) 0 0 (zAd cy S_ sz_) := by
  refine z_ofW (cc := cX12_endOf) (maxL := 25) (ret := none) (own := RX12) (QQ := fun A_ => va_Qv (fun (S1 : zS) => S1 = zsJ (zsJ S_ 1231 (r_ 0) (mE sd f0).1) 1232 (r_ 0) (mE sd f0).2.1) (zPost cD cy A_) A_) (by decide) rfl rfl (Nat.le_of_ble_eq_true rfl) ?_
  intro p_ e_ s_ m_ args_ below_ meth_ c_ A_ ls hcf hr hlk hnm hK_ hE hw hA hl
  obtain ⟨hx, hb_, hml, hown, hts⟩ := id hcf
  have hin12 : ∀ w_ ∈ wsX120, w_ ∈ wsX12_endOf := fun w_ h_ => (List.mem_cons_of_mem _ (List.mem_append_right _ h_))
  have hl : lv_has ls 25 [(0, .ref (r_ 0)), (1, .int f_), (2, .int sd)] := hl
  refine lv_lconst (v := 1) hx hb_ dX12_endOf_0 (by decide) ?_
  refine lv_lstore_n (lv' := [(3, .long 1), (0, .ref (r_ 0)), (1, .int f_), (2, .int sd)]) hx hb_ dX12_endOf_1 rfl hl (by decide) rfl (fun ls hl => ?_)
  refine lv_lconst (v := 0) hx hb_ dX12_endOf_2 (by decide) ?_
  refine lv_lstore (lv' := [(5, .long 0), (3, .long 1), (0, .ref (r_ 0)), (1, .int f_), (2, .int sd)]) hx hb_ dX12_endOf_3 hl (by decide) rfl (fun ls hl => ?_)
  refine lv_lconst (v := 1) hx hb_ dX12_endOf_5 (by decide) ?_
  refine lv_lstore (lv' := [(7, .long 1), (5, .long 0), (3, .long 1), (0, .ref (r_ 0)), (1, .int f_), (2, .int sd)]) hx hb_ dX12_endOf_6 hl (by decide) rfl (fun ls hl => ?_)
  refine lv_lconst (v := 0) hx hb_ dX12_endOf_8 (by decide) ?_
  refine lv_lstore (lv' := [(9, .long 0), (7, .long 1), (5, .long 0), (3, .long 1), (0, .ref (r_ 0)), (1, .int f_), (2, .int sd)]) hx hb_ dX12_endOf_9 hl (by decide) rfl (fun ls hl => ?_)
  refine lv_iconst (v := 0) hx hb_ dX12_endOf_11 (by decide) ?_
  refine lv_istore (lv' := [(11, .int 0), (9, .long 0), (7, .long 1), (5, .long 0), (3, .long 1), (0, .ref (r_ 0)), (1, .int f_), (2, .int sd)]) hx hb_ dX12_endOf_12 hl (by decide) rfl (fun ls hl => ?_)
  refine lv_iconst (v := 0) hx hb_ dX12_endOf_14 (by decide) ?_
  refine lv_istore (lv' := [(12, .int 0), (11, .int 0), (9, .long 0), (7, .long 1), (5, .long 0), (3, .long 1), (0, .ref (r_ 0)), (1, .int f_), (2, .int sd)]) hx hb_ dX12_endOf_15 hl (by decide) rfl (fun ls hl => ?_)
  refine lv_iconst (v := 0) hx hb_ dX12_endOf_17 (by decide) ?_
  refine lv_istore (lv' := [(13, .int 0), (12, .int 0), (11, .int 0), (9, .long 0), (7, .long 1), (5, .long 0), (3, .long 1), (0, .ref (r_ 0)), (1, .int f_), (2, .int sd)]) hx hb_ dX12_endOf_18 hl (by decide) rfl (fun ls hl => ?_)
  have JA : ∀ (nA jA : Nat) (iA : Int32), iA = nI jA → jA ≤ f0 → f0 < jA + nA → ∀ (a1 a2 a3 a4 : Int64) (a5 a6 : Int32), (a1, a2, a3, a4, a5, a6) = mE sd jA → ∀ (H_ : Heap) (locs_ : List Loc), zPw cD cy A_ s_.heap S_ H_ locs_ → ∀ ls : Array Slot, lv_has ls 25 [(0, .ref (r_ 0)), (1, .int f_), (2, .int sd), (3, .long a1), (5, .long a2), (7, .long a3), (9, .long a4), (11, .int a5), (12, .int a6), (13, .int iA)] → W p_ l e_ ({ frames := 1, cells := 0, slots := 0, locals := 26 } : Room) s_ m_ args_ below_ meth_ c_ H_ locs_ 0 0 (MQ below_ (va_Qv (fun (S1 : zS) => S1 = zsJ (zsJ S_ 1231 (r_ 0) (mE sd f0).1) 1232 (r_ 0) (mE sd f0).2.1) (zPost cD cy A_) A_) args_ s_ 0 0 A_) (F0 m_ 20 ls []) := by
    intro nA
    induction nA with
    | zero => intro jA iA _ hjA h_; exact absurd h_ (by omega)
    | succ nA ihA =>
      intro jA iA eiA hjA hmA a1 a2 a3 a4 a5 a6 ha H_ locs_ hw ls hl
      refine lv_iload hx hb_ dX12_endOf_20 (lv_at hl 9 rfl) ?_
      refine lv_iload_n hx hb_ dX12_endOf_22 rfl (lv_at hl 1 rfl) ?_
      refine lv_icmp_ge (tgt := 150) hx hb_ dX12_endOf_23 (by decide) (fun c_23 => ?_) (fun c_23 => ?_)
      · refine lv_aload_n hx hb_ dX12_endOf_150 rfl (lv_at hl 0 rfl) ?_
        refine lv_lload_n hx hb_ dX12_endOf_151 rfl (lv_at hl 3 rfl) ?_
        refine z_putJ (k := 12) (i := 31) (j := 1231) (x := a1) (v := .long a1) (ty := .long) (ref := "FoldedInHalfModel") (C := RX12) (T := TX12) (N := 56) tyX12 hcf hK_ hw hin12 tyX12_ok nmX12 (mL hSh 0) (mK hSh 0) rfl (by decide) (by decide) rfl rfl (List.mem_of_getElem? (i := 1) rfl) (fun _ h_ => h_) rfl rfl (by decide +kernel) rfl rfl dX12_endOf_152 (fun H_ locs_ hw => ?_)
        refine lv_aload_n hx hb_ dX12_endOf_155 rfl (lv_at hl 0 rfl) ?_
        refine lv_lload hx hb_ dX12_endOf_156 (lv_at hl 4 rfl) ?_
        refine z_putJ (k := 12) (i := 32) (j := 1232) (x := a2) (v := .long a2) (ty := .long) (ref := "FoldedInHalfModel") (C := RX12) (T := TX12) (N := 56) tyX12 hcf hK_ hw hin12 tyX12_ok nmX12 (mL hSh 0) (mK hSh 0) rfl (by decide) (by decide) rfl rfl (List.mem_of_getElem? (i := 2) rfl) (fun _ h_ => h_) rfl rfl (by decide +kernel) rfl rfl dX12_endOf_158 (fun H_ locs_ hw => ?_)
        exact z_vret hcf hr hlk hw (by have hj : jA = f0 := (by have := zn_ge eiA ef (by omega) c_23; omega); rw [← hj, ← ha]) dX12_endOf_161
      · have hlt : jA < f0 := zn_lt eiA ef (by omega) c_23
        refine lv_iload_n hx hb_ dX12_endOf_26 rfl (lv_at hl 2 rfl) ?_
        refine lv_iload hx hb_ dX12_endOf_27 (lv_at hl 9 rfl) ?_
        refine lv_ishr hx hb_ dX12_endOf_29 ?_
        refine lv_iconst (v := 1) hx hb_ dX12_endOf_30 (by decide) ?_
        refine lv_iand hx hb_ dX12_endOf_31 ?_
        refine lv_iconst (v := 1) hx hb_ dX12_endOf_32 (by decide) ?_
        refine lv_icmp_ne (tgt := 40) hx hb_ dX12_endOf_33 (by decide) (fun c_33 => ?_) (fun c_33 => ?_)
        · refine lv_iconst (v := (-1)) hx hb_ dX12_endOf_40 (by decide) ?_
          refine lv_istore (lv' := [(14, .int (-1)), (0, .ref (r_ 0)), (1, .int f_), (2, .int sd), (3, .long a1), (5, .long a2), (7, .long a3), (9, .long a4), (11, .int a5), (12, .int a6), (13, .int iA)]) hx hb_ dX12_endOf_41 hl (by decide) rfl (fun ls hl => ?_)
          refine lv_iload hx hb_ dX12_endOf_43 (lv_at hl 8 rfl) ?_
          refine lv_iload hx hb_ dX12_endOf_45 (lv_at hl 0 rfl) ?_
          refine lv_iadd hx hb_ dX12_endOf_47 ?_
          refine lv_istore (lv' := [(15, .int (a5 + (-1))), (14, .int (-1)), (0, .ref (r_ 0)), (1, .int f_), (2, .int sd), (3, .long a1), (5, .long a2), (7, .long a3), (9, .long a4), (11, .int a5), (12, .int a6), (13, .int iA)]) hx hb_ dX12_endOf_48 hl (by decide) rfl (fun ls hl => ?_)
          refine lv_iload hx hb_ dX12_endOf_50 (lv_at hl 9 rfl) ?_
          refine lv_iload hx hb_ dX12_endOf_52 (lv_at hl 1 rfl) ?_
          refine lv_isub hx hb_ dX12_endOf_54 ?_
          refine lv_istore (lv' := [(16, .int (a5 - (-1))), (15, .int (a5 + (-1))), (14, .int (-1)), (0, .ref (r_ 0)), (1, .int f_), (2, .int sd), (3, .long a1), (5, .long a2), (7, .long a3), (9, .long a4), (11, .int a5), (12, .int a6), (13, .int iA)]) hx hb_ dX12_endOf_55 hl (by decide) rfl (fun ls hl => ?_)
          refine lv_lload_n hx hb_ dX12_endOf_57 rfl (lv_at hl 6 rfl) ?_
          refine lv_aload_n hx hb_ dX12_endOf_58 rfl (lv_at hl 3 rfl) ?_
          refine lv_lload hx hb_ dX12_endOf_59 (lv_at hl 8 rfl) ?_
          refine lv_lload hx hb_ dX12_endOf_61 (lv_at hl 9 rfl) ?_
          refine lv_iload hx hb_ dX12_endOf_63 (lv_at hl 1 rfl) ?_
          refine z_kl hw hA (va_runV (As := [.long a3, .long a4, .int (a5 + (-1))]) (rest := [.long a1]) hcf (c_X12_turnX l cD cy _ r_ S_ hSh a3 a4 (a5 + (-1))) (cwV 3 hts gX12_endOf_X12_turnX rfl rfl rfl (by decide +kernel) ⟨Nat.le_of_ble_eq_true rfl, Nat.le_of_ble_eq_true rfl⟩) (z_preV (k := 12) hK_ hE hw (mL hSh 0) (mK hSh 0) (by decide) rfl) rfl rfl hl.1 rfl (lv_room (Nat.le_of_ble_eq_true rfl)) dX12_endOf_65 ⟨Nat.le_of_ble_eq_true rfl, Nat.le_of_ble_eq_true rfl⟩) (fun v1 S2 H_ locs_ hp hw => ?_)
          obtain ⟨hv1, rfl⟩ := hp
          refine lv_ladd hx hb_ dX12_endOf_68 ?_
          refine lv_lstore (lv' := [(17, .long (a1 + v1)), (16, .int (a5 - (-1))), (15, .int (a5 + (-1))), (14, .int (-1)), (0, .ref (r_ 0)), (1, .int f_), (2, .int sd), (3, .long a1), (5, .long a2), (7, .long a3), (9, .long a4), (11, .int a5), (12, .int a6), (13, .int iA)]) hx hb_ dX12_endOf_69 hl (by decide) rfl (fun ls hl => ?_)
          refine lv_lload hx hb_ dX12_endOf_71 (lv_at hl 8 rfl) ?_
          refine lv_aload_n hx hb_ dX12_endOf_73 rfl (lv_at hl 4 rfl) ?_
          refine lv_lload hx hb_ dX12_endOf_74 (lv_at hl 9 rfl) ?_
          refine lv_lload hx hb_ dX12_endOf_76 (lv_at hl 10 rfl) ?_
          refine lv_iload hx hb_ dX12_endOf_78 (lv_at hl 2 rfl) ?_
          refine z_kl hw hA (va_runV (As := [.long a3, .long a4, .int (a5 + (-1))]) (rest := [.long a2]) hcf (c_X12_turnY l cD cy _ r_ S_ hSh a3 a4 (a5 + (-1))) (cwV 3 hts gX12_endOf_X12_turnY rfl rfl rfl (by decide +kernel) ⟨Nat.le_of_ble_eq_true rfl, Nat.le_of_ble_eq_true rfl⟩) (z_preV (k := 12) hK_ hE hw (mL hSh 0) (mK hSh 0) (by decide) rfl) rfl rfl hl.1 rfl (lv_room (Nat.le_of_ble_eq_true rfl)) dX12_endOf_80 ⟨Nat.le_of_ble_eq_true rfl, Nat.le_of_ble_eq_true rfl⟩) (fun v3 S4 H_ locs_ hp hw => ?_)
          obtain ⟨hv3, rfl⟩ := hp
          refine lv_ladd hx hb_ dX12_endOf_83 ?_
          refine lv_lstore (lv' := [(19, .long (a2 + v3)), (17, .long (a1 + v1)), (16, .int (a5 - (-1))), (15, .int (a5 + (-1))), (14, .int (-1)), (0, .ref (r_ 0)), (1, .int f_), (2, .int sd), (3, .long a1), (5, .long a2), (7, .long a3), (9, .long a4), (11, .int a5), (12, .int a6), (13, .int iA)]) hx hb_ dX12_endOf_84 hl (by decide) rfl (fun ls hl => ?_)
          refine lv_lload_n hx hb_ dX12_endOf_86 rfl (lv_at hl 8 rfl) ?_
          refine lv_aload_n hx hb_ dX12_endOf_87 rfl (lv_at hl 5 rfl) ?_
          refine lv_lload hx hb_ dX12_endOf_88 (lv_at hl 10 rfl) ?_
          refine lv_lload hx hb_ dX12_endOf_90 (lv_at hl 11 rfl) ?_
          refine lv_iload hx hb_ dX12_endOf_92 (lv_at hl 2 rfl) ?_
          refine z_kl hw hA (va_runV (As := [.long a3, .long a4, .int (a5 - (-1))]) (rest := [.long a1]) hcf (c_X12_turnX l cD cy _ r_ S_ hSh a3 a4 (a5 - (-1))) (cwV 3 hts gX12_endOf_X12_turnX rfl rfl rfl (by decide +kernel) ⟨Nat.le_of_ble_eq_true rfl, Nat.le_of_ble_eq_true rfl⟩) (z_preV (k := 12) hK_ hE hw (mL hSh 0) (mK hSh 0) (by decide) rfl) rfl rfl hl.1 rfl (lv_room (Nat.le_of_ble_eq_true rfl)) dX12_endOf_94 ⟨Nat.le_of_ble_eq_true rfl, Nat.le_of_ble_eq_true rfl⟩) (fun v5 S6 H_ locs_ hp hw => ?_)
          obtain ⟨hv5, rfl⟩ := hp
          refine lv_ladd hx hb_ dX12_endOf_97 ?_
          refine lv_lstore (lv' := [(21, .long (a1 + v5)), (19, .long (a2 + v3)), (17, .long (a1 + v1)), (16, .int (a5 - (-1))), (15, .int (a5 + (-1))), (14, .int (-1)), (0, .ref (r_ 0)), (1, .int f_), (2, .int sd), (3, .long a1), (5, .long a2), (7, .long a3), (9, .long a4), (11, .int a5), (12, .int a6), (13, .int iA)]) hx hb_ dX12_endOf_98 hl (by decide) rfl (fun ls hl => ?_)
          refine lv_lload hx hb_ dX12_endOf_100 (lv_at hl 10 rfl) ?_
          refine lv_aload_n hx hb_ dX12_endOf_102 rfl (lv_at hl 6 rfl) ?_
          refine lv_lload hx hb_ dX12_endOf_103 (lv_at hl 11 rfl) ?_
          refine lv_lload hx hb_ dX12_endOf_105 (lv_at hl 12 rfl) ?_
          refine lv_iload hx hb_ dX12_endOf_107 (lv_at hl 3 rfl) ?_
          refine z_kl hw hA (va_runV (As := [.long a3, .long a4, .int (a5 - (-1))]) (rest := [.long a2]) hcf (c_X12_turnY l cD cy _ r_ S_ hSh a3 a4 (a5 - (-1))) (cwV 3 hts gX12_endOf_X12_turnY rfl rfl rfl (by decide +kernel) ⟨Nat.le_of_ble_eq_true rfl, Nat.le_of_ble_eq_true rfl⟩) (z_preV (k := 12) hK_ hE hw (mL hSh 0) (mK hSh 0) (by decide) rfl) rfl rfl hl.1 rfl (lv_room (Nat.le_of_ble_eq_true rfl)) dX12_endOf_109 ⟨Nat.le_of_ble_eq_true rfl, Nat.le_of_ble_eq_true rfl⟩) (fun v7 S8 H_ locs_ hp hw => ?_)
          obtain ⟨hv7, rfl⟩ := hp
          refine lv_ladd hx hb_ dX12_endOf_112 ?_
          refine lv_lstore (lv' := [(23, .long (a2 + v7)), (21, .long (a1 + v5)), (19, .long (a2 + v3)), (17, .long (a1 + v1)), (16, .int (a5 - (-1))), (15, .int (a5 + (-1))), (14, .int (-1)), (0, .ref (r_ 0)), (1, .int f_), (2, .int sd), (3, .long a1), (5, .long a2), (7, .long a3), (9, .long a4), (11, .int a5), (12, .int a6), (13, .int iA)]) hx hb_ dX12_endOf_113 hl (by decide) rfl (fun ls hl => ?_)
          refine lv_iload hx hb_ dX12_endOf_115 (lv_at hl 5 rfl) ?_
          refine lv_iload hx hb_ dX12_endOf_117 (lv_at hl 15 rfl) ?_
          refine lv_iadd hx hb_ dX12_endOf_119 ?_
          refine lv_istore (lv' := [(11, .int ((a5 + (-1)) + a6)), (23, .long (a2 + v7)), (21, .long (a1 + v5)), (19, .long (a2 + v3)), (17, .long (a1 + v1)), (16, .int (a5 - (-1))), (15, .int (a5 + (-1))), (14, .int (-1)), (0, .ref (r_ 0)), (1, .int f_), (2, .int sd), (3, .long a1), (5, .long a2), (7, .long a3), (9, .long a4), (12, .int a6), (13, .int iA)]) hx hb_ dX12_endOf_120 hl (by decide) rfl (fun ls hl => ?_)
          refine lv_iload hx hb_ dX12_endOf_122 (lv_at hl 5 rfl) ?_
          refine lv_iload hx hb_ dX12_endOf_124 (lv_at hl 15 rfl) ?_
          refine lv_iadd hx hb_ dX12_endOf_126 ?_
          refine lv_istore (lv' := [(12, .int ((a5 - (-1)) + a6)), (11, .int ((a5 + (-1)) + a6)), (23, .long (a2 + v7)), (21, .long (a1 + v5)), (19, .long (a2 + v3)), (17, .long (a1 + v1)), (16, .int (a5 - (-1))), (15, .int (a5 + (-1))), (14, .int (-1)), (0, .ref (r_ 0)), (1, .int f_), (2, .int sd), (3, .long a1), (5, .long a2), (7, .long a3), (9, .long a4), (13, .int iA)]) hx hb_ dX12_endOf_127 hl (by decide) rfl (fun ls hl => ?_)
          refine lv_lload hx hb_ dX12_endOf_129 (lv_at hl 5 rfl) ?_
          refine lv_lstore_n (lv' := [(3, .long (a1 + v1)), (12, .int ((a5 - (-1)) + a6)), (11, .int ((a5 + (-1)) + a6)), (23, .long (a2 + v7)), (21, .long (a1 + v5)), (19, .long (a2 + v3)), (17, .long (a1 + v1)), (16, .int (a5 - (-1))), (15, .int (a5 + (-1))), (14, .int (-1)), (0, .ref (r_ 0)), (1, .int f_), (2, .int sd), (5, .long a2), (7, .long a3), (9, .long a4), (13, .int iA)]) hx hb_ dX12_endOf_131 rfl hl (by decide) rfl (fun ls hl => ?_)
          refine lv_lload hx hb_ dX12_endOf_132 (lv_at hl 5 rfl) ?_
          refine lv_lstore (lv' := [(5, .long (a2 + v3)), (3, .long (a1 + v1)), (12, .int ((a5 - (-1)) + a6)), (11, .int ((a5 + (-1)) + a6)), (23, .long (a2 + v7)), (21, .long (a1 + v5)), (19, .long (a2 + v3)), (17, .long (a1 + v1)), (16, .int (a5 - (-1))), (15, .int (a5 + (-1))), (14, .int (-1)), (0, .ref (r_ 0)), (1, .int f_), (2, .int sd), (7, .long a3), (9, .long a4), (13, .int iA)]) hx hb_ dX12_endOf_134 hl (by decide) rfl (fun ls hl => ?_)
          refine lv_lload hx hb_ dX12_endOf_136 (lv_at hl 5 rfl) ?_
          refine lv_lstore (lv' := [(7, .long (a1 + v5)), (5, .long (a2 + v3)), (3, .long (a1 + v1)), (12, .int ((a5 - (-1)) + a6)), (11, .int ((a5 + (-1)) + a6)), (23, .long (a2 + v7)), (21, .long (a1 + v5)), (19, .long (a2 + v3)), (17, .long (a1 + v1)), (16, .int (a5 - (-1))), (15, .int (a5 + (-1))), (14, .int (-1)), (0, .ref (r_ 0)), (1, .int f_), (2, .int sd), (9, .long a4), (13, .int iA)]) hx hb_ dX12_endOf_138 hl (by decide) rfl (fun ls hl => ?_)
          refine lv_lload hx hb_ dX12_endOf_140 (lv_at hl 5 rfl) ?_
          refine lv_lstore (lv' := [(9, .long (a2 + v7)), (7, .long (a1 + v5)), (5, .long (a2 + v3)), (3, .long (a1 + v1)), (12, .int ((a5 - (-1)) + a6)), (11, .int ((a5 + (-1)) + a6)), (23, .long (a2 + v7)), (21, .long (a1 + v5)), (19, .long (a2 + v3)), (17, .long (a1 + v1)), (16, .int (a5 - (-1))), (15, .int (a5 + (-1))), (14, .int (-1)), (0, .ref (r_ 0)), (1, .int f_), (2, .int sd), (13, .int iA)]) hx hb_ dX12_endOf_142 hl (by decide) rfl (fun ls hl => ?_)
          obtain ⟨i2_, ei2⟩ : ∃ y_ : Int32, y_ = iA + 1 := ⟨_, rfl⟩
          refine lv_iinc (v := i2_) (lv' := [(13, .int i2_), (9, .long (a2 + v7)), (7, .long (a1 + v5)), (5, .long (a2 + v3)), (3, .long (a1 + v1)), (12, .int ((a5 - (-1)) + a6)), (11, .int ((a5 + (-1)) + a6)), (23, .long (a2 + v7)), (21, .long (a1 + v5)), (19, .long (a2 + v3)), (17, .long (a1 + v1)), (16, .int (a5 - (-1))), (15, .int (a5 + (-1))), (14, .int (-1)), (0, .ref (r_ 0)), (1, .int f_), (2, .int sd)]) hx hb_ dX12_endOf_144 hl (k := 16) rfl (by rw [ei2]; rfl) (by decide) rfl (fun ls hl => ?_)
          refine lv_goto (tgt := 20) hx hb_ dX12_endOf_147 (by decide) ?_
          have ht : mT sd (nI jA) = (-1) := by rw [mT, ← eiA]; exact if_neg c_33
          exact ihA (jA + 1) i2_ (by rw [ei2, eiA]; exact nI_1 jA) hlt (by omega) _ _ _ _ _ _ (by show _ = mE1 (mT sd (nI jA)) (mE sd jA); rw [← ha, ht]; rw [hv1, hv3, hv5, hv7]; rfl) _ _ hw ls (lv_sub hl [14, 15, 16, 4, 3, 2, 1, 6, 5, 0] rfl)
        · refine lv_iconst (v := 1) hx hb_ dX12_endOf_36 (by decide) ?_
          refine lv_goto (tgt := 41) hx hb_ dX12_endOf_37 (by decide) ?_
          refine lv_istore (lv' := [(14, .int 1), (0, .ref (r_ 0)), (1, .int f_), (2, .int sd), (3, .long a1), (5, .long a2), (7, .long a3), (9, .long a4), (11, .int a5), (12, .int a6), (13, .int iA)]) hx hb_ dX12_endOf_41 hl (by decide) rfl (fun ls hl => ?_)
          refine lv_iload hx hb_ dX12_endOf_43 (lv_at hl 8 rfl) ?_
          refine lv_iload hx hb_ dX12_endOf_45 (lv_at hl 0 rfl) ?_
          refine lv_iadd hx hb_ dX12_endOf_47 ?_
          refine lv_istore (lv' := [(15, .int (a5 + 1)), (14, .int 1), (0, .ref (r_ 0)), (1, .int f_), (2, .int sd), (3, .long a1), (5, .long a2), (7, .long a3), (9, .long a4), (11, .int a5), (12, .int a6), (13, .int iA)]) hx hb_ dX12_endOf_48 hl (by decide) rfl (fun ls hl => ?_)
          refine lv_iload hx hb_ dX12_endOf_50 (lv_at hl 9 rfl) ?_
          refine lv_iload hx hb_ dX12_endOf_52 (lv_at hl 1 rfl) ?_
          refine lv_isub hx hb_ dX12_endOf_54 ?_
          refine lv_istore (lv' := [(16, .int (a5 - 1)), (15, .int (a5 + 1)), (14, .int 1), (0, .ref (r_ 0)), (1, .int f_), (2, .int sd), (3, .long a1), (5, .long a2), (7, .long a3), (9, .long a4), (11, .int a5), (12, .int a6), (13, .int iA)]) hx hb_ dX12_endOf_55 hl (by decide) rfl (fun ls hl => ?_)
          refine lv_lload_n hx hb_ dX12_endOf_57 rfl (lv_at hl 6 rfl) ?_
          refine lv_aload_n hx hb_ dX12_endOf_58 rfl (lv_at hl 3 rfl) ?_
          refine lv_lload hx hb_ dX12_endOf_59 (lv_at hl 8 rfl) ?_
          refine lv_lload hx hb_ dX12_endOf_61 (lv_at hl 9 rfl) ?_
          refine lv_iload hx hb_ dX12_endOf_63 (lv_at hl 1 rfl) ?_
          refine z_kl hw hA (va_runV (As := [.long a3, .long a4, .int (a5 + 1)]) (rest := [.long a1]) hcf (c_X12_turnX l cD cy _ r_ S_ hSh a3 a4 (a5 + 1)) (cwV 3 hts gX12_endOf_X12_turnX rfl rfl rfl (by decide +kernel) ⟨Nat.le_of_ble_eq_true rfl, Nat.le_of_ble_eq_true rfl⟩) (z_preV (k := 12) hK_ hE hw (mL hSh 0) (mK hSh 0) (by decide) rfl) rfl rfl hl.1 rfl (lv_room (Nat.le_of_ble_eq_true rfl)) dX12_endOf_65 ⟨Nat.le_of_ble_eq_true rfl, Nat.le_of_ble_eq_true rfl⟩) (fun v9 S10 H_ locs_ hp hw => ?_)
          obtain ⟨hv9, rfl⟩ := hp
          refine lv_ladd hx hb_ dX12_endOf_68 ?_
          refine lv_lstore (lv' := [(17, .long (a1 + v9)), (16, .int (a5 - 1)), (15, .int (a5 + 1)), (14, .int 1), (0, .ref (r_ 0)), (1, .int f_), (2, .int sd), (3, .long a1), (5, .long a2), (7, .long a3), (9, .long a4), (11, .int a5), (12, .int a6), (13, .int iA)]) hx hb_ dX12_endOf_69 hl (by decide) rfl (fun ls hl => ?_)
          refine lv_lload hx hb_ dX12_endOf_71 (lv_at hl 8 rfl) ?_
          refine lv_aload_n hx hb_ dX12_endOf_73 rfl (lv_at hl 4 rfl) ?_
          refine lv_lload hx hb_ dX12_endOf_74 (lv_at hl 9 rfl) ?_
          refine lv_lload hx hb_ dX12_endOf_76 (lv_at hl 10 rfl) ?_
          refine lv_iload hx hb_ dX12_endOf_78 (lv_at hl 2 rfl) ?_
          refine z_kl hw hA (va_runV (As := [.long a3, .long a4, .int (a5 + 1)]) (rest := [.long a2]) hcf (c_X12_turnY l cD cy _ r_ S_ hSh a3 a4 (a5 + 1)) (cwV 3 hts gX12_endOf_X12_turnY rfl rfl rfl (by decide +kernel) ⟨Nat.le_of_ble_eq_true rfl, Nat.le_of_ble_eq_true rfl⟩) (z_preV (k := 12) hK_ hE hw (mL hSh 0) (mK hSh 0) (by decide) rfl) rfl rfl hl.1 rfl (lv_room (Nat.le_of_ble_eq_true rfl)) dX12_endOf_80 ⟨Nat.le_of_ble_eq_true rfl, Nat.le_of_ble_eq_true rfl⟩) (fun v11 S12 H_ locs_ hp hw => ?_)
          obtain ⟨hv11, rfl⟩ := hp
          refine lv_ladd hx hb_ dX12_endOf_83 ?_
          refine lv_lstore (lv' := [(19, .long (a2 + v11)), (17, .long (a1 + v9)), (16, .int (a5 - 1)), (15, .int (a5 + 1)), (14, .int 1), (0, .ref (r_ 0)), (1, .int f_), (2, .int sd), (3, .long a1), (5, .long a2), (7, .long a3), (9, .long a4), (11, .int a5), (12, .int a6), (13, .int iA)]) hx hb_ dX12_endOf_84 hl (by decide) rfl (fun ls hl => ?_)
          refine lv_lload_n hx hb_ dX12_endOf_86 rfl (lv_at hl 8 rfl) ?_
          refine lv_aload_n hx hb_ dX12_endOf_87 rfl (lv_at hl 5 rfl) ?_
          refine lv_lload hx hb_ dX12_endOf_88 (lv_at hl 10 rfl) ?_
          refine lv_lload hx hb_ dX12_endOf_90 (lv_at hl 11 rfl) ?_
          refine lv_iload hx hb_ dX12_endOf_92 (lv_at hl 2 rfl) ?_
          refine z_kl hw hA (va_runV (As := [.long a3, .long a4, .int (a5 - 1)]) (rest := [.long a1]) hcf (c_X12_turnX l cD cy _ r_ S_ hSh a3 a4 (a5 - 1)) (cwV 3 hts gX12_endOf_X12_turnX rfl rfl rfl (by decide +kernel) ⟨Nat.le_of_ble_eq_true rfl, Nat.le_of_ble_eq_true rfl⟩) (z_preV (k := 12) hK_ hE hw (mL hSh 0) (mK hSh 0) (by decide) rfl) rfl rfl hl.1 rfl (lv_room (Nat.le_of_ble_eq_true rfl)) dX12_endOf_94 ⟨Nat.le_of_ble_eq_true rfl, Nat.le_of_ble_eq_true rfl⟩) (fun v13 S14 H_ locs_ hp hw => ?_)
          obtain ⟨hv13, rfl⟩ := hp
          refine lv_ladd hx hb_ dX12_endOf_97 ?_
          refine lv_lstore (lv' := [(21, .long (a1 + v13)), (19, .long (a2 + v11)), (17, .long (a1 + v9)), (16, .int (a5 - 1)), (15, .int (a5 + 1)), (14, .int 1), (0, .ref (r_ 0)), (1, .int f_), (2, .int sd), (3, .long a1), (5, .long a2), (7, .long a3), (9, .long a4), (11, .int a5), (12, .int a6), (13, .int iA)]) hx hb_ dX12_endOf_98 hl (by decide) rfl (fun ls hl => ?_)
          refine lv_lload hx hb_ dX12_endOf_100 (lv_at hl 10 rfl) ?_
          refine lv_aload_n hx hb_ dX12_endOf_102 rfl (lv_at hl 6 rfl) ?_
          refine lv_lload hx hb_ dX12_endOf_103 (lv_at hl 11 rfl) ?_
          refine lv_lload hx hb_ dX12_endOf_105 (lv_at hl 12 rfl) ?_
          refine lv_iload hx hb_ dX12_endOf_107 (lv_at hl 3 rfl) ?_
          refine z_kl hw hA (va_runV (As := [.long a3, .long a4, .int (a5 - 1)]) (rest := [.long a2]) hcf (c_X12_turnY l cD cy _ r_ S_ hSh a3 a4 (a5 - 1)) (cwV 3 hts gX12_endOf_X12_turnY rfl rfl rfl (by decide +kernel) ⟨Nat.le_of_ble_eq_true rfl, Nat.le_of_ble_eq_true rfl⟩) (z_preV (k := 12) hK_ hE hw (mL hSh 0) (mK hSh 0) (by decide) rfl) rfl rfl hl.1 rfl (lv_room (Nat.le_of_ble_eq_true rfl)) dX12_endOf_109 ⟨Nat.le_of_ble_eq_true rfl, Nat.le_of_ble_eq_true rfl⟩) (fun v15 S16 H_ locs_ hp hw => ?_)
          obtain ⟨hv15, rfl⟩ := hp
          refine lv_ladd hx hb_ dX12_endOf_112 ?_
          refine lv_lstore (lv' := [(23, .long (a2 + v15)), (21, .long (a1 + v13)), (19, .long (a2 + v11)), (17, .long (a1 + v9)), (16, .int (a5 - 1)), (15, .int (a5 + 1)), (14, .int 1), (0, .ref (r_ 0)), (1, .int f_), (2, .int sd), (3, .long a1), (5, .long a2), (7, .long a3), (9, .long a4), (11, .int a5), (12, .int a6), (13, .int iA)]) hx hb_ dX12_endOf_113 hl (by decide) rfl (fun ls hl => ?_)
          refine lv_iload hx hb_ dX12_endOf_115 (lv_at hl 5 rfl) ?_
          refine lv_iload hx hb_ dX12_endOf_117 (lv_at hl 15 rfl) ?_
          refine lv_iadd hx hb_ dX12_endOf_119 ?_
          refine lv_istore (lv' := [(11, .int ((a5 + 1) + a6)), (23, .long (a2 + v15)), (21, .long (a1 + v13)), (19, .long (a2 + v11)), (17, .long (a1 + v9)), (16, .int (a5 - 1)), (15, .int (a5 + 1)), (14, .int 1), (0, .ref (r_ 0)), (1, .int f_), (2, .int sd), (3, .long a1), (5, .long a2), (7, .long a3), (9, .long a4), (12, .int a6), (13, .int iA)]) hx hb_ dX12_endOf_120 hl (by decide) rfl (fun ls hl => ?_)
          refine lv_iload hx hb_ dX12_endOf_122 (lv_at hl 5 rfl) ?_
          refine lv_iload hx hb_ dX12_endOf_124 (lv_at hl 15 rfl) ?_
          refine lv_iadd hx hb_ dX12_endOf_126 ?_
          refine lv_istore (lv' := [(12, .int ((a5 - 1) + a6)), (11, .int ((a5 + 1) + a6)), (23, .long (a2 + v15)), (21, .long (a1 + v13)), (19, .long (a2 + v11)), (17, .long (a1 + v9)), (16, .int (a5 - 1)), (15, .int (a5 + 1)), (14, .int 1), (0, .ref (r_ 0)), (1, .int f_), (2, .int sd), (3, .long a1), (5, .long a2), (7, .long a3), (9, .long a4), (13, .int iA)]) hx hb_ dX12_endOf_127 hl (by decide) rfl (fun ls hl => ?_)
          refine lv_lload hx hb_ dX12_endOf_129 (lv_at hl 5 rfl) ?_
          refine lv_lstore_n (lv' := [(3, .long (a1 + v9)), (12, .int ((a5 - 1) + a6)), (11, .int ((a5 + 1) + a6)), (23, .long (a2 + v15)), (21, .long (a1 + v13)), (19, .long (a2 + v11)), (17, .long (a1 + v9)), (16, .int (a5 - 1)), (15, .int (a5 + 1)), (14, .int 1), (0, .ref (r_ 0)), (1, .int f_), (2, .int sd), (5, .long a2), (7, .long a3), (9, .long a4), (13, .int iA)]) hx hb_ dX12_endOf_131 rfl hl (by decide) rfl (fun ls hl => ?_)
          refine lv_lload hx hb_ dX12_endOf_132 (lv_at hl 5 rfl) ?_
          refine lv_lstore (lv' := [(5, .long (a2 + v11)), (3, .long (a1 + v9)), (12, .int ((a5 - 1) + a6)), (11, .int ((a5 + 1) + a6)), (23, .long (a2 + v15)), (21, .long (a1 + v13)), (19, .long (a2 + v11)), (17, .long (a1 + v9)), (16, .int (a5 - 1)), (15, .int (a5 + 1)), (14, .int 1), (0, .ref (r_ 0)), (1, .int f_), (2, .int sd), (7, .long a3), (9, .long a4), (13, .int iA)]) hx hb_ dX12_endOf_134 hl (by decide) rfl (fun ls hl => ?_)
          refine lv_lload hx hb_ dX12_endOf_136 (lv_at hl 5 rfl) ?_
          refine lv_lstore (lv' := [(7, .long (a1 + v13)), (5, .long (a2 + v11)), (3, .long (a1 + v9)), (12, .int ((a5 - 1) + a6)), (11, .int ((a5 + 1) + a6)), (23, .long (a2 + v15)), (21, .long (a1 + v13)), (19, .long (a2 + v11)), (17, .long (a1 + v9)), (16, .int (a5 - 1)), (15, .int (a5 + 1)), (14, .int 1), (0, .ref (r_ 0)), (1, .int f_), (2, .int sd), (9, .long a4), (13, .int iA)]) hx hb_ dX12_endOf_138 hl (by decide) rfl (fun ls hl => ?_)
          refine lv_lload hx hb_ dX12_endOf_140 (lv_at hl 5 rfl) ?_
          refine lv_lstore (lv' := [(9, .long (a2 + v15)), (7, .long (a1 + v13)), (5, .long (a2 + v11)), (3, .long (a1 + v9)), (12, .int ((a5 - 1) + a6)), (11, .int ((a5 + 1) + a6)), (23, .long (a2 + v15)), (21, .long (a1 + v13)), (19, .long (a2 + v11)), (17, .long (a1 + v9)), (16, .int (a5 - 1)), (15, .int (a5 + 1)), (14, .int 1), (0, .ref (r_ 0)), (1, .int f_), (2, .int sd), (13, .int iA)]) hx hb_ dX12_endOf_142 hl (by decide) rfl (fun ls hl => ?_)
          obtain ⟨i2_, ei2⟩ : ∃ y_ : Int32, y_ = iA + 1 := ⟨_, rfl⟩
          refine lv_iinc (v := i2_) (lv' := [(13, .int i2_), (9, .long (a2 + v15)), (7, .long (a1 + v13)), (5, .long (a2 + v11)), (3, .long (a1 + v9)), (12, .int ((a5 - 1) + a6)), (11, .int ((a5 + 1) + a6)), (23, .long (a2 + v15)), (21, .long (a1 + v13)), (19, .long (a2 + v11)), (17, .long (a1 + v9)), (16, .int (a5 - 1)), (15, .int (a5 + 1)), (14, .int 1), (0, .ref (r_ 0)), (1, .int f_), (2, .int sd)]) hx hb_ dX12_endOf_144 hl (k := 16) rfl (by rw [ei2]; rfl) (by decide) rfl (fun ls hl => ?_)
          refine lv_goto (tgt := 20) hx hb_ dX12_endOf_147 (by decide) ?_
          have ht : mT sd (nI jA) = 1 := by rw [mT, ← eiA]; exact if_pos c_33
          exact ihA (jA + 1) i2_ (by rw [ei2, eiA]; exact nI_1 jA) hlt (by omega) _ _ _ _ _ _ (by show _ = mE1 (mT sd (nI jA)) (mE sd jA); rw [← ha, ht]; rw [hv9, hv11, hv13, hv15]; rfl) _ _ hw ls (lv_sub hl [14, 15, 16, 4, 3, 2, 1, 6, 5, 0] rfl)
  exact JA (f0 + 1) 0 0 nI_0.symm (Nat.zero_le _) (by omega) 1 0 1 0 0 0 rfl _ _ hw ls (lv_sub hl [7, 8, 9, 6, 5, 4, 3, 2, 1, 0] rfl)

set_option maxHeartbeats 1000000 in
set_option maxRecDepth 100000 in
theorem c_X12_ends (l : Launch) (cD : va_G) (cy : Nat → ClassId) (sz_ : Nat) (r_ : Nat → Nat) (S_ : zS) (hSh : ShM S_ r_) (hF : FrM S_ r_) (f_ x_ y_ w_ : Int32) : Met l yX12_ends wsX12_ends ({ frames := 2, cells := 0, slots := 0, locals := 70 } : Room) (va_Pc [.ref (r_ 0), .int f_, .int x_, .int y_, .int w_] (zPre cD cy S_ sz_)) (va_Qi (fun (v_ : Int32) (S1 : zS) => v_ = q_ends f_ x_ y_ w_) (zPost cD cy (zAd cy S_ sz_)) (zAd cy S_ sz_)) 0 0 (zAd cy S_ sz_) := by
  refine z_ofW (cc := cX12_ends) (maxL := 8) (ret := (some .int)) (own := RX12) (QQ := fun A_ => va_Qi (fun (v_ : Int32) (S1 : zS) => v_ = q_ends f_ x_ y_ w_) (zPost cD cy A_) A_) (by decide) rfl rfl (Nat.le_of_ble_eq_true rfl) ?_
  intro p_ e_ s_ m_ args_ below_ meth_ c_ A_ ls hcf hr hlk hnm hK_ hE hw hA hl
  obtain ⟨hx, hb_, hml, hown, hts⟩ := id hcf
  have hin12 : ∀ w_ ∈ wsX120, w_ ∈ wsX12_ends := fun w_ h_ => (List.mem_cons_of_mem _ (List.mem_append_right _ h_))
  have hl : lv_has ls 8 [(0, .ref (r_ 0)), (1, .int f_), (2, .int x_), (3, .int y_), (4, .int w_)] := hl
  refine lv_iload hx hb_ dX12_ends_0 (lv_at hl 4 rfl) ?_
  refine lv_if_lt (tgt := 11) hx hb_ dX12_ends_2 (by decide) (fun c_2 => ?_) (fun c_2 => ?_)
  · refine lv_aload_n hx hb_ dX12_ends_11 rfl (lv_at hl 0 rfl) ?_
    refine lv_bipush (v := (-5)) hx hb_ dX12_ends_12 (by decide) ?_
    refine z_ki hw hA (va_runV (As := [.int (-5)]) (rest := []) hcf (c_X12_no l cD cy _ r_ S_ hSh (-5) (by decide) (by decide)) (cwV 1 hts gX12_ends_X12_no rfl rfl rfl (by decide +kernel) ⟨Nat.le_of_ble_eq_true rfl, Nat.le_of_ble_eq_true rfl⟩) (z_preV (k := 12) hK_ hE hw (mL hSh 0) (mK hSh 0) (by decide) rfl) rfl rfl hl.1 rfl (lv_room (Nat.le_of_ble_eq_true rfl)) dX12_ends_14 ⟨Nat.le_of_ble_eq_true rfl, Nat.le_of_ble_eq_true rfl⟩) (fun v1 S2 H_ locs_ hp hw => ?_)
    obtain ⟨rfl, f3_, rfl⟩ := hp
    exact z_iret (ty := .int) (v := (-5)) hcf hr rfl hlk hw (by simp [q_ends, c_2]) dX12_ends_17
  · refine lv_iload hx hb_ dX12_ends_5 (lv_at hl 4 rfl) ?_
    refine lv_iconst (v := 1) hx hb_ dX12_ends_7 (by decide) ?_
    refine lv_icmp_le (tgt := 18) hx hb_ dX12_ends_8 (by decide) (fun c_8 => ?_) (fun c_8 => ?_)
    · refine lv_iload_n hx hb_ dX12_ends_18 rfl (lv_at hl 1 rfl) ?_
      refine lv_iconst (v := 1) hx hb_ dX12_ends_19 (by decide) ?_
      refine lv_icmp_lt (tgt := 29) hx hb_ dX12_ends_20 (by decide) (fun c_20 => ?_) (fun c_20 => ?_)
      · refine lv_aload_n hx hb_ dX12_ends_29 rfl (lv_at hl 0 rfl) ?_
        refine lv_bipush (v := (-6)) hx hb_ dX12_ends_30 (by decide) ?_
        refine z_ki hw hA (va_runV (As := [.int (-6)]) (rest := []) hcf (c_X12_no l cD cy _ r_ S_ hSh (-6) (by decide) (by decide)) (cwV 1 hts gX12_ends_X12_no rfl rfl rfl (by decide +kernel) ⟨Nat.le_of_ble_eq_true rfl, Nat.le_of_ble_eq_true rfl⟩) (z_preV (k := 12) hK_ hE hw (mL hSh 0) (mK hSh 0) (by decide) rfl) rfl rfl hl.1 rfl (lv_room (Nat.le_of_ble_eq_true rfl)) dX12_ends_32 ⟨Nat.le_of_ble_eq_true rfl, Nat.le_of_ble_eq_true rfl⟩) (fun v4 S5 H_ locs_ hp hw => ?_)
        obtain ⟨rfl, f6, rfl⟩ := hp
        exact z_iret (ty := .int) (v := (-6)) hcf hr rfl hlk hw (by simp [q_ends, c_2, c_8, c_20]) dX12_ends_35
      · refine lv_iload_n hx hb_ dX12_ends_23 rfl (lv_at hl 1 rfl) ?_
        refine lv_bipush (v := 10) hx hb_ dX12_ends_24 (by decide) ?_
        refine lv_icmp_le (tgt := 36) hx hb_ dX12_ends_26 (by decide) (fun c_26 => ?_) (fun c_26 => ?_)
        · obtain ⟨f0, hf1, hf10, ef⟩ := zx_of (a := 1) (b := 10) c_20 c_26 (by decide) (by decide)
          have h1024 := p2_le f0 (by omega)
          refine lv_iconst (v := 0) hx hb_ dX12_ends_36 (by decide) ?_
          refine lv_istore (lv' := [(5, .int 0), (0, .ref (r_ 0)), (1, .int f_), (2, .int x_), (3, .int y_), (4, .int w_)]) hx hb_ dX12_ends_37 hl (by decide) rfl (fun ls hl => ?_)
          refine lv_iconst (v := (-1)) hx hb_ dX12_ends_39 (by decide) ?_
          refine lv_istore (lv' := [(6, .int (-1)), (5, .int 0), (0, .ref (r_ 0)), (1, .int f_), (2, .int x_), (3, .int y_), (4, .int w_)]) hx hb_ dX12_ends_40 hl (by decide) rfl (fun ls hl => ?_)
          refine lv_iconst (v := 0) hx hb_ dX12_ends_42 (by decide) ?_
          refine lv_istore (lv' := [(7, .int 0), (6, .int (-1)), (5, .int 0), (0, .ref (r_ 0)), (1, .int f_), (2, .int x_), (3, .int y_), (4, .int w_)]) hx hb_ dX12_ends_43 hl (by decide) rfl (fun ls hl => ?_)
          have JB : ∀ (nB jB : Nat) (iB : Int32), iB = nI jB → jB ≤ 2 ^ f0 → 2 ^ f0 < jB + nB → ∀ (cnt fst : Int32), (cnt, fst) = eSt (fun k_ => cB f0 x_ y_ (pop k_)) jB → ∀ (u_ v_ : Int64) (H_ : Heap) (locs_ : List Loc), zPw cD cy A_ s_.heap (zsJ (zsJ S_ 1231 (r_ 0) u_) 1232 (r_ 0) v_) H_ locs_ → ∀ ls : Array Slot, lv_has ls 8 [(0, .ref (r_ 0)), (1, .int f_), (2, .int x_), (3, .int y_), (4, .int w_), (5, .int cnt), (6, .int fst), (7, .int iB)] → W p_ l e_ ({ frames := 2, cells := 0, slots := 0, locals := 70 } : Room) s_ m_ args_ below_ meth_ c_ H_ locs_ 0 0 (MQ below_ (va_Qi (fun (v_ : Int32) (S1 : zS) => v_ = q_ends f_ x_ y_ w_) (zPost cD cy A_) A_) args_ s_ 0 0 A_) (F0 m_ 45 ls []) := by
            intro nB
            induction nB with
            | zero => intro jB iB _ hjB h_; exact absurd h_ (by omega)
            | succ nB ihB =>
              intro jB iB eiB hjB hmB cnt fst hcf2 u_ v_ H_ locs_ hw ls hl
              refine lv_iload hx hb_ dX12_ends_45 (lv_at hl 7 rfl) ?_
              refine lv_iconst (v := 1) hx hb_ dX12_ends_47 (by decide) ?_
              refine lv_iload_n hx hb_ dX12_ends_48 rfl (lv_at hl 1 rfl) ?_
              refine lv_ishl hx hb_ dX12_ends_49 ?_
              refine z_topi (y := (nI (2 ^ f0))) (by rw [ef]; exact shl1 f0 (by omega)) ?_
              refine lv_icmp_ge (tgt := 107) hx hb_ dX12_ends_50 (by decide) (fun c_50 => ?_) (fun c_50 => ?_)
              · refine lv_iload hx hb_ dX12_ends_107 (lv_at hl 4 rfl) ?_
                refine lv_if_ne (tgt := 115) hx hb_ dX12_ends_109 (by decide) (fun c_109 => ?_) (fun c_109 => ?_)
                · refine lv_iload hx hb_ dX12_ends_115 (lv_at hl 6 rfl) ?_
                  refine lv_iconst (v := (-1)) hx hb_ dX12_ends_117 (by decide) ?_
                  refine lv_icmp_ne (tgt := 130) hx hb_ dX12_ends_118 (by decide) (fun c_118 => ?_) (fun c_118 => ?_)
                  · refine lv_iload hx hb_ dX12_ends_130 (lv_at hl 6 rfl) ?_
                    exact z_iret (ty := .int) (v := fst) hcf hr rfl hlk hw (by have hj : jB = 2 ^ f0 := (by have := zn_ge eiB rfl (by omega) c_50; omega); rw [q_ends_in c_2 c_8 c_20 c_26 ef hf10, ← hj, ← hcf2]; simp [q_end2, c_109, c_118]) dX12_ends_132
                  · refine lv_aload_n hx hb_ dX12_ends_121 rfl (lv_at hl 0 rfl) ?_
                    refine lv_bipush (v := (-5)) hx hb_ dX12_ends_122 (by decide) ?_
                    refine z_ki hw hA (va_runV (As := [.int (-5)]) (rest := []) hcf (c_X12_no l cD cy _ r_ (zsJ (zsJ S_ 1231 (r_ 0) u_) 1232 (r_ 0) v_) hSh (-5) (by decide) (by decide)) (cwV 1 hts gX12_ends_X12_no rfl rfl rfl (by decide +kernel) ⟨Nat.le_of_ble_eq_true rfl, Nat.le_of_ble_eq_true rfl⟩) (z_preV (k := 12) hK_ hE hw (mL hSh 0) (mK hSh 0) (by decide) rfl) rfl rfl hl.1 rfl (lv_room (Nat.le_of_ble_eq_true rfl)) dX12_ends_124 ⟨Nat.le_of_ble_eq_true rfl, Nat.le_of_ble_eq_true rfl⟩) (fun v7 S8 H_ locs_ hp hw => ?_)
                    obtain ⟨rfl, f9, rfl⟩ := hp
                    refine lv_goto (tgt := 132) hx hb_ dX12_ends_127 (by decide) ?_
                    exact z_iret (ty := .int) (v := (-5)) hcf hr rfl hlk hw (by have hj : jB = 2 ^ f0 := (by have := zn_ge eiB rfl (by omega) c_50; omega); rw [q_ends_in c_2 c_8 c_20 c_26 ef hf10, ← hj, ← hcf2]; simp [q_end2, c_109, c_118]) dX12_ends_132
                · refine lv_iload hx hb_ dX12_ends_112 (lv_at hl 5 rfl) ?_
                  exact z_iret (ty := .int) (v := cnt) hcf hr rfl hlk hw (by have hj : jB = 2 ^ f0 := (by have := zn_ge eiB rfl (by omega) c_50; omega); rw [q_ends_in c_2 c_8 c_20 c_26 ef hf10, ← hj, ← hcf2]; simp [q_end2, c_109]) dX12_ends_114
              · have hlt : jB < 2 ^ f0 := zn_lt eiB rfl (by omega) c_50
                have hP := mB_eq (x := x_) (y := y_) hf10 hlt
                rw [← eiB] at hP
                refine lv_aload_n hx hb_ dX12_ends_53 rfl (lv_at hl 0 rfl) ?_
                refine lv_iload_n hx hb_ dX12_ends_54 rfl (lv_at hl 1 rfl) ?_
                refine lv_iload hx hb_ dX12_ends_55 (lv_at hl 7 rfl) ?_
                refine z_kv hw hA (va_runV (As := [.int f_, .int iB]) (rest := []) hcf (c_X12_endOf l cD cy _ r_ (zsJ (zsJ S_ 1231 (r_ 0) u_) 1232 (r_ 0) v_) hSh f_ iB f0 ef hf10) (cwV 2 hts gX12_ends_X12_endOf rfl rfl rfl (by decide +kernel) ⟨Nat.le_of_ble_eq_true rfl, Nat.le_of_ble_eq_true rfl⟩) (z_preV (k := 12) hK_ hE hw (mL hSh 0) (mK hSh 0) (by decide) rfl) rfl rfl hl.1 rfl (lv_room (Nat.le_of_ble_eq_true rfl)) dX12_ends_57 ⟨Nat.le_of_ble_eq_true rfl, Nat.le_of_ble_eq_true rfl⟩) (fun S11 H_ locs_ hp hw => ?_)
                obtain rfl := hp
                rw [zsJ_ov (by decide)] at hw
                refine lv_aload_n hx hb_ dX12_ends_60 rfl (lv_at hl 0 rfl) ?_
                refine z_get (k := 12) (i := 31) (j := 1231) (v := .long (mE iB f0).1) (ref := "FoldedInHalfModel") (C := RX12) (T := TX12) (N := 56) hcf hK_ hw hin12 (mL hSh 0) (mK hSh 0) rfl (by decide) (by decide) rfl rfl (congrArg Value.long ((zJ_ne (by decide)).trans zJ_self)) (List.mem_of_getElem? (i := 1) rfl) (fun _ h_ => h_) dX12_ends_61 ?_
                refine lv_iload_n hx hb_ dX12_ends_64 rfl (lv_at hl 2 rfl) ?_
                refine lv_i2l (v := (x_ : Int32).toInt64) hx hb_ dX12_ends_65 rfl ?_
                refine z_lc_ne (tgt := 101) hx hb_ dX12_ends_66 dX12_ends_67 (by decide) (fun c_66 => ?_) (fun c_66 => ?_)
                · obtain ⟨i3, ei3⟩ : ∃ y_ : Int32, y_ = iB + 1 := ⟨_, rfl⟩
                  refine lv_iinc (v := i3) (lv' := [(7, .int i3), (0, .ref (r_ 0)), (1, .int f_), (2, .int x_), (3, .int y_), (4, .int w_), (5, .int cnt), (6, .int fst)]) hx hb_ dX12_ends_101 hl (k := 7) rfl (by rw [ei3]; rfl) (by decide) rfl (fun ls hl => ?_)
                  refine lv_goto (tgt := 45) hx hb_ dX12_ends_104 (by decide) ?_
                  have hst := eM_eS (P := fun k_ => cB f0 x_ y_ (pop k_)) (n := jB) (by omega) (cB f0 x_ y_ (pop jB))
                  have hb_ : ¬ cB f0 x_ y_ (pop jB) = true := fun q_ => c_66 (hP.2 q_).1
                  exact ihB (jB + 1) i3 (by rw [ei3, eiB]; exact nI_1 jB) hlt (by omega) _ _ (by show _ = eS1 (cB f0 x_ y_ (pop jB)) jB _; rw [← hst, eM1, if_neg hb_]; exact hcf2) _ _ _ _ hw ls (lv_sub hl [1, 2, 3, 4, 5, 6, 7, 0] rfl)
                · refine lv_aload_n hx hb_ dX12_ends_70 rfl (lv_at hl 0 rfl) ?_
                  refine z_get (k := 12) (i := 32) (j := 1232) (v := .long (mE iB f0).2.1) (ref := "FoldedInHalfModel") (C := RX12) (T := TX12) (N := 56) hcf hK_ hw hin12 (mL hSh 0) (mK hSh 0) rfl (by decide) (by decide) rfl rfl (congrArg Value.long zJ_self) (List.mem_of_getElem? (i := 2) rfl) (fun _ h_ => h_) dX12_ends_71 ?_
                  refine lv_iload_n hx hb_ dX12_ends_74 rfl (lv_at hl 3 rfl) ?_
                  refine lv_i2l (v := (y_ : Int32).toInt64) hx hb_ dX12_ends_75 rfl ?_
                  refine z_lc_eq (tgt := 83) hx hb_ dX12_ends_76 dX12_ends_77 (by decide) (fun c_76 => ?_) (fun c_76 => ?_)
                  · refine lv_iinc (v := (cnt + 1)) (lv' := [(5, .int (cnt + 1)), (0, .ref (r_ 0)), (1, .int f_), (2, .int x_), (3, .int y_), (4, .int w_), (6, .int fst), (7, .int iB)]) hx hb_ dX12_ends_83 hl (k := 5) rfl rfl (by decide) rfl (fun ls hl => ?_)
                    refine lv_iload hx hb_ dX12_ends_86 (lv_at hl 6 rfl) ?_
                    refine lv_iconst (v := (-1)) hx hb_ dX12_ends_88 (by decide) ?_
                    refine lv_icmp_ne (tgt := 97) hx hb_ dX12_ends_89 (by decide) (fun c_89 => ?_) (fun c_89 => ?_)
                    · refine lv_iload hx hb_ dX12_ends_97 (lv_at hl 6 rfl) ?_
                      refine lv_istore (lv' := [(6, .int fst), (5, .int (cnt + 1)), (0, .ref (r_ 0)), (1, .int f_), (2, .int x_), (3, .int y_), (4, .int w_), (7, .int iB)]) hx hb_ dX12_ends_99 hl (by decide) rfl (fun ls hl => ?_)
                      obtain ⟨i3, ei3⟩ : ∃ y_ : Int32, y_ = iB + 1 := ⟨_, rfl⟩
                      refine lv_iinc (v := i3) (lv' := [(7, .int i3), (6, .int fst), (5, .int (cnt + 1)), (0, .ref (r_ 0)), (1, .int f_), (2, .int x_), (3, .int y_), (4, .int w_)]) hx hb_ dX12_ends_101 hl (k := 7) rfl (by rw [ei3]; rfl) (by decide) rfl (fun ls hl => ?_)
                      refine lv_goto (tgt := 45) hx hb_ dX12_ends_104 (by decide) ?_
                      have hst := eM_eS (P := fun k_ => cB f0 x_ y_ (pop k_)) (n := jB) (by omega) (cB f0 x_ y_ (pop jB))
                      have hb_ : cB f0 x_ y_ (pop jB) = true := hP.1 ⟨c_66, c_76⟩
                      exact ihB (jB + 1) i3 (by rw [ei3, eiB]; exact nI_1 jB) hlt (by omega) _ _ (by show _ = eS1 (cB f0 x_ y_ (pop jB)) jB _; rw [← hst, eM1, if_pos hb_, ← hcf2, ← eiB]; simp [c_89]) _ _ _ _ hw ls (lv_sub hl [3, 4, 5, 6, 7, 2, 1, 0] rfl)
                    · refine lv_iload hx hb_ dX12_ends_92 (lv_at hl 7 rfl) ?_
                      refine lv_goto (tgt := 99) hx hb_ dX12_ends_94 (by decide) ?_
                      refine lv_istore (lv' := [(6, .int iB), (5, .int (cnt + 1)), (0, .ref (r_ 0)), (1, .int f_), (2, .int x_), (3, .int y_), (4, .int w_), (7, .int iB)]) hx hb_ dX12_ends_99 hl (by decide) rfl (fun ls hl => ?_)
                      obtain ⟨i3, ei3⟩ : ∃ y_ : Int32, y_ = iB + 1 := ⟨_, rfl⟩
                      refine lv_iinc (v := i3) (lv' := [(7, .int i3), (6, .int iB), (5, .int (cnt + 1)), (0, .ref (r_ 0)), (1, .int f_), (2, .int x_), (3, .int y_), (4, .int w_)]) hx hb_ dX12_ends_101 hl (k := 7) rfl (by rw [ei3]; rfl) (by decide) rfl (fun ls hl => ?_)
                      refine lv_goto (tgt := 45) hx hb_ dX12_ends_104 (by decide) ?_
                      have hst := eM_eS (P := fun k_ => cB f0 x_ y_ (pop k_)) (n := jB) (by omega) (cB f0 x_ y_ (pop jB))
                      have hb_ : cB f0 x_ y_ (pop jB) = true := hP.1 ⟨c_66, c_76⟩
                      exact ihB (jB + 1) i3 (by rw [ei3, eiB]; exact nI_1 jB) hlt (by omega) _ _ (by show _ = eS1 (cB f0 x_ y_ (pop jB)) jB _; rw [← hst, eM1, if_pos hb_, ← hcf2, ← eiB]; simp [c_89]) _ _ _ _ hw ls (lv_sub hl [3, 4, 5, 6, 7, 2, 1, 0] rfl)
                  · refine lv_goto (tgt := 101) hx hb_ dX12_ends_80 (by decide) ?_
                    obtain ⟨i3, ei3⟩ : ∃ y_ : Int32, y_ = iB + 1 := ⟨_, rfl⟩
                    refine lv_iinc (v := i3) (lv' := [(7, .int i3), (0, .ref (r_ 0)), (1, .int f_), (2, .int x_), (3, .int y_), (4, .int w_), (5, .int cnt), (6, .int fst)]) hx hb_ dX12_ends_101 hl (k := 7) rfl (by rw [ei3]; rfl) (by decide) rfl (fun ls hl => ?_)
                    refine lv_goto (tgt := 45) hx hb_ dX12_ends_104 (by decide) ?_
                    have hst := eM_eS (P := fun k_ => cB f0 x_ y_ (pop k_)) (n := jB) (by omega) (cB f0 x_ y_ (pop jB))
                    have hb_ : ¬ cB f0 x_ y_ (pop jB) = true := fun q_ => c_76 (hP.2 q_).2
                    exact ihB (jB + 1) i3 (by rw [ei3, eiB]; exact nI_1 jB) hlt (by omega) _ _ (by show _ = eS1 (cB f0 x_ y_ (pop jB)) jB _; rw [← hst, eM1, if_neg hb_]; exact hcf2) _ _ _ _ hw ls (lv_sub hl [1, 2, 3, 4, 5, 6, 7, 0] rfl)
          exact JB (2 ^ f0 + 1) 0 0 nI_0.symm (Nat.zero_le _) (by omega) 0 (-1) rfl (zJ S_ 1231 (r_ 0)) (zJ S_ 1232 (r_ 0)) _ _ (by rw [zsJ_self, zsJ_self]; exact hw) ls (lv_sub hl [3, 4, 5, 6, 7, 2, 1, 0] rfl)
        · refine lv_aload_n hx hb_ dX12_ends_29 rfl (lv_at hl 0 rfl) ?_
          refine lv_bipush (v := (-6)) hx hb_ dX12_ends_30 (by decide) ?_
          refine z_ki hw hA (va_runV (As := [.int (-6)]) (rest := []) hcf (c_X12_no l cD cy _ r_ S_ hSh (-6) (by decide) (by decide)) (cwV 1 hts gX12_ends_X12_no rfl rfl rfl (by decide +kernel) ⟨Nat.le_of_ble_eq_true rfl, Nat.le_of_ble_eq_true rfl⟩) (z_preV (k := 12) hK_ hE hw (mL hSh 0) (mK hSh 0) (by decide) rfl) rfl rfl hl.1 rfl (lv_room (Nat.le_of_ble_eq_true rfl)) dX12_ends_32 ⟨Nat.le_of_ble_eq_true rfl, Nat.le_of_ble_eq_true rfl⟩) (fun v12 S13 H_ locs_ hp hw => ?_)
          obtain ⟨rfl, f14, rfl⟩ := hp
          exact z_iret (ty := .int) (v := (-6)) hcf hr rfl hlk hw (by simp [q_ends, c_2, c_8, c_20, c_26]) dX12_ends_35
    · refine lv_aload_n hx hb_ dX12_ends_11 rfl (lv_at hl 0 rfl) ?_
      refine lv_bipush (v := (-5)) hx hb_ dX12_ends_12 (by decide) ?_
      refine z_ki hw hA (va_runV (As := [.int (-5)]) (rest := []) hcf (c_X12_no l cD cy _ r_ S_ hSh (-5) (by decide) (by decide)) (cwV 1 hts gX12_ends_X12_no rfl rfl rfl (by decide +kernel) ⟨Nat.le_of_ble_eq_true rfl, Nat.le_of_ble_eq_true rfl⟩) (z_preV (k := 12) hK_ hE hw (mL hSh 0) (mK hSh 0) (by decide) rfl) rfl rfl hl.1 rfl (lv_room (Nat.le_of_ble_eq_true rfl)) dX12_ends_14 ⟨Nat.le_of_ble_eq_true rfl, Nat.le_of_ble_eq_true rfl⟩) (fun v15 S16 H_ locs_ hp hw => ?_)
      obtain ⟨rfl, f17, rfl⟩ := hp
      exact z_iret (ty := .int) (v := (-5)) hcf hr rfl hlk hw (by simp [q_ends, c_2, c_8]) dX12_ends_17
