set_option maxHeartbeats 4000000 in
set_option maxRecDepth 100000 in
theorem c_X12_init (l : Launch) (cD : va_G) (cy : Nat → ClassId) (sz_ : Nat) (S_ : zS) (x0 : Nat) (hS0 : zL S_ = [x0]) (hL : x0 ∈ zL S_) (hk : zK S_ x0 = 12) (hI0 : ∀ j_, zI S_ j_ x0 = 0) : Met l yX12_init wsX12_init ({ frames := 1, cells := 38, slots := 69369, locals := 20 } : Room) (va_Pc [.ref x0] (zPre cD cy S_ sz_)) (va_Qv (fun (S1 : zS) => ∃ r_ : Nat → Nat, r_ 0 = x0 ∧ ShM S1 r_ ∧ FrM S1 r_) (zPost cD cy (zAd cy S_ sz_)) (zAd cy S_ sz_)) 38 69369 (zAd cy S_ sz_) := by
  refine z_ofW (cc := cX12_init) (maxL := 1) (ret := none) (own := RX12) (QQ := fun A_ => va_Qv (fun (S1 : zS) => ∃ r_ : Nat → Nat, r_ 0 = x0 ∧ ShM S1 r_ ∧ FrM S1 r_) (zPost cD cy A_) A_) (by decide) rfl rfl (Nat.le_of_ble_eq_true rfl) ?_
  intro p_ e_ s_ m_ args_ below_ meth_ c_ A_ ls hcf hr hlk hnm hK_ hE hw hA hl
  obtain ⟨hx, hb_, hml, hown, hts⟩ := id hcf
  have hin12 : ∀ w_ ∈ wsX120, w_ ∈ wsX12_init := fun w_ h_ => (List.mem_cons_of_mem _ (List.mem_append_right _ h_))
  have hl : lv_has ls 1 [(0, .ref x0)] := hl
  have hk00 := hk
  have hL_prev := hL
  refine lv_aload_n hx hb_ dX12_init_0 rfl (lv_at hl 0 rfl) ?_
  refine W.objInit hx hb_ hown (hts (.methodLink RX12 1 objectInit) (by decide +kernel)) (hts (.instanceMethod objectInit) (by decide +kernel)) (hts (.code objectInit ⟨#[0xb1]⟩ 1 none) (by decide +kernel)) rfl (by rw [hml]; exact hl.1) rfl dX12_init_1 (Nat.le_of_ble_eq_true rfl) (Nat.le_of_ble_eq_true rfl) ?_
  refine W.eq (g2 := F0 m_ 4 ls []) rfl ?_
  refine lv_aload_n hx hb_ dX12_init_4 rfl (lv_at hl 0 rfl) ?_
  refine lv_iconst (v := (-1)) hx hb_ dX12_init_5 (by decide) ?_
  refine z_putI (k := 12) (i := 1) (j := 1201) (x := (-1)) (v := .int (-1)) (ty := .int) (ref := "FoldedInHalfModel") (C := RX12) (T := TX12) (N := 56) tyX12 hcf hK_ hw hin12 tyX12_ok nmX12 hL hk rfl (by decide) (by decide) rfl rfl (List.mem_of_getElem? (i := 4) rfl) (fun _ h_ => h_) rfl rfl (by decide +kernel) rfl rfl dX12_init_6 (fun H_ locs_ hw => ?_)
  obtain ⟨T1, eT1⟩ : ∃ z_, z_ = (zsI S_ 1201 x0 (-1)) := ⟨_, rfl⟩
  rw [← eT1] at hw
  have E1 : zGE 1201 1201 0 x0 0 S_ T1 := by rw [eT1]; exact zGE_Ix (zGE_rf hL) (by decide)
  have hk : zK T1 x0 = 12 := E1.2.1.trans hk00
  have hk01 := hk
  have hL : x0 ∈ zL T1 := E1.1
  have hL_prev := hL
  refine lv_aload_n hx hb_ dX12_init_9 rfl (lv_at hl 0 rfl) ?_
  refine lv_bipush (v := 8) hx hb_ dX12_init_10 (by decide) ?_
  refine z_newi (N' := 8) hcf hK_ hw hA (List.mem_of_getElem? (i := 5) rfl) (by decide) (by decide) (by decide) (Nat.le_of_ble_eq_true rfl) (Nat.le_of_ble_eq_true rfl) dX12_init_12 (fun q1 H_ hq_q1 hw => ?_)
  have hne_x0_q1 : x0 ≠ q1 := fun e_ => hq_q1 (e_ ▸ hL)
  have hk : zK (zNew T1 q1 13 8) x0 = 12 := (va_up_ne _ _ hne_x0_q1).trans hk
  have hL : x0 ∈ zL (zNew T1 q1 13 8) := List.mem_append_left _ hL
  have hL_q1 : q1 ∈ zL (zNew T1 q1 13 8) := zNew_m
  have hk_q1 : zK (zNew T1 q1 13 8) q1 = 13 := zNew_K
  have hn_q1 : zN (zNew T1 q1 13 8) q1 = 8 := zNew_N
  refine z_putQF (k := 12) (i := 2) (j := 1202) (x := (some q1)) (v := .ref q1) (ty := (.array .int)) (ref := "FoldedInHalfModel") (C := RX12) (T := TX12) (N := 56) tyX12 hcf hK_ hw hin12 tyX12_ok nmX12 hL hk rfl (by decide) (by decide) rfl rfl (List.mem_of_getElem? (i := 6) rfl) (fun _ h_ => h_) rfl hnm rfl rfl (by decide +kernel) rfl rfl dX12_init_14 (fun H_ locs_ hw => ?_)
  have hL0 := hL_prev
  obtain ⟨T2, eT2⟩ : ∃ z_, z_ = (zsQ (zNew T1 q1 13 8) 1202 x0 (some q1)) := ⟨_, rfl⟩
  rw [← eT2] at hw
  have E2 : zGE 1202 2000 0 x0 0 T1 T2 := by rw [eT2]; exact zGE_Qx (zGE_new (zGE_rf hL0) hq_q1 (Or.inl rfl)) (by decide)
  have hk : zK T2 x0 = 12 := E2.2.1.trans hk01
  have hk02 := hk
  have hL : x0 ∈ zL T2 := E2.1
  have L_q1 : q1 ∈ zL T2 := by rw [eT2]; exact zNew_m
  have K_q1 : zK T2 q1 = 13 := by rw [eT2]; exact zNew_K
  have N_q1 : zN T2 q1 = 8 := by rw [eT2]; exact zNew_N
  have P_q1 : zQ T2 1202 x0 = some q1 := by rw [eT2]; exact zu2_self
  have Z_q1 : zL T2 = zL T1 ++ [q1] := by rw [eT2]; rfl
  have A_q1 : zA T2 q1 = fun _ => 0 := by rw [eT2]; exact zNew_A
  have ne_q1 : q1 ≠ x0 := fun e_ => hq_q1 (e_.symm ▸ hL_prev)
  have hL_prev := hL
  refine lv_aload_n hx hb_ dX12_init_17 rfl (lv_at hl 0 rfl) ?_
  refine lv_bipush (v := 8) hx hb_ dX12_init_18 (by decide) ?_
  refine z_newi (N' := 8) hcf hK_ hw hA (List.mem_of_getElem? (i := 5) rfl) (by decide) (by decide) (by decide) (Nat.le_of_ble_eq_true rfl) (Nat.le_of_ble_eq_true rfl) dX12_init_20 (fun q2 H_ hq_q2 hw => ?_)
  have hne_x0_q2 : x0 ≠ q2 := fun e_ => hq_q2 (e_ ▸ hL)
  have hk : zK (zNew T2 q2 13 8) x0 = 12 := (va_up_ne _ _ hne_x0_q2).trans hk
  have hL : x0 ∈ zL (zNew T2 q2 13 8) := List.mem_append_left _ hL
  have hL_q2 : q2 ∈ zL (zNew T2 q2 13 8) := zNew_m
  have hk_q2 : zK (zNew T2 q2 13 8) q2 = 13 := zNew_K
  have hn_q2 : zN (zNew T2 q2 13 8) q2 = 8 := zNew_N
  refine z_putQF (k := 12) (i := 3) (j := 1203) (x := (some q2)) (v := .ref q2) (ty := (.array .int)) (ref := "FoldedInHalfModel") (C := RX12) (T := TX12) (N := 56) tyX12 hcf hK_ hw hin12 tyX12_ok nmX12 hL hk rfl (by decide) (by decide) rfl rfl (List.mem_of_getElem? (i := 7) rfl) (fun _ h_ => h_) rfl hnm rfl rfl (by decide +kernel) rfl rfl dX12_init_22 (fun H_ locs_ hw => ?_)
  have hL0 := hL_prev
  obtain ⟨T3, eT3⟩ : ∃ z_, z_ = (zsQ (zNew T2 q2 13 8) 1203 x0 (some q2)) := ⟨_, rfl⟩
  rw [← eT3] at hw
  have E3 : zGE 1203 2000 0 x0 0 T2 T3 := by rw [eT3]; exact zGE_Qx (zGE_new (zGE_rf hL0) hq_q2 (Or.inl rfl)) (by decide)
  have hk : zK T3 x0 = 12 := E3.2.1.trans hk02
  have hk03 := hk
  have hL : x0 ∈ zL T3 := E3.1
  have L_q2 : q2 ∈ zL T3 := by rw [eT3]; exact zNew_m
  have K_q2 : zK T3 q2 = 13 := by rw [eT3]; exact zNew_K
  have N_q2 : zN T3 q2 = 8 := by rw [eT3]; exact zNew_N
  have P_q2 : zQ T3 1203 x0 = some q2 := by rw [eT3]; exact zu2_self
  have Z_q2 : zL T3 = zL T2 ++ [q2] := by rw [eT3]; rfl
  have ne_q2 : q2 ≠ x0 := fun e_ => hq_q2 (e_.symm ▸ hL_prev)
  have hL_prev := hL
  refine lv_aload_n hx hb_ dX12_init_25 rfl (lv_at hl 0 rfl) ?_
  refine lv_bipush (v := 8) hx hb_ dX12_init_26 (by decide) ?_
  refine z_newi (N' := 8) hcf hK_ hw hA (List.mem_of_getElem? (i := 5) rfl) (by decide) (by decide) (by decide) (Nat.le_of_ble_eq_true rfl) (Nat.le_of_ble_eq_true rfl) dX12_init_28 (fun q3 H_ hq_q3 hw => ?_)
  have hne_x0_q3 : x0 ≠ q3 := fun e_ => hq_q3 (e_ ▸ hL)
  have hk : zK (zNew T3 q3 13 8) x0 = 12 := (va_up_ne _ _ hne_x0_q3).trans hk
  have hL : x0 ∈ zL (zNew T3 q3 13 8) := List.mem_append_left _ hL
  have hL_q3 : q3 ∈ zL (zNew T3 q3 13 8) := zNew_m
  have hk_q3 : zK (zNew T3 q3 13 8) q3 = 13 := zNew_K
  have hn_q3 : zN (zNew T3 q3 13 8) q3 = 8 := zNew_N
  refine z_putQF (k := 12) (i := 4) (j := 1204) (x := (some q3)) (v := .ref q3) (ty := (.array .int)) (ref := "FoldedInHalfModel") (C := RX12) (T := TX12) (N := 56) tyX12 hcf hK_ hw hin12 tyX12_ok nmX12 hL hk rfl (by decide) (by decide) rfl rfl (List.mem_of_getElem? (i := 8) rfl) (fun _ h_ => h_) rfl hnm rfl rfl (by decide +kernel) rfl rfl dX12_init_30 (fun H_ locs_ hw => ?_)
  have hL0 := hL_prev
  obtain ⟨T4, eT4⟩ : ∃ z_, z_ = (zsQ (zNew T3 q3 13 8) 1204 x0 (some q3)) := ⟨_, rfl⟩
  rw [← eT4] at hw
  have E4 : zGE 1204 2000 0 x0 0 T3 T4 := by rw [eT4]; exact zGE_Qx (zGE_new (zGE_rf hL0) hq_q3 (Or.inl rfl)) (by decide)
  have hk : zK T4 x0 = 12 := E4.2.1.trans hk03
  have hk04 := hk
  have hL : x0 ∈ zL T4 := E4.1
  have L_q3 : q3 ∈ zL T4 := by rw [eT4]; exact zNew_m
  have K_q3 : zK T4 q3 = 13 := by rw [eT4]; exact zNew_K
  have N_q3 : zN T4 q3 = 8 := by rw [eT4]; exact zNew_N
  have P_q3 : zQ T4 1204 x0 = some q3 := by rw [eT4]; exact zu2_self
  have Z_q3 : zL T4 = zL T3 ++ [q3] := by rw [eT4]; rfl
  have ne_q3 : q3 ≠ x0 := fun e_ => hq_q3 (e_.symm ▸ hL_prev)
  have hL_prev := hL
  refine lv_aload_n hx hb_ dX12_init_33 rfl (lv_at hl 0 rfl) ?_
  refine lv_bipush (v := 8) hx hb_ dX12_init_34 (by decide) ?_
  refine z_newi (N' := 8) hcf hK_ hw hA (List.mem_of_getElem? (i := 5) rfl) (by decide) (by decide) (by decide) (Nat.le_of_ble_eq_true rfl) (Nat.le_of_ble_eq_true rfl) dX12_init_36 (fun q4 H_ hq_q4 hw => ?_)
  have hne_x0_q4 : x0 ≠ q4 := fun e_ => hq_q4 (e_ ▸ hL)
  have hk : zK (zNew T4 q4 13 8) x0 = 12 := (va_up_ne _ _ hne_x0_q4).trans hk
  have hL : x0 ∈ zL (zNew T4 q4 13 8) := List.mem_append_left _ hL
  have hL_q4 : q4 ∈ zL (zNew T4 q4 13 8) := zNew_m
  have hk_q4 : zK (zNew T4 q4 13 8) q4 = 13 := zNew_K
  have hn_q4 : zN (zNew T4 q4 13 8) q4 = 8 := zNew_N
  refine z_putQF (k := 12) (i := 5) (j := 1205) (x := (some q4)) (v := .ref q4) (ty := (.array .int)) (ref := "FoldedInHalfModel") (C := RX12) (T := TX12) (N := 56) tyX12 hcf hK_ hw hin12 tyX12_ok nmX12 hL hk rfl (by decide) (by decide) rfl rfl (List.mem_of_getElem? (i := 9) rfl) (fun _ h_ => h_) rfl hnm rfl rfl (by decide +kernel) rfl rfl dX12_init_38 (fun H_ locs_ hw => ?_)
  have hL0 := hL_prev
  obtain ⟨T5, eT5⟩ : ∃ z_, z_ = (zsQ (zNew T4 q4 13 8) 1205 x0 (some q4)) := ⟨_, rfl⟩
  rw [← eT5] at hw
  have E5 : zGE 1205 2000 0 x0 0 T4 T5 := by rw [eT5]; exact zGE_Qx (zGE_new (zGE_rf hL0) hq_q4 (Or.inl rfl)) (by decide)
  have hk : zK T5 x0 = 12 := E5.2.1.trans hk04
  have hk05 := hk
  have hL : x0 ∈ zL T5 := E5.1
  have L_q4 : q4 ∈ zL T5 := by rw [eT5]; exact zNew_m
  have K_q4 : zK T5 q4 = 13 := by rw [eT5]; exact zNew_K
  have N_q4 : zN T5 q4 = 8 := by rw [eT5]; exact zNew_N
  have P_q4 : zQ T5 1205 x0 = some q4 := by rw [eT5]; exact zu2_self
  have Z_q4 : zL T5 = zL T4 ++ [q4] := by rw [eT5]; rfl
  have ne_q4 : q4 ≠ x0 := fun e_ => hq_q4 (e_.symm ▸ hL_prev)
  have hL_prev := hL
  refine lv_aload_n hx hb_ dX12_init_41 rfl (lv_at hl 0 rfl) ?_
  refine lv_bipush (v := 8) hx hb_ dX12_init_42 (by decide) ?_
  refine z_newl (N' := 8) hcf hK_ hw hA (List.mem_of_getElem? (i := 10) rfl) (by decide) (by decide) (by decide) (Nat.le_of_ble_eq_true rfl) (Nat.le_of_ble_eq_true rfl) dX12_init_44 (fun q5 H_ hq_q5 hw => ?_)
  have hne_x0_q5 : x0 ≠ q5 := fun e_ => hq_q5 (e_ ▸ hL)
  have hk : zK (zNew T5 q5 14 8) x0 = 12 := (va_up_ne _ _ hne_x0_q5).trans hk
  have hL : x0 ∈ zL (zNew T5 q5 14 8) := List.mem_append_left _ hL
  have hL_q5 : q5 ∈ zL (zNew T5 q5 14 8) := zNew_m
  have hk_q5 : zK (zNew T5 q5 14 8) q5 = 14 := zNew_K
  have hn_q5 : zN (zNew T5 q5 14 8) q5 = 8 := zNew_N
  refine z_putQF (k := 12) (i := 6) (j := 1206) (x := (some q5)) (v := .ref q5) (ty := (.array .long)) (ref := "FoldedInHalfModel") (C := RX12) (T := TX12) (N := 56) tyX12 hcf hK_ hw hin12 tyX12_ok nmX12 hL hk rfl (by decide) (by decide) rfl rfl (List.mem_of_getElem? (i := 11) rfl) (fun _ h_ => h_) rfl hnm rfl rfl (by decide +kernel) rfl rfl dX12_init_46 (fun H_ locs_ hw => ?_)
  have hL0 := hL_prev
  obtain ⟨T6, eT6⟩ : ∃ z_, z_ = (zsQ (zNew T5 q5 14 8) 1206 x0 (some q5)) := ⟨_, rfl⟩
  rw [← eT6] at hw
  have E6 : zGE 1206 2000 0 x0 0 T5 T6 := by rw [eT6]; exact zGE_Qx (zGE_new (zGE_rf hL0) hq_q5 (Or.inl rfl)) (by decide)
  have hk : zK T6 x0 = 12 := E6.2.1.trans hk05
  have hk06 := hk
  have hL : x0 ∈ zL T6 := E6.1
  have L_q5 : q5 ∈ zL T6 := by rw [eT6]; exact zNew_m
  have K_q5 : zK T6 q5 = 14 := by rw [eT6]; exact zNew_K
  have N_q5 : zN T6 q5 = 8 := by rw [eT6]; exact zNew_N
  have P_q5 : zQ T6 1206 x0 = some q5 := by rw [eT6]; exact zu2_self
  have Z_q5 : zL T6 = zL T5 ++ [q5] := by rw [eT6]; rfl
  have ne_q5 : q5 ≠ x0 := fun e_ => hq_q5 (e_.symm ▸ hL_prev)
  have hL_prev := hL
  refine lv_aload_n hx hb_ dX12_init_49 rfl (lv_at hl 0 rfl) ?_
  refine lv_bipush (v := 8) hx hb_ dX12_init_50 (by decide) ?_
  refine z_newi (N' := 8) hcf hK_ hw hA (List.mem_of_getElem? (i := 5) rfl) (by decide) (by decide) (by decide) (Nat.le_of_ble_eq_true rfl) (Nat.le_of_ble_eq_true rfl) dX12_init_52 (fun q6 H_ hq_q6 hw => ?_)
  have hne_x0_q6 : x0 ≠ q6 := fun e_ => hq_q6 (e_ ▸ hL)
  have hk : zK (zNew T6 q6 13 8) x0 = 12 := (va_up_ne _ _ hne_x0_q6).trans hk
  have hL : x0 ∈ zL (zNew T6 q6 13 8) := List.mem_append_left _ hL
  have hL_q6 : q6 ∈ zL (zNew T6 q6 13 8) := zNew_m
  have hk_q6 : zK (zNew T6 q6 13 8) q6 = 13 := zNew_K
  have hn_q6 : zN (zNew T6 q6 13 8) q6 = 8 := zNew_N
  refine z_putQF (k := 12) (i := 7) (j := 1207) (x := (some q6)) (v := .ref q6) (ty := (.array .int)) (ref := "FoldedInHalfModel") (C := RX12) (T := TX12) (N := 56) tyX12 hcf hK_ hw hin12 tyX12_ok nmX12 hL hk rfl (by decide) (by decide) rfl rfl (List.mem_of_getElem? (i := 12) rfl) (fun _ h_ => h_) rfl hnm rfl rfl (by decide +kernel) rfl rfl dX12_init_54 (fun H_ locs_ hw => ?_)
  have hL0 := hL_prev
  obtain ⟨T7, eT7⟩ : ∃ z_, z_ = (zsQ (zNew T6 q6 13 8) 1207 x0 (some q6)) := ⟨_, rfl⟩
  rw [← eT7] at hw
  have E7 : zGE 1207 2000 0 x0 0 T6 T7 := by rw [eT7]; exact zGE_Qx (zGE_new (zGE_rf hL0) hq_q6 (Or.inl rfl)) (by decide)
  have hk : zK T7 x0 = 12 := E7.2.1.trans hk06
  have hk07 := hk
  have hL : x0 ∈ zL T7 := E7.1
  have L_q6 : q6 ∈ zL T7 := by rw [eT7]; exact zNew_m
  have K_q6 : zK T7 q6 = 13 := by rw [eT7]; exact zNew_K
  have N_q6 : zN T7 q6 = 8 := by rw [eT7]; exact zNew_N
  have P_q6 : zQ T7 1207 x0 = some q6 := by rw [eT7]; exact zu2_self
  have Z_q6 : zL T7 = zL T6 ++ [q6] := by rw [eT7]; rfl
  have A_q6 : zA T7 q6 = fun _ => 0 := by rw [eT7]; exact zNew_A
  have ne_q6 : q6 ≠ x0 := fun e_ => hq_q6 (e_.symm ▸ hL_prev)
  have hL_prev := hL
  refine lv_aload_n hx hb_ dX12_init_57 rfl (lv_at hl 0 rfl) ?_
  refine lv_bipush (v := 8) hx hb_ dX12_init_58 (by decide) ?_
  refine z_newi (N' := 8) hcf hK_ hw hA (List.mem_of_getElem? (i := 5) rfl) (by decide) (by decide) (by decide) (Nat.le_of_ble_eq_true rfl) (Nat.le_of_ble_eq_true rfl) dX12_init_60 (fun q7 H_ hq_q7 hw => ?_)
  have hne_x0_q7 : x0 ≠ q7 := fun e_ => hq_q7 (e_ ▸ hL)
  have hk : zK (zNew T7 q7 13 8) x0 = 12 := (va_up_ne _ _ hne_x0_q7).trans hk
  have hL : x0 ∈ zL (zNew T7 q7 13 8) := List.mem_append_left _ hL
  have hL_q7 : q7 ∈ zL (zNew T7 q7 13 8) := zNew_m
  have hk_q7 : zK (zNew T7 q7 13 8) q7 = 13 := zNew_K
  have hn_q7 : zN (zNew T7 q7 13 8) q7 = 8 := zNew_N
  refine z_putQF (k := 12) (i := 8) (j := 1208) (x := (some q7)) (v := .ref q7) (ty := (.array .int)) (ref := "FoldedInHalfModel") (C := RX12) (T := TX12) (N := 56) tyX12 hcf hK_ hw hin12 tyX12_ok nmX12 hL hk rfl (by decide) (by decide) rfl rfl (List.mem_of_getElem? (i := 13) rfl) (fun _ h_ => h_) rfl hnm rfl rfl (by decide +kernel) rfl rfl dX12_init_62 (fun H_ locs_ hw => ?_)
  have hL0 := hL_prev
  obtain ⟨T8, eT8⟩ : ∃ z_, z_ = (zsQ (zNew T7 q7 13 8) 1208 x0 (some q7)) := ⟨_, rfl⟩
  rw [← eT8] at hw
  have E8 : zGE 1208 2000 0 x0 0 T7 T8 := by rw [eT8]; exact zGE_Qx (zGE_new (zGE_rf hL0) hq_q7 (Or.inl rfl)) (by decide)
  have hk : zK T8 x0 = 12 := E8.2.1.trans hk07
  have hk08 := hk
  have hL : x0 ∈ zL T8 := E8.1
  have L_q7 : q7 ∈ zL T8 := by rw [eT8]; exact zNew_m
  have K_q7 : zK T8 q7 = 13 := by rw [eT8]; exact zNew_K
  have N_q7 : zN T8 q7 = 8 := by rw [eT8]; exact zNew_N
  have P_q7 : zQ T8 1208 x0 = some q7 := by rw [eT8]; exact zu2_self
  have Z_q7 : zL T8 = zL T7 ++ [q7] := by rw [eT8]; rfl
  have ne_q7 : q7 ≠ x0 := fun e_ => hq_q7 (e_.symm ▸ hL_prev)
  have hL_prev := hL
  refine lv_aload_n hx hb_ dX12_init_65 rfl (lv_at hl 0 rfl) ?_
  refine lv_bipush (v := 8) hx hb_ dX12_init_66 (by decide) ?_
  refine z_newi (N' := 8) hcf hK_ hw hA (List.mem_of_getElem? (i := 5) rfl) (by decide) (by decide) (by decide) (Nat.le_of_ble_eq_true rfl) (Nat.le_of_ble_eq_true rfl) dX12_init_68 (fun q8 H_ hq_q8 hw => ?_)
  have hne_x0_q8 : x0 ≠ q8 := fun e_ => hq_q8 (e_ ▸ hL)
  have hk : zK (zNew T8 q8 13 8) x0 = 12 := (va_up_ne _ _ hne_x0_q8).trans hk
  have hL : x0 ∈ zL (zNew T8 q8 13 8) := List.mem_append_left _ hL
  have hL_q8 : q8 ∈ zL (zNew T8 q8 13 8) := zNew_m
  have hk_q8 : zK (zNew T8 q8 13 8) q8 = 13 := zNew_K
  have hn_q8 : zN (zNew T8 q8 13 8) q8 = 8 := zNew_N
  refine z_putQF (k := 12) (i := 9) (j := 1209) (x := (some q8)) (v := .ref q8) (ty := (.array .int)) (ref := "FoldedInHalfModel") (C := RX12) (T := TX12) (N := 56) tyX12 hcf hK_ hw hin12 tyX12_ok nmX12 hL hk rfl (by decide) (by decide) rfl rfl (List.mem_of_getElem? (i := 14) rfl) (fun _ h_ => h_) rfl hnm rfl rfl (by decide +kernel) rfl rfl dX12_init_70 (fun H_ locs_ hw => ?_)
  have hL0 := hL_prev
  obtain ⟨T9, eT9⟩ : ∃ z_, z_ = (zsQ (zNew T8 q8 13 8) 1209 x0 (some q8)) := ⟨_, rfl⟩
  rw [← eT9] at hw
  have E9 : zGE 1209 2000 0 x0 0 T8 T9 := by rw [eT9]; exact zGE_Qx (zGE_new (zGE_rf hL0) hq_q8 (Or.inl rfl)) (by decide)
  have hk : zK T9 x0 = 12 := E9.2.1.trans hk08
  have hk09 := hk
  have hL : x0 ∈ zL T9 := E9.1
  have L_q8 : q8 ∈ zL T9 := by rw [eT9]; exact zNew_m
  have K_q8 : zK T9 q8 = 13 := by rw [eT9]; exact zNew_K
  have N_q8 : zN T9 q8 = 8 := by rw [eT9]; exact zNew_N
  have P_q8 : zQ T9 1209 x0 = some q8 := by rw [eT9]; exact zu2_self
  have Z_q8 : zL T9 = zL T8 ++ [q8] := by rw [eT9]; rfl
  have ne_q8 : q8 ≠ x0 := fun e_ => hq_q8 (e_.symm ▸ hL_prev)
  have hL_prev := hL
  refine lv_aload_n hx hb_ dX12_init_73 rfl (lv_at hl 0 rfl) ?_
  refine lv_bipush (v := 8) hx hb_ dX12_init_74 (by decide) ?_
  refine z_newi (N' := 8) hcf hK_ hw hA (List.mem_of_getElem? (i := 5) rfl) (by decide) (by decide) (by decide) (Nat.le_of_ble_eq_true rfl) (Nat.le_of_ble_eq_true rfl) dX12_init_76 (fun q9 H_ hq_q9 hw => ?_)
  have hne_x0_q9 : x0 ≠ q9 := fun e_ => hq_q9 (e_ ▸ hL)
  have hk : zK (zNew T9 q9 13 8) x0 = 12 := (va_up_ne _ _ hne_x0_q9).trans hk
  have hL : x0 ∈ zL (zNew T9 q9 13 8) := List.mem_append_left _ hL
  have hL_q9 : q9 ∈ zL (zNew T9 q9 13 8) := zNew_m
  have hk_q9 : zK (zNew T9 q9 13 8) q9 = 13 := zNew_K
  have hn_q9 : zN (zNew T9 q9 13 8) q9 = 8 := zNew_N
  refine z_putQF (k := 12) (i := 10) (j := 1210) (x := (some q9)) (v := .ref q9) (ty := (.array .int)) (ref := "FoldedInHalfModel") (C := RX12) (T := TX12) (N := 56) tyX12 hcf hK_ hw hin12 tyX12_ok nmX12 hL hk rfl (by decide) (by decide) rfl rfl (List.mem_of_getElem? (i := 15) rfl) (fun _ h_ => h_) rfl hnm rfl rfl (by decide +kernel) rfl rfl dX12_init_78 (fun H_ locs_ hw => ?_)
  have hL0 := hL_prev
  obtain ⟨T10, eT10⟩ : ∃ z_, z_ = (zsQ (zNew T9 q9 13 8) 1210 x0 (some q9)) := ⟨_, rfl⟩
  rw [← eT10] at hw
  have E10 : zGE 1210 2000 0 x0 0 T9 T10 := by rw [eT10]; exact zGE_Qx (zGE_new (zGE_rf hL0) hq_q9 (Or.inl rfl)) (by decide)
  have hk : zK T10 x0 = 12 := E10.2.1.trans hk09
  have hk010 := hk
  have hL : x0 ∈ zL T10 := E10.1
  have L_q9 : q9 ∈ zL T10 := by rw [eT10]; exact zNew_m
  have K_q9 : zK T10 q9 = 13 := by rw [eT10]; exact zNew_K
  have N_q9 : zN T10 q9 = 8 := by rw [eT10]; exact zNew_N
  have P_q9 : zQ T10 1210 x0 = some q9 := by rw [eT10]; exact zu2_self
  have Z_q9 : zL T10 = zL T9 ++ [q9] := by rw [eT10]; rfl
  have ne_q9 : q9 ≠ x0 := fun e_ => hq_q9 (e_.symm ▸ hL_prev)
  have hL_prev := hL
  refine lv_aload_n hx hb_ dX12_init_81 rfl (lv_at hl 0 rfl) ?_
  refine lv_sipush (v := 1280) hx hb_ dX12_init_82 (by decide) ?_
  refine z_newl (N' := 1280) hcf hK_ hw hA (List.mem_of_getElem? (i := 10) rfl) (by decide) (by decide) (by decide) (Nat.le_of_ble_eq_true rfl) (Nat.le_of_ble_eq_true rfl) dX12_init_85 (fun q10 H_ hq_q10 hw => ?_)
  have hne_x0_q10 : x0 ≠ q10 := fun e_ => hq_q10 (e_ ▸ hL)
  have hk : zK (zNew T10 q10 14 1280) x0 = 12 := (va_up_ne _ _ hne_x0_q10).trans hk
  have hL : x0 ∈ zL (zNew T10 q10 14 1280) := List.mem_append_left _ hL
  have hL_q10 : q10 ∈ zL (zNew T10 q10 14 1280) := zNew_m
  have hk_q10 : zK (zNew T10 q10 14 1280) q10 = 14 := zNew_K
  have hn_q10 : zN (zNew T10 q10 14 1280) q10 = 1280 := zNew_N
  refine z_putQF (k := 12) (i := 11) (j := 1211) (x := (some q10)) (v := .ref q10) (ty := (.array .long)) (ref := "FoldedInHalfModel") (C := RX12) (T := TX12) (N := 56) tyX12 hcf hK_ hw hin12 tyX12_ok nmX12 hL hk rfl (by decide) (by decide) rfl rfl (List.mem_of_getElem? (i := 16) rfl) (fun _ h_ => h_) rfl hnm rfl rfl (by decide +kernel) rfl rfl dX12_init_87 (fun H_ locs_ hw => ?_)
  have hL0 := hL_prev
  obtain ⟨T11, eT11⟩ : ∃ z_, z_ = (zsQ (zNew T10 q10 14 1280) 1211 x0 (some q10)) := ⟨_, rfl⟩
  rw [← eT11] at hw
  have E11 : zGE 1211 2000 0 x0 0 T10 T11 := by rw [eT11]; exact zGE_Qx (zGE_new (zGE_rf hL0) hq_q10 (Or.inl rfl)) (by decide)
  have hk : zK T11 x0 = 12 := E11.2.1.trans hk010
  have hk011 := hk
  have hL : x0 ∈ zL T11 := E11.1
  have L_q10 : q10 ∈ zL T11 := by rw [eT11]; exact zNew_m
  have K_q10 : zK T11 q10 = 14 := by rw [eT11]; exact zNew_K
  have N_q10 : zN T11 q10 = 1280 := by rw [eT11]; exact zNew_N
  have P_q10 : zQ T11 1211 x0 = some q10 := by rw [eT11]; exact zu2_self
  have Z_q10 : zL T11 = zL T10 ++ [q10] := by rw [eT11]; rfl
  have ne_q10 : q10 ≠ x0 := fun e_ => hq_q10 (e_.symm ▸ hL_prev)
  have hL_prev := hL
  refine lv_aload_n hx hb_ dX12_init_90 rfl (lv_at hl 0 rfl) ?_
  refine lv_sipush (v := 160) hx hb_ dX12_init_91 (by decide) ?_
  refine z_newl (N' := 160) hcf hK_ hw hA (List.mem_of_getElem? (i := 10) rfl) (by decide) (by decide) (by decide) (Nat.le_of_ble_eq_true rfl) (Nat.le_of_ble_eq_true rfl) dX12_init_94 (fun q11 H_ hq_q11 hw => ?_)
  have hne_x0_q11 : x0 ≠ q11 := fun e_ => hq_q11 (e_ ▸ hL)
  have hk : zK (zNew T11 q11 14 160) x0 = 12 := (va_up_ne _ _ hne_x0_q11).trans hk
  have hL : x0 ∈ zL (zNew T11 q11 14 160) := List.mem_append_left _ hL
  have hL_q11 : q11 ∈ zL (zNew T11 q11 14 160) := zNew_m
  have hk_q11 : zK (zNew T11 q11 14 160) q11 = 14 := zNew_K
  have hn_q11 : zN (zNew T11 q11 14 160) q11 = 160 := zNew_N
  refine z_putQF (k := 12) (i := 12) (j := 1212) (x := (some q11)) (v := .ref q11) (ty := (.array .long)) (ref := "FoldedInHalfModel") (C := RX12) (T := TX12) (N := 56) tyX12 hcf hK_ hw hin12 tyX12_ok nmX12 hL hk rfl (by decide) (by decide) rfl rfl (List.mem_of_getElem? (i := 17) rfl) (fun _ h_ => h_) rfl hnm rfl rfl (by decide +kernel) rfl rfl dX12_init_96 (fun H_ locs_ hw => ?_)
  have hL0 := hL_prev
  obtain ⟨T12, eT12⟩ : ∃ z_, z_ = (zsQ (zNew T11 q11 14 160) 1212 x0 (some q11)) := ⟨_, rfl⟩
  rw [← eT12] at hw
  have E12 : zGE 1212 2000 0 x0 0 T11 T12 := by rw [eT12]; exact zGE_Qx (zGE_new (zGE_rf hL0) hq_q11 (Or.inl rfl)) (by decide)
  have hk : zK T12 x0 = 12 := E12.2.1.trans hk011
  have hk012 := hk
  have hL : x0 ∈ zL T12 := E12.1
  have L_q11 : q11 ∈ zL T12 := by rw [eT12]; exact zNew_m
  have K_q11 : zK T12 q11 = 14 := by rw [eT12]; exact zNew_K
  have N_q11 : zN T12 q11 = 160 := by rw [eT12]; exact zNew_N
  have P_q11 : zQ T12 1212 x0 = some q11 := by rw [eT12]; exact zu2_self
  have Z_q11 : zL T12 = zL T11 ++ [q11] := by rw [eT12]; rfl
  have ne_q11 : q11 ≠ x0 := fun e_ => hq_q11 (e_.symm ▸ hL_prev)
  have hL_prev := hL
  refine lv_aload_n hx hb_ dX12_init_99 rfl (lv_at hl 0 rfl) ?_
  refine lv_bipush (v := 19) hx hb_ dX12_init_100 (by decide) ?_
  refine z_newi (N' := 19) hcf hK_ hw hA (List.mem_of_getElem? (i := 5) rfl) (by decide) (by decide) (by decide) (Nat.le_of_ble_eq_true rfl) (Nat.le_of_ble_eq_true rfl) dX12_init_102 (fun q12 H_ hq_q12 hw => ?_)
  have hne_x0_q12 : x0 ≠ q12 := fun e_ => hq_q12 (e_ ▸ hL)
  have hk : zK (zNew T12 q12 13 19) x0 = 12 := (va_up_ne _ _ hne_x0_q12).trans hk
  have hL : x0 ∈ zL (zNew T12 q12 13 19) := List.mem_append_left _ hL
  have hL_q12 : q12 ∈ zL (zNew T12 q12 13 19) := zNew_m
  have hk_q12 : zK (zNew T12 q12 13 19) q12 = 13 := zNew_K
  have hn_q12 : zN (zNew T12 q12 13 19) q12 = 19 := zNew_N
  refine lv_dup hx hb_ dX12_init_104 rfl ?_
  refine lv_iconst (v := 0) hx hb_ dX12_init_105 (by decide) ?_
  refine lv_bipush (v := 115) hx hb_ dX12_init_106 (by decide) ?_
  refine z_iast (n := 19) hcf hK_ hw hL_q12 hk_q12 hn_q12 (by unfold vp_in; decide) dX12_init_108 (fun H_ locs_ hw => ?_)
  obtain ⟨f13, ef13⟩ : ∃ zz, zz = (upd (zA (zNew T12 q12 13 19) q12) (0 : Int32).toNatClampNeg 115) := ⟨_, rfl⟩
  rw [← ef13] at hw
  refine lv_dup hx hb_ dX12_init_109 rfl ?_
  refine lv_iconst (v := 1) hx hb_ dX12_init_110 (by decide) ?_
  refine lv_bipush (v := 116) hx hb_ dX12_init_111 (by decide) ?_
  refine z_iast (n := 19) hcf hK_ hw hL_q12 hk_q12 hn_q12 (by unfold vp_in; decide) dX12_init_113 (fun H_ locs_ hw => ?_)
  obtain ⟨f14, ef14⟩ : ∃ zz, zz = (upd (zA (zsA (zNew T12 q12 13 19) q12 f13) q12) (1 : Int32).toNatClampNeg 116) := ⟨_, rfl⟩
  rw [← ef14, zsA_zsA] at hw
  refine lv_dup hx hb_ dX12_init_114 rfl ?_
  refine lv_iconst (v := 2) hx hb_ dX12_init_115 (by decide) ?_
  refine lv_bipush (v := 114) hx hb_ dX12_init_116 (by decide) ?_
  refine z_iast (n := 19) hcf hK_ hw hL_q12 hk_q12 hn_q12 (by unfold vp_in; decide) dX12_init_118 (fun H_ locs_ hw => ?_)
  obtain ⟨f15, ef15⟩ : ∃ zz, zz = (upd (zA (zsA (zNew T12 q12 13 19) q12 f14) q12) (2 : Int32).toNatClampNeg 114) := ⟨_, rfl⟩
  rw [← ef15, zsA_zsA] at hw
  refine lv_dup hx hb_ dX12_init_119 rfl ?_
  refine lv_iconst (v := 3) hx hb_ dX12_init_120 (by decide) ?_
  refine lv_bipush (v := 105) hx hb_ dX12_init_121 (by decide) ?_
  refine z_iast (n := 19) hcf hK_ hw hL_q12 hk_q12 hn_q12 (by unfold vp_in; decide) dX12_init_123 (fun H_ locs_ hw => ?_)
  obtain ⟨f16, ef16⟩ : ∃ zz, zz = (upd (zA (zsA (zNew T12 q12 13 19) q12 f15) q12) (3 : Int32).toNatClampNeg 105) := ⟨_, rfl⟩
  rw [← ef16, zsA_zsA] at hw
  refine lv_dup hx hb_ dX12_init_124 rfl ?_
  refine lv_iconst (v := 4) hx hb_ dX12_init_125 (by decide) ?_
  refine lv_bipush (v := 112) hx hb_ dX12_init_126 (by decide) ?_
  refine z_iast (n := 19) hcf hK_ hw hL_q12 hk_q12 hn_q12 (by unfold vp_in; decide) dX12_init_128 (fun H_ locs_ hw => ?_)
  obtain ⟨f17, ef17⟩ : ∃ zz, zz = (upd (zA (zsA (zNew T12 q12 13 19) q12 f16) q12) (4 : Int32).toNatClampNeg 112) := ⟨_, rfl⟩
  rw [← ef17, zsA_zsA] at hw
  refine lv_dup hx hb_ dX12_init_129 rfl ?_
  refine lv_iconst (v := 5) hx hb_ dX12_init_130 (by decide) ?_
  refine lv_bipush (v := 32) hx hb_ dX12_init_131 (by decide) ?_
  refine z_iast (n := 19) hcf hK_ hw hL_q12 hk_q12 hn_q12 (by unfold vp_in; decide) dX12_init_133 (fun H_ locs_ hw => ?_)
  obtain ⟨f18, ef18⟩ : ∃ zz, zz = (upd (zA (zsA (zNew T12 q12 13 19) q12 f17) q12) (5 : Int32).toNatClampNeg 32) := ⟨_, rfl⟩
  rw [← ef18, zsA_zsA] at hw
  refine lv_dup hx hb_ dX12_init_134 rfl ?_
  refine lv_bipush (v := 6) hx hb_ dX12_init_135 (by decide) ?_
  refine lv_iconst (v := 0) hx hb_ dX12_init_137 (by decide) ?_
  refine z_iast (n := 19) hcf hK_ hw hL_q12 hk_q12 hn_q12 (by unfold vp_in; decide) dX12_init_138 (fun H_ locs_ hw => ?_)
  obtain ⟨f19, ef19⟩ : ∃ zz, zz = (upd (zA (zsA (zNew T12 q12 13 19) q12 f18) q12) (6 : Int32).toNatClampNeg 0) := ⟨_, rfl⟩
  rw [← ef19, zsA_zsA] at hw
  refine lv_dup hx hb_ dX12_init_139 rfl ?_
  refine lv_bipush (v := 7) hx hb_ dX12_init_140 (by decide) ?_
  refine lv_bipush (v := 116) hx hb_ dX12_init_142 (by decide) ?_
  refine z_iast (n := 19) hcf hK_ hw hL_q12 hk_q12 hn_q12 (by unfold vp_in; decide) dX12_init_144 (fun H_ locs_ hw => ?_)
  obtain ⟨f20, ef20⟩ : ∃ zz, zz = (upd (zA (zsA (zNew T12 q12 13 19) q12 f19) q12) (7 : Int32).toNatClampNeg 116) := ⟨_, rfl⟩
  rw [← ef20, zsA_zsA] at hw
  refine lv_dup hx hb_ dX12_init_145 rfl ?_
  refine lv_bipush (v := 8) hx hb_ dX12_init_146 (by decide) ?_
  refine lv_bipush (v := 117) hx hb_ dX12_init_148 (by decide) ?_
  refine z_iast (n := 19) hcf hK_ hw hL_q12 hk_q12 hn_q12 (by unfold vp_in; decide) dX12_init_150 (fun H_ locs_ hw => ?_)
  obtain ⟨f21, ef21⟩ : ∃ zz, zz = (upd (zA (zsA (zNew T12 q12 13 19) q12 f20) q12) (8 : Int32).toNatClampNeg 117) := ⟨_, rfl⟩
  rw [← ef21, zsA_zsA] at hw
  refine lv_dup hx hb_ dX12_init_151 rfl ?_
  refine lv_bipush (v := 9) hx hb_ dX12_init_152 (by decide) ?_
  refine lv_bipush (v := 114) hx hb_ dX12_init_154 (by decide) ?_
  refine z_iast (n := 19) hcf hK_ hw hL_q12 hk_q12 hn_q12 (by unfold vp_in; decide) dX12_init_156 (fun H_ locs_ hw => ?_)
  obtain ⟨f22, ef22⟩ : ∃ zz, zz = (upd (zA (zsA (zNew T12 q12 13 19) q12 f21) q12) (9 : Int32).toNatClampNeg 114) := ⟨_, rfl⟩
  rw [← ef22, zsA_zsA] at hw
  refine lv_dup hx hb_ dX12_init_157 rfl ?_
  refine lv_bipush (v := 10) hx hb_ dX12_init_158 (by decide) ?_
  refine lv_bipush (v := 110) hx hb_ dX12_init_160 (by decide) ?_
  refine z_iast (n := 19) hcf hK_ hw hL_q12 hk_q12 hn_q12 (by unfold vp_in; decide) dX12_init_162 (fun H_ locs_ hw => ?_)
  obtain ⟨f23, ef23⟩ : ∃ zz, zz = (upd (zA (zsA (zNew T12 q12 13 19) q12 f22) q12) (10 : Int32).toNatClampNeg 110) := ⟨_, rfl⟩
  rw [← ef23, zsA_zsA] at hw
  refine lv_dup hx hb_ dX12_init_163 rfl ?_
  refine lv_bipush (v := 11) hx hb_ dX12_init_164 (by decide) ?_
  refine lv_bipush (v := 32) hx hb_ dX12_init_166 (by decide) ?_
  refine z_iast (n := 19) hcf hK_ hw hL_q12 hk_q12 hn_q12 (by unfold vp_in; decide) dX12_init_168 (fun H_ locs_ hw => ?_)
  obtain ⟨f24, ef24⟩ : ∃ zz, zz = (upd (zA (zsA (zNew T12 q12 13 19) q12 f23) q12) (11 : Int32).toNatClampNeg 32) := ⟨_, rfl⟩
  rw [← ef24, zsA_zsA] at hw
  refine lv_dup hx hb_ dX12_init_169 rfl ?_
  refine lv_bipush (v := 12) hx hb_ dX12_init_170 (by decide) ?_
  refine lv_iconst (v := 0) hx hb_ dX12_init_172 (by decide) ?_
  refine z_iast (n := 19) hcf hK_ hw hL_q12 hk_q12 hn_q12 (by unfold vp_in; decide) dX12_init_173 (fun H_ locs_ hw => ?_)
  obtain ⟨f25, ef25⟩ : ∃ zz, zz = (upd (zA (zsA (zNew T12 q12 13 19) q12 f24) q12) (12 : Int32).toNatClampNeg 0) := ⟨_, rfl⟩
  rw [← ef25, zsA_zsA] at hw
  refine lv_dup hx hb_ dX12_init_174 rfl ?_
  refine lv_bipush (v := 13) hx hb_ dX12_init_175 (by decide) ?_
  refine lv_bipush (v := 108) hx hb_ dX12_init_177 (by decide) ?_
  refine z_iast (n := 19) hcf hK_ hw hL_q12 hk_q12 hn_q12 (by unfold vp_in; decide) dX12_init_179 (fun H_ locs_ hw => ?_)
  obtain ⟨f26, ef26⟩ : ∃ zz, zz = (upd (zA (zsA (zNew T12 q12 13 19) q12 f25) q12) (13 : Int32).toNatClampNeg 108) := ⟨_, rfl⟩
  rw [← ef26, zsA_zsA] at hw
  refine lv_dup hx hb_ dX12_init_180 rfl ?_
  refine lv_bipush (v := 14) hx hb_ dX12_init_181 (by decide) ?_
  refine lv_bipush (v := 101) hx hb_ dX12_init_183 (by decide) ?_
  refine z_iast (n := 19) hcf hK_ hw hL_q12 hk_q12 hn_q12 (by unfold vp_in; decide) dX12_init_185 (fun H_ locs_ hw => ?_)
  obtain ⟨f27, ef27⟩ : ∃ zz, zz = (upd (zA (zsA (zNew T12 q12 13 19) q12 f26) q12) (14 : Int32).toNatClampNeg 101) := ⟨_, rfl⟩
  rw [← ef27, zsA_zsA] at hw
  refine lv_dup hx hb_ dX12_init_186 rfl ?_
  refine lv_bipush (v := 15) hx hb_ dX12_init_187 (by decide) ?_
  refine lv_bipush (v := 115) hx hb_ dX12_init_189 (by decide) ?_
  refine z_iast (n := 19) hcf hK_ hw hL_q12 hk_q12 hn_q12 (by unfold vp_in; decide) dX12_init_191 (fun H_ locs_ hw => ?_)
  obtain ⟨f28, ef28⟩ : ∃ zz, zz = (upd (zA (zsA (zNew T12 q12 13 19) q12 f27) q12) (15 : Int32).toNatClampNeg 115) := ⟨_, rfl⟩
  rw [← ef28, zsA_zsA] at hw
  refine lv_dup hx hb_ dX12_init_192 rfl ?_
  refine lv_bipush (v := 16) hx hb_ dX12_init_193 (by decide) ?_
  refine lv_bipush (v := 115) hx hb_ dX12_init_195 (by decide) ?_
  refine z_iast (n := 19) hcf hK_ hw hL_q12 hk_q12 hn_q12 (by unfold vp_in; decide) dX12_init_197 (fun H_ locs_ hw => ?_)
  obtain ⟨f29, ef29⟩ : ∃ zz, zz = (upd (zA (zsA (zNew T12 q12 13 19) q12 f28) q12) (16 : Int32).toNatClampNeg 115) := ⟨_, rfl⟩
  rw [← ef29, zsA_zsA] at hw
  refine lv_dup hx hb_ dX12_init_198 rfl ?_
  refine lv_bipush (v := 17) hx hb_ dX12_init_199 (by decide) ?_
  refine lv_bipush (v := 32) hx hb_ dX12_init_201 (by decide) ?_
  refine z_iast (n := 19) hcf hK_ hw hL_q12 hk_q12 hn_q12 (by unfold vp_in; decide) dX12_init_203 (fun H_ locs_ hw => ?_)
  obtain ⟨f30, ef30⟩ : ∃ zz, zz = (upd (zA (zsA (zNew T12 q12 13 19) q12 f29) q12) (17 : Int32).toNatClampNeg 32) := ⟨_, rfl⟩
  rw [← ef30, zsA_zsA] at hw
  refine lv_dup hx hb_ dX12_init_204 rfl ?_
  refine lv_bipush (v := 18) hx hb_ dX12_init_205 (by decide) ?_
  refine lv_iconst (v := 0) hx hb_ dX12_init_207 (by decide) ?_
  refine z_iast (n := 19) hcf hK_ hw hL_q12 hk_q12 hn_q12 (by unfold vp_in; decide) dX12_init_208 (fun H_ locs_ hw => ?_)
  obtain ⟨f31, ef31⟩ : ∃ zz, zz = (upd (zA (zsA (zNew T12 q12 13 19) q12 f30) q12) (18 : Int32).toNatClampNeg 0) := ⟨_, rfl⟩
  rw [← ef31, zsA_zsA] at hw
  refine z_putQF (k := 12) (i := 13) (j := 1213) (x := (some q12)) (v := .ref q12) (ty := (.array .int)) (ref := "FoldedInHalfModel") (C := RX12) (T := TX12) (N := 56) tyX12 hcf hK_ hw hin12 tyX12_ok nmX12 hL hk rfl (by decide) (by decide) rfl rfl (List.mem_of_getElem? (i := 18) rfl) (fun _ h_ => h_) rfl hnm rfl rfl (by decide +kernel) rfl rfl dX12_init_209 (fun H_ locs_ hw => ?_)
  have hL0 := hL_prev
  obtain ⟨T13, eT13⟩ : ∃ z_, z_ = (zsQ (zsA (zNew T12 q12 13 19) q12 f31) 1213 x0 (some q12)) := ⟨_, rfl⟩
  rw [← eT13] at hw
  have E13 : zGE 1213 2000 0 x0 0 T12 T13 := by rw [eT13]; exact zGE_Qx (zGE_A (zGE_new (zGE_rf hL0) hq_q12 (Or.inl rfl)) hq_q12) (by decide)
  have hk : zK T13 x0 = 12 := E13.2.1.trans hk012
  have hk013 := hk
  have hL : x0 ∈ zL T13 := E13.1
  have L_q12 : q12 ∈ zL T13 := by rw [eT13]; exact zNew_m
  have K_q12 : zK T13 q12 = 13 := by rw [eT13]; exact zNew_K
  have N_q12 : zN T13 q12 = 19 := by rw [eT13]; exact zNew_N
  have P_q12 : zQ T13 1213 x0 = some q12 := by rw [eT13]; exact zu2_self
  have Z_q12 : zL T13 = zL T12 ++ [q12] := by rw [eT13]; rfl
  have ne_q12 : q12 ≠ x0 := fun e_ => hq_q12 (e_.symm ▸ hL_prev)
  have hL_prev := hL
  refine lv_aload_n hx hb_ dX12_init_212 rfl (lv_at hl 0 rfl) ?_
  refine lv_bipush (v := 25) hx hb_ dX12_init_213 (by decide) ?_
  refine z_newi (N' := 25) hcf hK_ hw hA (List.mem_of_getElem? (i := 5) rfl) (by decide) (by decide) (by decide) (Nat.le_of_ble_eq_true rfl) (Nat.le_of_ble_eq_true rfl) dX12_init_215 (fun q32 H_ hq_q32 hw => ?_)
  have hne_x0_q32 : x0 ≠ q32 := fun e_ => hq_q32 (e_ ▸ hL)
  have hk : zK (zNew T13 q32 13 25) x0 = 12 := (va_up_ne _ _ hne_x0_q32).trans hk
  have hL : x0 ∈ zL (zNew T13 q32 13 25) := List.mem_append_left _ hL
  have hL_q32 : q32 ∈ zL (zNew T13 q32 13 25) := zNew_m
  have hk_q32 : zK (zNew T13 q32 13 25) q32 = 13 := zNew_K
  have hn_q32 : zN (zNew T13 q32 13 25) q32 = 25 := zNew_N
  refine z_putQF (k := 12) (i := 21) (j := 1221) (x := (some q32)) (v := .ref q32) (ty := (.array .int)) (ref := "FoldedInHalfModel") (C := RX12) (T := TX12) (N := 56) tyX12 hcf hK_ hw hin12 tyX12_ok nmX12 hL hk rfl (by decide) (by decide) rfl rfl (List.mem_of_getElem? (i := 19) rfl) (fun _ h_ => h_) rfl hnm rfl rfl (by decide +kernel) rfl rfl dX12_init_217 (fun H_ locs_ hw => ?_)
  have hL0 := hL_prev
  obtain ⟨T14, eT14⟩ : ∃ z_, z_ = (zsQ (zNew T13 q32 13 25) 1221 x0 (some q32)) := ⟨_, rfl⟩
  rw [← eT14] at hw
  have E14 : zGE 1221 2000 0 x0 0 T13 T14 := by rw [eT14]; exact zGE_Qx (zGE_new (zGE_rf hL0) hq_q32 (Or.inl rfl)) (by decide)
  have hk : zK T14 x0 = 12 := E14.2.1.trans hk013
  have hk014 := hk
  have hL : x0 ∈ zL T14 := E14.1
  have L_q32 : q32 ∈ zL T14 := by rw [eT14]; exact zNew_m
  have K_q32 : zK T14 q32 = 13 := by rw [eT14]; exact zNew_K
  have N_q32 : zN T14 q32 = 25 := by rw [eT14]; exact zNew_N
  have P_q32 : zQ T14 1221 x0 = some q32 := by rw [eT14]; exact zu2_self
  have Z_q32 : zL T14 = zL T13 ++ [q32] := by rw [eT14]; rfl
  have ne_q32 : q32 ≠ x0 := fun e_ => hq_q32 (e_.symm ▸ hL_prev)
  have hL_prev := hL
  refine lv_aload_n hx hb_ dX12_init_220 rfl (lv_at hl 0 rfl) ?_
  refine lv_bipush (v := 25) hx hb_ dX12_init_221 (by decide) ?_
  refine z_newi (N' := 25) hcf hK_ hw hA (List.mem_of_getElem? (i := 5) rfl) (by decide) (by decide) (by decide) (Nat.le_of_ble_eq_true rfl) (Nat.le_of_ble_eq_true rfl) dX12_init_223 (fun q33 H_ hq_q33 hw => ?_)
  have hne_x0_q33 : x0 ≠ q33 := fun e_ => hq_q33 (e_ ▸ hL)
  have hk : zK (zNew T14 q33 13 25) x0 = 12 := (va_up_ne _ _ hne_x0_q33).trans hk
  have hL : x0 ∈ zL (zNew T14 q33 13 25) := List.mem_append_left _ hL
  have hL_q33 : q33 ∈ zL (zNew T14 q33 13 25) := zNew_m
  have hk_q33 : zK (zNew T14 q33 13 25) q33 = 13 := zNew_K
  have hn_q33 : zN (zNew T14 q33 13 25) q33 = 25 := zNew_N
  refine z_putQF (k := 12) (i := 22) (j := 1222) (x := (some q33)) (v := .ref q33) (ty := (.array .int)) (ref := "FoldedInHalfModel") (C := RX12) (T := TX12) (N := 56) tyX12 hcf hK_ hw hin12 tyX12_ok nmX12 hL hk rfl (by decide) (by decide) rfl rfl (List.mem_of_getElem? (i := 20) rfl) (fun _ h_ => h_) rfl hnm rfl rfl (by decide +kernel) rfl rfl dX12_init_225 (fun H_ locs_ hw => ?_)
  have hL0 := hL_prev
  obtain ⟨T15, eT15⟩ : ∃ z_, z_ = (zsQ (zNew T14 q33 13 25) 1222 x0 (some q33)) := ⟨_, rfl⟩
  rw [← eT15] at hw
  have E15 : zGE 1222 2000 0 x0 0 T14 T15 := by rw [eT15]; exact zGE_Qx (zGE_new (zGE_rf hL0) hq_q33 (Or.inl rfl)) (by decide)
  have hk : zK T15 x0 = 12 := E15.2.1.trans hk014
  have hk015 := hk
  have hL : x0 ∈ zL T15 := E15.1
  have L_q33 : q33 ∈ zL T15 := by rw [eT15]; exact zNew_m
  have K_q33 : zK T15 q33 = 13 := by rw [eT15]; exact zNew_K
  have N_q33 : zN T15 q33 = 25 := by rw [eT15]; exact zNew_N
  have P_q33 : zQ T15 1222 x0 = some q33 := by rw [eT15]; exact zu2_self
  have Z_q33 : zL T15 = zL T14 ++ [q33] := by rw [eT15]; rfl
  have ne_q33 : q33 ≠ x0 := fun e_ => hq_q33 (e_.symm ▸ hL_prev)
  have hL_prev := hL
  refine lv_aload_n hx hb_ dX12_init_228 rfl (lv_at hl 0 rfl) ?_
  refine lv_bipush (v := 8) hx hb_ dX12_init_229 (by decide) ?_
  refine z_newl (N' := 8) hcf hK_ hw hA (List.mem_of_getElem? (i := 10) rfl) (by decide) (by decide) (by decide) (Nat.le_of_ble_eq_true rfl) (Nat.le_of_ble_eq_true rfl) dX12_init_231 (fun q34 H_ hq_q34 hw => ?_)
  have hne_x0_q34 : x0 ≠ q34 := fun e_ => hq_q34 (e_ ▸ hL)
  have hk : zK (zNew T15 q34 14 8) x0 = 12 := (va_up_ne _ _ hne_x0_q34).trans hk
  have hL : x0 ∈ zL (zNew T15 q34 14 8) := List.mem_append_left _ hL
  have hL_q34 : q34 ∈ zL (zNew T15 q34 14 8) := zNew_m
  have hk_q34 : zK (zNew T15 q34 14 8) q34 = 14 := zNew_K
  have hn_q34 : zN (zNew T15 q34 14 8) q34 = 8 := zNew_N
  refine z_putQF (k := 12) (i := 23) (j := 1223) (x := (some q34)) (v := .ref q34) (ty := (.array .long)) (ref := "FoldedInHalfModel") (C := RX12) (T := TX12) (N := 56) tyX12 hcf hK_ hw hin12 tyX12_ok nmX12 hL hk rfl (by decide) (by decide) rfl rfl (List.mem_of_getElem? (i := 21) rfl) (fun _ h_ => h_) rfl hnm rfl rfl (by decide +kernel) rfl rfl dX12_init_233 (fun H_ locs_ hw => ?_)
  have hL0 := hL_prev
  obtain ⟨T16, eT16⟩ : ∃ z_, z_ = (zsQ (zNew T15 q34 14 8) 1223 x0 (some q34)) := ⟨_, rfl⟩
  rw [← eT16] at hw
  have E16 : zGE 1223 2000 0 x0 0 T15 T16 := by rw [eT16]; exact zGE_Qx (zGE_new (zGE_rf hL0) hq_q34 (Or.inl rfl)) (by decide)
  have hk : zK T16 x0 = 12 := E16.2.1.trans hk015
  have hk016 := hk
  have hL : x0 ∈ zL T16 := E16.1
  have L_q34 : q34 ∈ zL T16 := by rw [eT16]; exact zNew_m
  have K_q34 : zK T16 q34 = 14 := by rw [eT16]; exact zNew_K
  have N_q34 : zN T16 q34 = 8 := by rw [eT16]; exact zNew_N
  have P_q34 : zQ T16 1223 x0 = some q34 := by rw [eT16]; exact zu2_self
  have Z_q34 : zL T16 = zL T15 ++ [q34] := by rw [eT16]; rfl
  have ne_q34 : q34 ≠ x0 := fun e_ => hq_q34 (e_.symm ▸ hL_prev)
  have hL_prev := hL
  refine lv_aload_n hx hb_ dX12_init_236 rfl (lv_at hl 0 rfl) ?_
  refine lv_bipush (v := 8) hx hb_ dX12_init_237 (by decide) ?_
  refine z_newl (N' := 8) hcf hK_ hw hA (List.mem_of_getElem? (i := 10) rfl) (by decide) (by decide) (by decide) (Nat.le_of_ble_eq_true rfl) (Nat.le_of_ble_eq_true rfl) dX12_init_239 (fun q35 H_ hq_q35 hw => ?_)
  have hne_x0_q35 : x0 ≠ q35 := fun e_ => hq_q35 (e_ ▸ hL)
  have hk : zK (zNew T16 q35 14 8) x0 = 12 := (va_up_ne _ _ hne_x0_q35).trans hk
  have hL : x0 ∈ zL (zNew T16 q35 14 8) := List.mem_append_left _ hL
  have hL_q35 : q35 ∈ zL (zNew T16 q35 14 8) := zNew_m
  have hk_q35 : zK (zNew T16 q35 14 8) q35 = 14 := zNew_K
  have hn_q35 : zN (zNew T16 q35 14 8) q35 = 8 := zNew_N
  refine z_putQF (k := 12) (i := 24) (j := 1224) (x := (some q35)) (v := .ref q35) (ty := (.array .long)) (ref := "FoldedInHalfModel") (C := RX12) (T := TX12) (N := 56) tyX12 hcf hK_ hw hin12 tyX12_ok nmX12 hL hk rfl (by decide) (by decide) rfl rfl (List.mem_of_getElem? (i := 22) rfl) (fun _ h_ => h_) rfl hnm rfl rfl (by decide +kernel) rfl rfl dX12_init_241 (fun H_ locs_ hw => ?_)
  have hL0 := hL_prev
  obtain ⟨T17, eT17⟩ : ∃ z_, z_ = (zsQ (zNew T16 q35 14 8) 1224 x0 (some q35)) := ⟨_, rfl⟩
  rw [← eT17] at hw
  have E17 : zGE 1224 2000 0 x0 0 T16 T17 := by rw [eT17]; exact zGE_Qx (zGE_new (zGE_rf hL0) hq_q35 (Or.inl rfl)) (by decide)
  have hk : zK T17 x0 = 12 := E17.2.1.trans hk016
  have hk017 := hk
  have hL : x0 ∈ zL T17 := E17.1
  have L_q35 : q35 ∈ zL T17 := by rw [eT17]; exact zNew_m
  have K_q35 : zK T17 q35 = 14 := by rw [eT17]; exact zNew_K
  have N_q35 : zN T17 q35 = 8 := by rw [eT17]; exact zNew_N
  have P_q35 : zQ T17 1224 x0 = some q35 := by rw [eT17]; exact zu2_self
  have Z_q35 : zL T17 = zL T16 ++ [q35] := by rw [eT17]; rfl
  have ne_q35 : q35 ≠ x0 := fun e_ => hq_q35 (e_.symm ▸ hL_prev)
  have hL_prev := hL
  refine lv_aload_n hx hb_ dX12_init_244 rfl (lv_at hl 0 rfl) ?_
  refine lv_bipush (v := 41) hx hb_ dX12_init_245 (by decide) ?_
  refine z_newl (N' := 41) hcf hK_ hw hA (List.mem_of_getElem? (i := 10) rfl) (by decide) (by decide) (by decide) (Nat.le_of_ble_eq_true rfl) (Nat.le_of_ble_eq_true rfl) dX12_init_247 (fun q36 H_ hq_q36 hw => ?_)
  have hne_x0_q36 : x0 ≠ q36 := fun e_ => hq_q36 (e_ ▸ hL)
  have hk : zK (zNew T17 q36 14 41) x0 = 12 := (va_up_ne _ _ hne_x0_q36).trans hk
  have hL : x0 ∈ zL (zNew T17 q36 14 41) := List.mem_append_left _ hL
  have hL_q36 : q36 ∈ zL (zNew T17 q36 14 41) := zNew_m
  have hk_q36 : zK (zNew T17 q36 14 41) q36 = 14 := zNew_K
  have hn_q36 : zN (zNew T17 q36 14 41) q36 = 41 := zNew_N
  refine z_putQF (k := 12) (i := 25) (j := 1225) (x := (some q36)) (v := .ref q36) (ty := (.array .long)) (ref := "FoldedInHalfModel") (C := RX12) (T := TX12) (N := 56) tyX12 hcf hK_ hw hin12 tyX12_ok nmX12 hL hk rfl (by decide) (by decide) rfl rfl (List.mem_of_getElem? (i := 23) rfl) (fun _ h_ => h_) rfl hnm rfl rfl (by decide +kernel) rfl rfl dX12_init_249 (fun H_ locs_ hw => ?_)
  have hL0 := hL_prev
  obtain ⟨T18, eT18⟩ : ∃ z_, z_ = (zsQ (zNew T17 q36 14 41) 1225 x0 (some q36)) := ⟨_, rfl⟩
  rw [← eT18] at hw
  have E18 : zGE 1225 2000 0 x0 0 T17 T18 := by rw [eT18]; exact zGE_Qx (zGE_new (zGE_rf hL0) hq_q36 (Or.inl rfl)) (by decide)
  have hk : zK T18 x0 = 12 := E18.2.1.trans hk017
  have hk018 := hk
  have hL : x0 ∈ zL T18 := E18.1
  have L_q36 : q36 ∈ zL T18 := by rw [eT18]; exact zNew_m
  have K_q36 : zK T18 q36 = 14 := by rw [eT18]; exact zNew_K
  have N_q36 : zN T18 q36 = 41 := by rw [eT18]; exact zNew_N
  have P_q36 : zQ T18 1225 x0 = some q36 := by rw [eT18]; exact zu2_self
  have Z_q36 : zL T18 = zL T17 ++ [q36] := by rw [eT18]; rfl
  have ne_q36 : q36 ≠ x0 := fun e_ => hq_q36 (e_.symm ▸ hL_prev)
  have hL_prev := hL
  refine lv_aload_n hx hb_ dX12_init_252 rfl (lv_at hl 0 rfl) ?_
  refine lv_bipush (v := 41) hx hb_ dX12_init_253 (by decide) ?_
  refine z_newl (N' := 41) hcf hK_ hw hA (List.mem_of_getElem? (i := 10) rfl) (by decide) (by decide) (by decide) (Nat.le_of_ble_eq_true rfl) (Nat.le_of_ble_eq_true rfl) dX12_init_255 (fun q37 H_ hq_q37 hw => ?_)
  have hne_x0_q37 : x0 ≠ q37 := fun e_ => hq_q37 (e_ ▸ hL)
  have hk : zK (zNew T18 q37 14 41) x0 = 12 := (va_up_ne _ _ hne_x0_q37).trans hk
  have hL : x0 ∈ zL (zNew T18 q37 14 41) := List.mem_append_left _ hL
  have hL_q37 : q37 ∈ zL (zNew T18 q37 14 41) := zNew_m
  have hk_q37 : zK (zNew T18 q37 14 41) q37 = 14 := zNew_K
  have hn_q37 : zN (zNew T18 q37 14 41) q37 = 41 := zNew_N
  refine z_putQF (k := 12) (i := 26) (j := 1226) (x := (some q37)) (v := .ref q37) (ty := (.array .long)) (ref := "FoldedInHalfModel") (C := RX12) (T := TX12) (N := 56) tyX12 hcf hK_ hw hin12 tyX12_ok nmX12 hL hk rfl (by decide) (by decide) rfl rfl (List.mem_of_getElem? (i := 24) rfl) (fun _ h_ => h_) rfl hnm rfl rfl (by decide +kernel) rfl rfl dX12_init_257 (fun H_ locs_ hw => ?_)
  have hL0 := hL_prev
  obtain ⟨T19, eT19⟩ : ∃ z_, z_ = (zsQ (zNew T18 q37 14 41) 1226 x0 (some q37)) := ⟨_, rfl⟩
  rw [← eT19] at hw
  have E19 : zGE 1226 2000 0 x0 0 T18 T19 := by rw [eT19]; exact zGE_Qx (zGE_new (zGE_rf hL0) hq_q37 (Or.inl rfl)) (by decide)
  have hk : zK T19 x0 = 12 := E19.2.1.trans hk018
  have hk019 := hk
  have hL : x0 ∈ zL T19 := E19.1
  have L_q37 : q37 ∈ zL T19 := by rw [eT19]; exact zNew_m
  have K_q37 : zK T19 q37 = 14 := by rw [eT19]; exact zNew_K
  have N_q37 : zN T19 q37 = 41 := by rw [eT19]; exact zNew_N
  have P_q37 : zQ T19 1226 x0 = some q37 := by rw [eT19]; exact zu2_self
  have Z_q37 : zL T19 = zL T18 ++ [q37] := by rw [eT19]; rfl
  have ne_q37 : q37 ≠ x0 := fun e_ => hq_q37 (e_.symm ▸ hL_prev)
  have hL_prev := hL
  refine lv_aload_n hx hb_ dX12_init_260 rfl (lv_at hl 0 rfl) ?_
  refine lv_bipush (v := 41) hx hb_ dX12_init_261 (by decide) ?_
  refine z_newl (N' := 41) hcf hK_ hw hA (List.mem_of_getElem? (i := 10) rfl) (by decide) (by decide) (by decide) (Nat.le_of_ble_eq_true rfl) (Nat.le_of_ble_eq_true rfl) dX12_init_263 (fun q38 H_ hq_q38 hw => ?_)
  have hne_x0_q38 : x0 ≠ q38 := fun e_ => hq_q38 (e_ ▸ hL)
  have hk : zK (zNew T19 q38 14 41) x0 = 12 := (va_up_ne _ _ hne_x0_q38).trans hk
  have hL : x0 ∈ zL (zNew T19 q38 14 41) := List.mem_append_left _ hL
  have hL_q38 : q38 ∈ zL (zNew T19 q38 14 41) := zNew_m
  have hk_q38 : zK (zNew T19 q38 14 41) q38 = 14 := zNew_K
  have hn_q38 : zN (zNew T19 q38 14 41) q38 = 41 := zNew_N
  refine z_putQF (k := 12) (i := 27) (j := 1227) (x := (some q38)) (v := .ref q38) (ty := (.array .long)) (ref := "FoldedInHalfModel") (C := RX12) (T := TX12) (N := 56) tyX12 hcf hK_ hw hin12 tyX12_ok nmX12 hL hk rfl (by decide) (by decide) rfl rfl (List.mem_of_getElem? (i := 25) rfl) (fun _ h_ => h_) rfl hnm rfl rfl (by decide +kernel) rfl rfl dX12_init_265 (fun H_ locs_ hw => ?_)
  have hL0 := hL_prev
  obtain ⟨T20, eT20⟩ : ∃ z_, z_ = (zsQ (zNew T19 q38 14 41) 1227 x0 (some q38)) := ⟨_, rfl⟩
  rw [← eT20] at hw
  have E20 : zGE 1227 2000 0 x0 0 T19 T20 := by rw [eT20]; exact zGE_Qx (zGE_new (zGE_rf hL0) hq_q38 (Or.inl rfl)) (by decide)
  have hk : zK T20 x0 = 12 := E20.2.1.trans hk019
  have hk020 := hk
  have hL : x0 ∈ zL T20 := E20.1
  have L_q38 : q38 ∈ zL T20 := by rw [eT20]; exact zNew_m
  have K_q38 : zK T20 q38 = 14 := by rw [eT20]; exact zNew_K
  have N_q38 : zN T20 q38 = 41 := by rw [eT20]; exact zNew_N
  have P_q38 : zQ T20 1227 x0 = some q38 := by rw [eT20]; exact zu2_self
  have Z_q38 : zL T20 = zL T19 ++ [q38] := by rw [eT20]; rfl
  have ne_q38 : q38 ≠ x0 := fun e_ => hq_q38 (e_.symm ▸ hL_prev)
  have hL_prev := hL
  refine lv_aload_n hx hb_ dX12_init_268 rfl (lv_at hl 0 rfl) ?_
  refine lv_bipush (v := 41) hx hb_ dX12_init_269 (by decide) ?_
  refine z_newl (N' := 41) hcf hK_ hw hA (List.mem_of_getElem? (i := 10) rfl) (by decide) (by decide) (by decide) (Nat.le_of_ble_eq_true rfl) (Nat.le_of_ble_eq_true rfl) dX12_init_271 (fun q39 H_ hq_q39 hw => ?_)
  have hne_x0_q39 : x0 ≠ q39 := fun e_ => hq_q39 (e_ ▸ hL)
  have hk : zK (zNew T20 q39 14 41) x0 = 12 := (va_up_ne _ _ hne_x0_q39).trans hk
  have hL : x0 ∈ zL (zNew T20 q39 14 41) := List.mem_append_left _ hL
  have hL_q39 : q39 ∈ zL (zNew T20 q39 14 41) := zNew_m
  have hk_q39 : zK (zNew T20 q39 14 41) q39 = 14 := zNew_K
  have hn_q39 : zN (zNew T20 q39 14 41) q39 = 41 := zNew_N
  refine z_putQF (k := 12) (i := 28) (j := 1228) (x := (some q39)) (v := .ref q39) (ty := (.array .long)) (ref := "FoldedInHalfModel") (C := RX12) (T := TX12) (N := 56) tyX12 hcf hK_ hw hin12 tyX12_ok nmX12 hL hk rfl (by decide) (by decide) rfl rfl (List.mem_of_getElem? (i := 26) rfl) (fun _ h_ => h_) rfl hnm rfl rfl (by decide +kernel) rfl rfl dX12_init_273 (fun H_ locs_ hw => ?_)
  have hL0 := hL_prev
  obtain ⟨T21, eT21⟩ : ∃ z_, z_ = (zsQ (zNew T20 q39 14 41) 1228 x0 (some q39)) := ⟨_, rfl⟩
  rw [← eT21] at hw
  have E21 : zGE 1228 2000 0 x0 0 T20 T21 := by rw [eT21]; exact zGE_Qx (zGE_new (zGE_rf hL0) hq_q39 (Or.inl rfl)) (by decide)
  have hk : zK T21 x0 = 12 := E21.2.1.trans hk020
  have hk021 := hk
  have hL : x0 ∈ zL T21 := E21.1
  have L_q39 : q39 ∈ zL T21 := by rw [eT21]; exact zNew_m
  have K_q39 : zK T21 q39 = 14 := by rw [eT21]; exact zNew_K
  have N_q39 : zN T21 q39 = 41 := by rw [eT21]; exact zNew_N
  have P_q39 : zQ T21 1228 x0 = some q39 := by rw [eT21]; exact zu2_self
  have Z_q39 : zL T21 = zL T20 ++ [q39] := by rw [eT21]; rfl
  have ne_q39 : q39 ≠ x0 := fun e_ => hq_q39 (e_.symm ▸ hL_prev)
  have hL_prev := hL
  refine lv_aload_n hx hb_ dX12_init_276 rfl (lv_at hl 0 rfl) ?_
  refine lv_bipush (v := 41) hx hb_ dX12_init_277 (by decide) ?_
  refine z_newi (N' := 41) hcf hK_ hw hA (List.mem_of_getElem? (i := 5) rfl) (by decide) (by decide) (by decide) (Nat.le_of_ble_eq_true rfl) (Nat.le_of_ble_eq_true rfl) dX12_init_279 (fun q40 H_ hq_q40 hw => ?_)
  have hne_x0_q40 : x0 ≠ q40 := fun e_ => hq_q40 (e_ ▸ hL)
  have hk : zK (zNew T21 q40 13 41) x0 = 12 := (va_up_ne _ _ hne_x0_q40).trans hk
  have hL : x0 ∈ zL (zNew T21 q40 13 41) := List.mem_append_left _ hL
  have hL_q40 : q40 ∈ zL (zNew T21 q40 13 41) := zNew_m
  have hk_q40 : zK (zNew T21 q40 13 41) q40 = 13 := zNew_K
  have hn_q40 : zN (zNew T21 q40 13 41) q40 = 41 := zNew_N
  refine z_putQF (k := 12) (i := 29) (j := 1229) (x := (some q40)) (v := .ref q40) (ty := (.array .int)) (ref := "FoldedInHalfModel") (C := RX12) (T := TX12) (N := 56) tyX12 hcf hK_ hw hin12 tyX12_ok nmX12 hL hk rfl (by decide) (by decide) rfl rfl (List.mem_of_getElem? (i := 27) rfl) (fun _ h_ => h_) rfl hnm rfl rfl (by decide +kernel) rfl rfl dX12_init_281 (fun H_ locs_ hw => ?_)
  have hL0 := hL_prev
  obtain ⟨T22, eT22⟩ : ∃ z_, z_ = (zsQ (zNew T21 q40 13 41) 1229 x0 (some q40)) := ⟨_, rfl⟩
  rw [← eT22] at hw
  have E22 : zGE 1229 2000 0 x0 0 T21 T22 := by rw [eT22]; exact zGE_Qx (zGE_new (zGE_rf hL0) hq_q40 (Or.inl rfl)) (by decide)
  have hk : zK T22 x0 = 12 := E22.2.1.trans hk021
  have hk022 := hk
  have hL : x0 ∈ zL T22 := E22.1
  have L_q40 : q40 ∈ zL T22 := by rw [eT22]; exact zNew_m
  have K_q40 : zK T22 q40 = 13 := by rw [eT22]; exact zNew_K
  have N_q40 : zN T22 q40 = 41 := by rw [eT22]; exact zNew_N
  have P_q40 : zQ T22 1229 x0 = some q40 := by rw [eT22]; exact zu2_self
  have Z_q40 : zL T22 = zL T21 ++ [q40] := by rw [eT22]; rfl
  have ne_q40 : q40 ≠ x0 := fun e_ => hq_q40 (e_.symm ▸ hL_prev)
  have hL_prev := hL
  refine lv_aload_n hx hb_ dX12_init_284 rfl (lv_at hl 0 rfl) ?_
  refine lv_bipush (v := 41) hx hb_ dX12_init_285 (by decide) ?_
  refine z_newi (N' := 41) hcf hK_ hw hA (List.mem_of_getElem? (i := 5) rfl) (by decide) (by decide) (by decide) (Nat.le_of_ble_eq_true rfl) (Nat.le_of_ble_eq_true rfl) dX12_init_287 (fun q41 H_ hq_q41 hw => ?_)
  have hne_x0_q41 : x0 ≠ q41 := fun e_ => hq_q41 (e_ ▸ hL)
  have hk : zK (zNew T22 q41 13 41) x0 = 12 := (va_up_ne _ _ hne_x0_q41).trans hk
  have hL : x0 ∈ zL (zNew T22 q41 13 41) := List.mem_append_left _ hL
  have hL_q41 : q41 ∈ zL (zNew T22 q41 13 41) := zNew_m
  have hk_q41 : zK (zNew T22 q41 13 41) q41 = 13 := zNew_K
  have hn_q41 : zN (zNew T22 q41 13 41) q41 = 41 := zNew_N
  refine z_putQF (k := 12) (i := 30) (j := 1230) (x := (some q41)) (v := .ref q41) (ty := (.array .int)) (ref := "FoldedInHalfModel") (C := RX12) (T := TX12) (N := 56) tyX12 hcf hK_ hw hin12 tyX12_ok nmX12 hL hk rfl (by decide) (by decide) rfl rfl (List.mem_of_getElem? (i := 28) rfl) (fun _ h_ => h_) rfl hnm rfl rfl (by decide +kernel) rfl rfl dX12_init_289 (fun H_ locs_ hw => ?_)
  have hL0 := hL_prev
  obtain ⟨T23, eT23⟩ : ∃ z_, z_ = (zsQ (zNew T22 q41 13 41) 1230 x0 (some q41)) := ⟨_, rfl⟩
  rw [← eT23] at hw
  have E23 : zGE 1230 2000 0 x0 0 T22 T23 := by rw [eT23]; exact zGE_Qx (zGE_new (zGE_rf hL0) hq_q41 (Or.inl rfl)) (by decide)
  have hk : zK T23 x0 = 12 := E23.2.1.trans hk022
  have hk023 := hk
  have hL : x0 ∈ zL T23 := E23.1
  have L_q41 : q41 ∈ zL T23 := by rw [eT23]; exact zNew_m
  have K_q41 : zK T23 q41 = 13 := by rw [eT23]; exact zNew_K
  have N_q41 : zN T23 q41 = 41 := by rw [eT23]; exact zNew_N
  have P_q41 : zQ T23 1230 x0 = some q41 := by rw [eT23]; exact zu2_self
  have Z_q41 : zL T23 = zL T22 ++ [q41] := by rw [eT23]; rfl
  have ne_q41 : q41 ≠ x0 := fun e_ => hq_q41 (e_.symm ▸ hL_prev)
  have hL_prev := hL
  refine lv_aload_n hx hb_ dX12_init_292 rfl (lv_at hl 0 rfl) ?_
  refine lv_sipush (v := 4001) hx hb_ dX12_init_293 (by decide) ?_
  refine z_newi (N' := 4001) hcf hK_ hw hA (List.mem_of_getElem? (i := 5) rfl) (by decide) (by decide) (by decide) (Nat.le_of_ble_eq_true rfl) (Nat.le_of_ble_eq_true rfl) dX12_init_296 (fun q42 H_ hq_q42 hw => ?_)
  have hne_x0_q42 : x0 ≠ q42 := fun e_ => hq_q42 (e_ ▸ hL)
  have hk : zK (zNew T23 q42 13 4001) x0 = 12 := (va_up_ne _ _ hne_x0_q42).trans hk
  have hL : x0 ∈ zL (zNew T23 q42 13 4001) := List.mem_append_left _ hL
  have hL_q42 : q42 ∈ zL (zNew T23 q42 13 4001) := zNew_m
  have hk_q42 : zK (zNew T23 q42 13 4001) q42 = 13 := zNew_K
  have hn_q42 : zN (zNew T23 q42 13 4001) q42 = 4001 := zNew_N
  refine z_putQF (k := 12) (i := 33) (j := 1233) (x := (some q42)) (v := .ref q42) (ty := (.array .int)) (ref := "FoldedInHalfModel") (C := RX12) (T := TX12) (N := 56) tyX12 hcf hK_ hw hin12 tyX12_ok nmX12 hL hk rfl (by decide) (by decide) rfl rfl (List.mem_of_getElem? (i := 29) rfl) (fun _ h_ => h_) rfl hnm rfl rfl (by decide +kernel) rfl rfl dX12_init_298 (fun H_ locs_ hw => ?_)
  have hL0 := hL_prev
  obtain ⟨T24, eT24⟩ : ∃ z_, z_ = (zsQ (zNew T23 q42 13 4001) 1233 x0 (some q42)) := ⟨_, rfl⟩
  rw [← eT24] at hw
  have E24 : zGE 1233 2000 0 x0 0 T23 T24 := by rw [eT24]; exact zGE_Qx (zGE_new (zGE_rf hL0) hq_q42 (Or.inl rfl)) (by decide)
  have hk : zK T24 x0 = 12 := E24.2.1.trans hk023
  have hk024 := hk
  have hL : x0 ∈ zL T24 := E24.1
  have L_q42 : q42 ∈ zL T24 := by rw [eT24]; exact zNew_m
  have K_q42 : zK T24 q42 = 13 := by rw [eT24]; exact zNew_K
  have N_q42 : zN T24 q42 = 4001 := by rw [eT24]; exact zNew_N
  have P_q42 : zQ T24 1233 x0 = some q42 := by rw [eT24]; exact zu2_self
  have Z_q42 : zL T24 = zL T23 ++ [q42] := by rw [eT24]; rfl
  have ne_q42 : q42 ≠ x0 := fun e_ => hq_q42 (e_.symm ▸ hL_prev)
  have hL_prev := hL
  refine lv_aload_n hx hb_ dX12_init_301 rfl (lv_at hl 0 rfl) ?_
  refine lv_sipush (v := 4001) hx hb_ dX12_init_302 (by decide) ?_
  refine z_newi (N' := 4001) hcf hK_ hw hA (List.mem_of_getElem? (i := 5) rfl) (by decide) (by decide) (by decide) (Nat.le_of_ble_eq_true rfl) (Nat.le_of_ble_eq_true rfl) dX12_init_305 (fun q43 H_ hq_q43 hw => ?_)
  have hne_x0_q43 : x0 ≠ q43 := fun e_ => hq_q43 (e_ ▸ hL)
  have hk : zK (zNew T24 q43 13 4001) x0 = 12 := (va_up_ne _ _ hne_x0_q43).trans hk
  have hL : x0 ∈ zL (zNew T24 q43 13 4001) := List.mem_append_left _ hL
  have hL_q43 : q43 ∈ zL (zNew T24 q43 13 4001) := zNew_m
  have hk_q43 : zK (zNew T24 q43 13 4001) q43 = 13 := zNew_K
  have hn_q43 : zN (zNew T24 q43 13 4001) q43 = 4001 := zNew_N
  refine z_putQF (k := 12) (i := 34) (j := 1234) (x := (some q43)) (v := .ref q43) (ty := (.array .int)) (ref := "FoldedInHalfModel") (C := RX12) (T := TX12) (N := 56) tyX12 hcf hK_ hw hin12 tyX12_ok nmX12 hL hk rfl (by decide) (by decide) rfl rfl (List.mem_of_getElem? (i := 30) rfl) (fun _ h_ => h_) rfl hnm rfl rfl (by decide +kernel) rfl rfl dX12_init_307 (fun H_ locs_ hw => ?_)
  have hL0 := hL_prev
  obtain ⟨T25, eT25⟩ : ∃ z_, z_ = (zsQ (zNew T24 q43 13 4001) 1234 x0 (some q43)) := ⟨_, rfl⟩
  rw [← eT25] at hw
  have E25 : zGE 1234 2000 0 x0 0 T24 T25 := by rw [eT25]; exact zGE_Qx (zGE_new (zGE_rf hL0) hq_q43 (Or.inl rfl)) (by decide)
  have hk : zK T25 x0 = 12 := E25.2.1.trans hk024
  have hk025 := hk
  have hL : x0 ∈ zL T25 := E25.1
  have L_q43 : q43 ∈ zL T25 := by rw [eT25]; exact zNew_m
  have K_q43 : zK T25 q43 = 13 := by rw [eT25]; exact zNew_K
  have N_q43 : zN T25 q43 = 4001 := by rw [eT25]; exact zNew_N
  have P_q43 : zQ T25 1234 x0 = some q43 := by rw [eT25]; exact zu2_self
  have Z_q43 : zL T25 = zL T24 ++ [q43] := by rw [eT25]; rfl
  have ne_q43 : q43 ≠ x0 := fun e_ => hq_q43 (e_.symm ▸ hL_prev)
  have hL_prev := hL
  refine lv_aload_n hx hb_ dX12_init_310 rfl (lv_at hl 0 rfl) ?_
  refine lv_sipush (v := 4001) hx hb_ dX12_init_311 (by decide) ?_
  refine z_newi (N' := 4001) hcf hK_ hw hA (List.mem_of_getElem? (i := 5) rfl) (by decide) (by decide) (by decide) (Nat.le_of_ble_eq_true rfl) (Nat.le_of_ble_eq_true rfl) dX12_init_314 (fun q44 H_ hq_q44 hw => ?_)
  have hne_x0_q44 : x0 ≠ q44 := fun e_ => hq_q44 (e_ ▸ hL)
  have hk : zK (zNew T25 q44 13 4001) x0 = 12 := (va_up_ne _ _ hne_x0_q44).trans hk
  have hL : x0 ∈ zL (zNew T25 q44 13 4001) := List.mem_append_left _ hL
  have hL_q44 : q44 ∈ zL (zNew T25 q44 13 4001) := zNew_m
  have hk_q44 : zK (zNew T25 q44 13 4001) q44 = 13 := zNew_K
  have hn_q44 : zN (zNew T25 q44 13 4001) q44 = 4001 := zNew_N
  refine z_putQF (k := 12) (i := 35) (j := 1235) (x := (some q44)) (v := .ref q44) (ty := (.array .int)) (ref := "FoldedInHalfModel") (C := RX12) (T := TX12) (N := 56) tyX12 hcf hK_ hw hin12 tyX12_ok nmX12 hL hk rfl (by decide) (by decide) rfl rfl (List.mem_of_getElem? (i := 31) rfl) (fun _ h_ => h_) rfl hnm rfl rfl (by decide +kernel) rfl rfl dX12_init_316 (fun H_ locs_ hw => ?_)
  have hL0 := hL_prev
  obtain ⟨T26, eT26⟩ : ∃ z_, z_ = (zsQ (zNew T25 q44 13 4001) 1235 x0 (some q44)) := ⟨_, rfl⟩
  rw [← eT26] at hw
  have E26 : zGE 1235 2000 0 x0 0 T25 T26 := by rw [eT26]; exact zGE_Qx (zGE_new (zGE_rf hL0) hq_q44 (Or.inl rfl)) (by decide)
  have hk : zK T26 x0 = 12 := E26.2.1.trans hk025
  have hk026 := hk
  have hL : x0 ∈ zL T26 := E26.1
  have L_q44 : q44 ∈ zL T26 := by rw [eT26]; exact zNew_m
  have K_q44 : zK T26 q44 = 13 := by rw [eT26]; exact zNew_K
  have N_q44 : zN T26 q44 = 4001 := by rw [eT26]; exact zNew_N
  have P_q44 : zQ T26 1235 x0 = some q44 := by rw [eT26]; exact zu2_self
  have Z_q44 : zL T26 = zL T25 ++ [q44] := by rw [eT26]; rfl
  have ne_q44 : q44 ≠ x0 := fun e_ => hq_q44 (e_.symm ▸ hL_prev)
  have hL_prev := hL
  refine lv_aload_n hx hb_ dX12_init_319 rfl (lv_at hl 0 rfl) ?_
  refine lv_sipush (v := 4001) hx hb_ dX12_init_320 (by decide) ?_
  refine z_newi (N' := 4001) hcf hK_ hw hA (List.mem_of_getElem? (i := 5) rfl) (by decide) (by decide) (by decide) (Nat.le_of_ble_eq_true rfl) (Nat.le_of_ble_eq_true rfl) dX12_init_323 (fun q45 H_ hq_q45 hw => ?_)
  have hne_x0_q45 : x0 ≠ q45 := fun e_ => hq_q45 (e_ ▸ hL)
  have hk : zK (zNew T26 q45 13 4001) x0 = 12 := (va_up_ne _ _ hne_x0_q45).trans hk
  have hL : x0 ∈ zL (zNew T26 q45 13 4001) := List.mem_append_left _ hL
  have hL_q45 : q45 ∈ zL (zNew T26 q45 13 4001) := zNew_m
  have hk_q45 : zK (zNew T26 q45 13 4001) q45 = 13 := zNew_K
  have hn_q45 : zN (zNew T26 q45 13 4001) q45 = 4001 := zNew_N
  refine z_putQF (k := 12) (i := 36) (j := 1236) (x := (some q45)) (v := .ref q45) (ty := (.array .int)) (ref := "FoldedInHalfModel") (C := RX12) (T := TX12) (N := 56) tyX12 hcf hK_ hw hin12 tyX12_ok nmX12 hL hk rfl (by decide) (by decide) rfl rfl (List.mem_of_getElem? (i := 32) rfl) (fun _ h_ => h_) rfl hnm rfl rfl (by decide +kernel) rfl rfl dX12_init_325 (fun H_ locs_ hw => ?_)
  have hL0 := hL_prev
  obtain ⟨T27, eT27⟩ : ∃ z_, z_ = (zsQ (zNew T26 q45 13 4001) 1236 x0 (some q45)) := ⟨_, rfl⟩
  rw [← eT27] at hw
  have E27 : zGE 1236 2000 0 x0 0 T26 T27 := by rw [eT27]; exact zGE_Qx (zGE_new (zGE_rf hL0) hq_q45 (Or.inl rfl)) (by decide)
  have hk : zK T27 x0 = 12 := E27.2.1.trans hk026
  have hk027 := hk
  have hL : x0 ∈ zL T27 := E27.1
  have L_q45 : q45 ∈ zL T27 := by rw [eT27]; exact zNew_m
  have K_q45 : zK T27 q45 = 13 := by rw [eT27]; exact zNew_K
  have N_q45 : zN T27 q45 = 4001 := by rw [eT27]; exact zNew_N
  have P_q45 : zQ T27 1236 x0 = some q45 := by rw [eT27]; exact zu2_self
  have Z_q45 : zL T27 = zL T26 ++ [q45] := by rw [eT27]; rfl
  have ne_q45 : q45 ≠ x0 := fun e_ => hq_q45 (e_.symm ▸ hL_prev)
  have hL_prev := hL
  refine lv_aload_n hx hb_ dX12_init_328 rfl (lv_at hl 0 rfl) ?_
  refine lv_sipush (v := 16384) hx hb_ dX12_init_329 (by decide) ?_
  refine z_newi (N' := 16384) hcf hK_ hw hA (List.mem_of_getElem? (i := 5) rfl) (by decide) (by decide) (by decide) (Nat.le_of_ble_eq_true rfl) (Nat.le_of_ble_eq_true rfl) dX12_init_332 (fun q46 H_ hq_q46 hw => ?_)
  have hne_x0_q46 : x0 ≠ q46 := fun e_ => hq_q46 (e_ ▸ hL)
  have hk : zK (zNew T27 q46 13 16384) x0 = 12 := (va_up_ne _ _ hne_x0_q46).trans hk
  have hL : x0 ∈ zL (zNew T27 q46 13 16384) := List.mem_append_left _ hL
  have hL_q46 : q46 ∈ zL (zNew T27 q46 13 16384) := zNew_m
  have hk_q46 : zK (zNew T27 q46 13 16384) q46 = 13 := zNew_K
  have hn_q46 : zN (zNew T27 q46 13 16384) q46 = 16384 := zNew_N
  refine z_putQF (k := 12) (i := 37) (j := 1237) (x := (some q46)) (v := .ref q46) (ty := (.array .int)) (ref := "FoldedInHalfModel") (C := RX12) (T := TX12) (N := 56) tyX12 hcf hK_ hw hin12 tyX12_ok nmX12 hL hk rfl (by decide) (by decide) rfl rfl (List.mem_of_getElem? (i := 33) rfl) (fun _ h_ => h_) rfl hnm rfl rfl (by decide +kernel) rfl rfl dX12_init_334 (fun H_ locs_ hw => ?_)
  have hL0 := hL_prev
  obtain ⟨T28, eT28⟩ : ∃ z_, z_ = (zsQ (zNew T27 q46 13 16384) 1237 x0 (some q46)) := ⟨_, rfl⟩
  rw [← eT28] at hw
  have E28 : zGE 1237 2000 0 x0 0 T27 T28 := by rw [eT28]; exact zGE_Qx (zGE_new (zGE_rf hL0) hq_q46 (Or.inl rfl)) (by decide)
  have hk : zK T28 x0 = 12 := E28.2.1.trans hk027
  have hk028 := hk
  have hL : x0 ∈ zL T28 := E28.1
  have L_q46 : q46 ∈ zL T28 := by rw [eT28]; exact zNew_m
  have K_q46 : zK T28 q46 = 13 := by rw [eT28]; exact zNew_K
  have N_q46 : zN T28 q46 = 16384 := by rw [eT28]; exact zNew_N
  have P_q46 : zQ T28 1237 x0 = some q46 := by rw [eT28]; exact zu2_self
  have Z_q46 : zL T28 = zL T27 ++ [q46] := by rw [eT28]; rfl
  have ne_q46 : q46 ≠ x0 := fun e_ => hq_q46 (e_.symm ▸ hL_prev)
  have hL_prev := hL
  refine lv_aload_n hx hb_ dX12_init_337 rfl (lv_at hl 0 rfl) ?_
  refine lv_sipush (v := 16384) hx hb_ dX12_init_338 (by decide) ?_
  refine z_newi (N' := 16384) hcf hK_ hw hA (List.mem_of_getElem? (i := 5) rfl) (by decide) (by decide) (by decide) (Nat.le_of_ble_eq_true rfl) (Nat.le_of_ble_eq_true rfl) dX12_init_341 (fun q47 H_ hq_q47 hw => ?_)
  have hne_x0_q47 : x0 ≠ q47 := fun e_ => hq_q47 (e_ ▸ hL)
  have hk : zK (zNew T28 q47 13 16384) x0 = 12 := (va_up_ne _ _ hne_x0_q47).trans hk
  have hL : x0 ∈ zL (zNew T28 q47 13 16384) := List.mem_append_left _ hL
  have hL_q47 : q47 ∈ zL (zNew T28 q47 13 16384) := zNew_m
  have hk_q47 : zK (zNew T28 q47 13 16384) q47 = 13 := zNew_K
  have hn_q47 : zN (zNew T28 q47 13 16384) q47 = 16384 := zNew_N
  refine z_putQF (k := 12) (i := 38) (j := 1238) (x := (some q47)) (v := .ref q47) (ty := (.array .int)) (ref := "FoldedInHalfModel") (C := RX12) (T := TX12) (N := 56) tyX12 hcf hK_ hw hin12 tyX12_ok nmX12 hL hk rfl (by decide) (by decide) rfl rfl (List.mem_of_getElem? (i := 34) rfl) (fun _ h_ => h_) rfl hnm rfl rfl (by decide +kernel) rfl rfl dX12_init_343 (fun H_ locs_ hw => ?_)
  have hL0 := hL_prev
  obtain ⟨T29, eT29⟩ : ∃ z_, z_ = (zsQ (zNew T28 q47 13 16384) 1238 x0 (some q47)) := ⟨_, rfl⟩
  rw [← eT29] at hw
  have E29 : zGE 1238 2000 0 x0 0 T28 T29 := by rw [eT29]; exact zGE_Qx (zGE_new (zGE_rf hL0) hq_q47 (Or.inl rfl)) (by decide)
  have hk : zK T29 x0 = 12 := E29.2.1.trans hk028
  have hk029 := hk
  have hL : x0 ∈ zL T29 := E29.1
  have L_q47 : q47 ∈ zL T29 := by rw [eT29]; exact zNew_m
  have K_q47 : zK T29 q47 = 13 := by rw [eT29]; exact zNew_K
  have N_q47 : zN T29 q47 = 16384 := by rw [eT29]; exact zNew_N
  have P_q47 : zQ T29 1238 x0 = some q47 := by rw [eT29]; exact zu2_self
  have Z_q47 : zL T29 = zL T28 ++ [q47] := by rw [eT29]; rfl
  have ne_q47 : q47 ≠ x0 := fun e_ => hq_q47 (e_.symm ▸ hL_prev)
  have hL_prev := hL
  refine lv_aload_n hx hb_ dX12_init_346 rfl (lv_at hl 0 rfl) ?_
  refine lv_sipush (v := 3721) hx hb_ dX12_init_347 (by decide) ?_
  refine z_newi (N' := 3721) hcf hK_ hw hA (List.mem_of_getElem? (i := 5) rfl) (by decide) (by decide) (by decide) (Nat.le_of_ble_eq_true rfl) (Nat.le_of_ble_eq_true rfl) dX12_init_350 (fun q48 H_ hq_q48 hw => ?_)
  have hne_x0_q48 : x0 ≠ q48 := fun e_ => hq_q48 (e_ ▸ hL)
  have hk : zK (zNew T29 q48 13 3721) x0 = 12 := (va_up_ne _ _ hne_x0_q48).trans hk
  have hL : x0 ∈ zL (zNew T29 q48 13 3721) := List.mem_append_left _ hL
  have hL_q48 : q48 ∈ zL (zNew T29 q48 13 3721) := zNew_m
  have hk_q48 : zK (zNew T29 q48 13 3721) q48 = 13 := zNew_K
  have hn_q48 : zN (zNew T29 q48 13 3721) q48 = 3721 := zNew_N
  refine z_putQF (k := 12) (i := 40) (j := 1240) (x := (some q48)) (v := .ref q48) (ty := (.array .int)) (ref := "FoldedInHalfModel") (C := RX12) (T := TX12) (N := 56) tyX12 hcf hK_ hw hin12 tyX12_ok nmX12 hL hk rfl (by decide) (by decide) rfl rfl (List.mem_of_getElem? (i := 35) rfl) (fun _ h_ => h_) rfl hnm rfl rfl (by decide +kernel) rfl rfl dX12_init_352 (fun H_ locs_ hw => ?_)
  have hL0 := hL_prev
  obtain ⟨T30, eT30⟩ : ∃ z_, z_ = (zsQ (zNew T29 q48 13 3721) 1240 x0 (some q48)) := ⟨_, rfl⟩
  rw [← eT30] at hw
  have E30 : zGE 1240 2000 0 x0 0 T29 T30 := by rw [eT30]; exact zGE_Qx (zGE_new (zGE_rf hL0) hq_q48 (Or.inl rfl)) (by decide)
  have hk : zK T30 x0 = 12 := E30.2.1.trans hk029
  have hk030 := hk
  have hL : x0 ∈ zL T30 := E30.1
  have L_q48 : q48 ∈ zL T30 := by rw [eT30]; exact zNew_m
  have K_q48 : zK T30 q48 = 13 := by rw [eT30]; exact zNew_K
  have N_q48 : zN T30 q48 = 3721 := by rw [eT30]; exact zNew_N
  have P_q48 : zQ T30 1240 x0 = some q48 := by rw [eT30]; exact zu2_self
  have Z_q48 : zL T30 = zL T29 ++ [q48] := by rw [eT30]; rfl
  have ne_q48 : q48 ≠ x0 := fun e_ => hq_q48 (e_.symm ▸ hL_prev)
  have hL_prev := hL
  refine lv_aload_n hx hb_ dX12_init_355 rfl (lv_at hl 0 rfl) ?_
  refine lv_sipush (v := 3721) hx hb_ dX12_init_356 (by decide) ?_
  refine z_newi (N' := 3721) hcf hK_ hw hA (List.mem_of_getElem? (i := 5) rfl) (by decide) (by decide) (by decide) (Nat.le_of_ble_eq_true rfl) (Nat.le_of_ble_eq_true rfl) dX12_init_359 (fun q49 H_ hq_q49 hw => ?_)
  have hne_x0_q49 : x0 ≠ q49 := fun e_ => hq_q49 (e_ ▸ hL)
  have hk : zK (zNew T30 q49 13 3721) x0 = 12 := (va_up_ne _ _ hne_x0_q49).trans hk
  have hL : x0 ∈ zL (zNew T30 q49 13 3721) := List.mem_append_left _ hL
  have hL_q49 : q49 ∈ zL (zNew T30 q49 13 3721) := zNew_m
  have hk_q49 : zK (zNew T30 q49 13 3721) q49 = 13 := zNew_K
  have hn_q49 : zN (zNew T30 q49 13 3721) q49 = 3721 := zNew_N
  refine z_putQF (k := 12) (i := 41) (j := 1241) (x := (some q49)) (v := .ref q49) (ty := (.array .int)) (ref := "FoldedInHalfModel") (C := RX12) (T := TX12) (N := 56) tyX12 hcf hK_ hw hin12 tyX12_ok nmX12 hL hk rfl (by decide) (by decide) rfl rfl (List.mem_of_getElem? (i := 36) rfl) (fun _ h_ => h_) rfl hnm rfl rfl (by decide +kernel) rfl rfl dX12_init_361 (fun H_ locs_ hw => ?_)
  have hL0 := hL_prev
  obtain ⟨T31, eT31⟩ : ∃ z_, z_ = (zsQ (zNew T30 q49 13 3721) 1241 x0 (some q49)) := ⟨_, rfl⟩
  rw [← eT31] at hw
  have E31 : zGE 1241 2000 0 x0 0 T30 T31 := by rw [eT31]; exact zGE_Qx (zGE_new (zGE_rf hL0) hq_q49 (Or.inl rfl)) (by decide)
  have hk : zK T31 x0 = 12 := E31.2.1.trans hk030
  have hk031 := hk
  have hL : x0 ∈ zL T31 := E31.1
  have L_q49 : q49 ∈ zL T31 := by rw [eT31]; exact zNew_m
  have K_q49 : zK T31 q49 = 13 := by rw [eT31]; exact zNew_K
  have N_q49 : zN T31 q49 = 3721 := by rw [eT31]; exact zNew_N
  have P_q49 : zQ T31 1241 x0 = some q49 := by rw [eT31]; exact zu2_self
  have Z_q49 : zL T31 = zL T30 ++ [q49] := by rw [eT31]; rfl
  have ne_q49 : q49 ≠ x0 := fun e_ => hq_q49 (e_.symm ▸ hL_prev)
  have hL_prev := hL
  refine lv_aload_n hx hb_ dX12_init_364 rfl (lv_at hl 0 rfl) ?_
  refine lv_bipush (v := 6) hx hb_ dX12_init_365 (by decide) ?_
  refine z_newi (N' := 6) hcf hK_ hw hA (List.mem_of_getElem? (i := 5) rfl) (by decide) (by decide) (by decide) (Nat.le_of_ble_eq_true rfl) (Nat.le_of_ble_eq_true rfl) dX12_init_367 (fun q50 H_ hq_q50 hw => ?_)
  have hne_x0_q50 : x0 ≠ q50 := fun e_ => hq_q50 (e_ ▸ hL)
  have hk : zK (zNew T31 q50 13 6) x0 = 12 := (va_up_ne _ _ hne_x0_q50).trans hk
  have hL : x0 ∈ zL (zNew T31 q50 13 6) := List.mem_append_left _ hL
  have hL_q50 : q50 ∈ zL (zNew T31 q50 13 6) := zNew_m
  have hk_q50 : zK (zNew T31 q50 13 6) q50 = 13 := zNew_K
  have hn_q50 : zN (zNew T31 q50 13 6) q50 = 6 := zNew_N
  refine z_putQF (k := 12) (i := 42) (j := 1242) (x := (some q50)) (v := .ref q50) (ty := (.array .int)) (ref := "FoldedInHalfModel") (C := RX12) (T := TX12) (N := 56) tyX12 hcf hK_ hw hin12 tyX12_ok nmX12 hL hk rfl (by decide) (by decide) rfl rfl (List.mem_of_getElem? (i := 37) rfl) (fun _ h_ => h_) rfl hnm rfl rfl (by decide +kernel) rfl rfl dX12_init_369 (fun H_ locs_ hw => ?_)
  have hL0 := hL_prev
  obtain ⟨T32, eT32⟩ : ∃ z_, z_ = (zsQ (zNew T31 q50 13 6) 1242 x0 (some q50)) := ⟨_, rfl⟩
  rw [← eT32] at hw
  have E32 : zGE 1242 2000 0 x0 0 T31 T32 := by rw [eT32]; exact zGE_Qx (zGE_new (zGE_rf hL0) hq_q50 (Or.inl rfl)) (by decide)
  have hk : zK T32 x0 = 12 := E32.2.1.trans hk031
  have hk032 := hk
  have hL : x0 ∈ zL T32 := E32.1
  have L_q50 : q50 ∈ zL T32 := by rw [eT32]; exact zNew_m
  have K_q50 : zK T32 q50 = 13 := by rw [eT32]; exact zNew_K
  have N_q50 : zN T32 q50 = 6 := by rw [eT32]; exact zNew_N
  have P_q50 : zQ T32 1242 x0 = some q50 := by rw [eT32]; exact zu2_self
  have Z_q50 : zL T32 = zL T31 ++ [q50] := by rw [eT32]; rfl
  have ne_q50 : q50 ≠ x0 := fun e_ => hq_q50 (e_.symm ▸ hL_prev)
  have hL_prev := hL
  refine lv_aload_n hx hb_ dX12_init_372 rfl (lv_at hl 0 rfl) ?_
  refine lv_bipush (v := 6) hx hb_ dX12_init_373 (by decide) ?_
  refine z_newi (N' := 6) hcf hK_ hw hA (List.mem_of_getElem? (i := 5) rfl) (by decide) (by decide) (by decide) (Nat.le_of_ble_eq_true rfl) (Nat.le_of_ble_eq_true rfl) dX12_init_375 (fun q51 H_ hq_q51 hw => ?_)
  have hne_x0_q51 : x0 ≠ q51 := fun e_ => hq_q51 (e_ ▸ hL)
  have hk : zK (zNew T32 q51 13 6) x0 = 12 := (va_up_ne _ _ hne_x0_q51).trans hk
  have hL : x0 ∈ zL (zNew T32 q51 13 6) := List.mem_append_left _ hL
  have hL_q51 : q51 ∈ zL (zNew T32 q51 13 6) := zNew_m
  have hk_q51 : zK (zNew T32 q51 13 6) q51 = 13 := zNew_K
  have hn_q51 : zN (zNew T32 q51 13 6) q51 = 6 := zNew_N
  refine z_putQF (k := 12) (i := 43) (j := 1243) (x := (some q51)) (v := .ref q51) (ty := (.array .int)) (ref := "FoldedInHalfModel") (C := RX12) (T := TX12) (N := 56) tyX12 hcf hK_ hw hin12 tyX12_ok nmX12 hL hk rfl (by decide) (by decide) rfl rfl (List.mem_of_getElem? (i := 38) rfl) (fun _ h_ => h_) rfl hnm rfl rfl (by decide +kernel) rfl rfl dX12_init_377 (fun H_ locs_ hw => ?_)
  have hL0 := hL_prev
  obtain ⟨T33, eT33⟩ : ∃ z_, z_ = (zsQ (zNew T32 q51 13 6) 1243 x0 (some q51)) := ⟨_, rfl⟩
  rw [← eT33] at hw
  have E33 : zGE 1243 2000 0 x0 0 T32 T33 := by rw [eT33]; exact zGE_Qx (zGE_new (zGE_rf hL0) hq_q51 (Or.inl rfl)) (by decide)
  have hk : zK T33 x0 = 12 := E33.2.1.trans hk032
  have hk033 := hk
  have hL : x0 ∈ zL T33 := E33.1
  have L_q51 : q51 ∈ zL T33 := by rw [eT33]; exact zNew_m
  have K_q51 : zK T33 q51 = 13 := by rw [eT33]; exact zNew_K
  have N_q51 : zN T33 q51 = 6 := by rw [eT33]; exact zNew_N
  have P_q51 : zQ T33 1243 x0 = some q51 := by rw [eT33]; exact zu2_self
  have Z_q51 : zL T33 = zL T32 ++ [q51] := by rw [eT33]; rfl
  have ne_q51 : q51 ≠ x0 := fun e_ => hq_q51 (e_.symm ▸ hL_prev)
  have hL_prev := hL
  refine lv_aload_n hx hb_ dX12_init_380 rfl (lv_at hl 0 rfl) ?_
  refine lv_bipush (v := 8) hx hb_ dX12_init_381 (by decide) ?_
  refine z_newi (N' := 8) hcf hK_ hw hA (List.mem_of_getElem? (i := 5) rfl) (by decide) (by decide) (by decide) (Nat.le_of_ble_eq_true rfl) (Nat.le_of_ble_eq_true rfl) dX12_init_383 (fun q52 H_ hq_q52 hw => ?_)
  have hne_x0_q52 : x0 ≠ q52 := fun e_ => hq_q52 (e_ ▸ hL)
  have hk : zK (zNew T33 q52 13 8) x0 = 12 := (va_up_ne _ _ hne_x0_q52).trans hk
  have hL : x0 ∈ zL (zNew T33 q52 13 8) := List.mem_append_left _ hL
  have hL_q52 : q52 ∈ zL (zNew T33 q52 13 8) := zNew_m
  have hk_q52 : zK (zNew T33 q52 13 8) q52 = 13 := zNew_K
  have hn_q52 : zN (zNew T33 q52 13 8) q52 = 8 := zNew_N
  refine z_putQF (k := 12) (i := 46) (j := 1246) (x := (some q52)) (v := .ref q52) (ty := (.array .int)) (ref := "FoldedInHalfModel") (C := RX12) (T := TX12) (N := 56) tyX12 hcf hK_ hw hin12 tyX12_ok nmX12 hL hk rfl (by decide) (by decide) rfl rfl (List.mem_of_getElem? (i := 39) rfl) (fun _ h_ => h_) rfl hnm rfl rfl (by decide +kernel) rfl rfl dX12_init_385 (fun H_ locs_ hw => ?_)
  have hL0 := hL_prev
  obtain ⟨T34, eT34⟩ : ∃ z_, z_ = (zsQ (zNew T33 q52 13 8) 1246 x0 (some q52)) := ⟨_, rfl⟩
  rw [← eT34] at hw
  have E34 : zGE 1246 2000 0 x0 0 T33 T34 := by rw [eT34]; exact zGE_Qx (zGE_new (zGE_rf hL0) hq_q52 (Or.inl rfl)) (by decide)
  have hk : zK T34 x0 = 12 := E34.2.1.trans hk033
  have hk034 := hk
  have hL : x0 ∈ zL T34 := E34.1
  have L_q52 : q52 ∈ zL T34 := by rw [eT34]; exact zNew_m
  have K_q52 : zK T34 q52 = 13 := by rw [eT34]; exact zNew_K
  have N_q52 : zN T34 q52 = 8 := by rw [eT34]; exact zNew_N
  have P_q52 : zQ T34 1246 x0 = some q52 := by rw [eT34]; exact zu2_self
  have Z_q52 : zL T34 = zL T33 ++ [q52] := by rw [eT34]; rfl
  have ne_q52 : q52 ≠ x0 := fun e_ => hq_q52 (e_.symm ▸ hL_prev)
  have hL_prev := hL
  refine lv_aload_n hx hb_ dX12_init_388 rfl (lv_at hl 0 rfl) ?_
  refine lv_bipush (v := 8) hx hb_ dX12_init_389 (by decide) ?_
  refine z_newi (N' := 8) hcf hK_ hw hA (List.mem_of_getElem? (i := 5) rfl) (by decide) (by decide) (by decide) (Nat.le_of_ble_eq_true rfl) (Nat.le_of_ble_eq_true rfl) dX12_init_391 (fun q53 H_ hq_q53 hw => ?_)
  have hne_x0_q53 : x0 ≠ q53 := fun e_ => hq_q53 (e_ ▸ hL)
  have hk : zK (zNew T34 q53 13 8) x0 = 12 := (va_up_ne _ _ hne_x0_q53).trans hk
  have hL : x0 ∈ zL (zNew T34 q53 13 8) := List.mem_append_left _ hL
  have hL_q53 : q53 ∈ zL (zNew T34 q53 13 8) := zNew_m
  have hk_q53 : zK (zNew T34 q53 13 8) q53 = 13 := zNew_K
  have hn_q53 : zN (zNew T34 q53 13 8) q53 = 8 := zNew_N
  refine z_putQF (k := 12) (i := 47) (j := 1247) (x := (some q53)) (v := .ref q53) (ty := (.array .int)) (ref := "FoldedInHalfModel") (C := RX12) (T := TX12) (N := 56) tyX12 hcf hK_ hw hin12 tyX12_ok nmX12 hL hk rfl (by decide) (by decide) rfl rfl (List.mem_of_getElem? (i := 40) rfl) (fun _ h_ => h_) rfl hnm rfl rfl (by decide +kernel) rfl rfl dX12_init_393 (fun H_ locs_ hw => ?_)
  have hL0 := hL_prev
  obtain ⟨T35, eT35⟩ : ∃ z_, z_ = (zsQ (zNew T34 q53 13 8) 1247 x0 (some q53)) := ⟨_, rfl⟩
  rw [← eT35] at hw
  have E35 : zGE 1247 2000 0 x0 0 T34 T35 := by rw [eT35]; exact zGE_Qx (zGE_new (zGE_rf hL0) hq_q53 (Or.inl rfl)) (by decide)
  have hk : zK T35 x0 = 12 := E35.2.1.trans hk034
  have hk035 := hk
  have hL : x0 ∈ zL T35 := E35.1
  have L_q53 : q53 ∈ zL T35 := by rw [eT35]; exact zNew_m
  have K_q53 : zK T35 q53 = 13 := by rw [eT35]; exact zNew_K
  have N_q53 : zN T35 q53 = 8 := by rw [eT35]; exact zNew_N
  have P_q53 : zQ T35 1247 x0 = some q53 := by rw [eT35]; exact zu2_self
  have Z_q53 : zL T35 = zL T34 ++ [q53] := by rw [eT35]; rfl
  have ne_q53 : q53 ≠ x0 := fun e_ => hq_q53 (e_.symm ▸ hL_prev)
  have hL_prev := hL
  refine lv_aload_n hx hb_ dX12_init_396 rfl (lv_at hl 0 rfl) ?_
  refine lv_sipush (v := 11136) hx hb_ dX12_init_397 (by decide) ?_
  refine z_newi (N' := 11136) hcf hK_ hw hA (List.mem_of_getElem? (i := 5) rfl) (by decide) (by decide) (by decide) (Nat.le_of_ble_eq_true rfl) (Nat.le_of_ble_eq_true rfl) dX12_init_400 (fun q54 H_ hq_q54 hw => ?_)
  have hne_x0_q54 : x0 ≠ q54 := fun e_ => hq_q54 (e_ ▸ hL)
  have hk : zK (zNew T35 q54 13 11136) x0 = 12 := (va_up_ne _ _ hne_x0_q54).trans hk
  have hL : x0 ∈ zL (zNew T35 q54 13 11136) := List.mem_append_left _ hL
  have hL_q54 : q54 ∈ zL (zNew T35 q54 13 11136) := zNew_m
  have hk_q54 : zK (zNew T35 q54 13 11136) q54 = 13 := zNew_K
  have hn_q54 : zN (zNew T35 q54 13 11136) q54 = 11136 := zNew_N
  refine z_putQF (k := 12) (i := 48) (j := 1248) (x := (some q54)) (v := .ref q54) (ty := (.array .int)) (ref := "FoldedInHalfModel") (C := RX12) (T := TX12) (N := 56) tyX12 hcf hK_ hw hin12 tyX12_ok nmX12 hL hk rfl (by decide) (by decide) rfl rfl (List.mem_of_getElem? (i := 41) rfl) (fun _ h_ => h_) rfl hnm rfl rfl (by decide +kernel) rfl rfl dX12_init_402 (fun H_ locs_ hw => ?_)
  have hL0 := hL_prev
  obtain ⟨T36, eT36⟩ : ∃ z_, z_ = (zsQ (zNew T35 q54 13 11136) 1248 x0 (some q54)) := ⟨_, rfl⟩
  rw [← eT36] at hw
  have E36 : zGE 1248 2000 0 x0 0 T35 T36 := by rw [eT36]; exact zGE_Qx (zGE_new (zGE_rf hL0) hq_q54 (Or.inl rfl)) (by decide)
  have hk : zK T36 x0 = 12 := E36.2.1.trans hk035
  have hk036 := hk
  have hL : x0 ∈ zL T36 := E36.1
  have L_q54 : q54 ∈ zL T36 := by rw [eT36]; exact zNew_m
  have K_q54 : zK T36 q54 = 13 := by rw [eT36]; exact zNew_K
  have N_q54 : zN T36 q54 = 11136 := by rw [eT36]; exact zNew_N
  have P_q54 : zQ T36 1248 x0 = some q54 := by rw [eT36]; exact zu2_self
  have Z_q54 : zL T36 = zL T35 ++ [q54] := by rw [eT36]; rfl
  have ne_q54 : q54 ≠ x0 := fun e_ => hq_q54 (e_.symm ▸ hL_prev)
  have hL_prev := hL
  refine lv_aload_n hx hb_ dX12_init_405 rfl (lv_at hl 0 rfl) ?_
  refine lv_bipush (v := 64) hx hb_ dX12_init_406 (by decide) ?_
  refine z_newi (N' := 64) hcf hK_ hw hA (List.mem_of_getElem? (i := 5) rfl) (by decide) (by decide) (by decide) (Nat.le_of_ble_eq_true rfl) (Nat.le_of_ble_eq_true rfl) dX12_init_408 (fun q55 H_ hq_q55 hw => ?_)
  have hne_x0_q55 : x0 ≠ q55 := fun e_ => hq_q55 (e_ ▸ hL)
  have hk : zK (zNew T36 q55 13 64) x0 = 12 := (va_up_ne _ _ hne_x0_q55).trans hk
  have hL : x0 ∈ zL (zNew T36 q55 13 64) := List.mem_append_left _ hL
  have hL_q55 : q55 ∈ zL (zNew T36 q55 13 64) := zNew_m
  have hk_q55 : zK (zNew T36 q55 13 64) q55 = 13 := zNew_K
  have hn_q55 : zN (zNew T36 q55 13 64) q55 = 64 := zNew_N
  refine z_putQF (k := 12) (i := 51) (j := 1251) (x := (some q55)) (v := .ref q55) (ty := (.array .int)) (ref := "FoldedInHalfModel") (C := RX12) (T := TX12) (N := 56) tyX12 hcf hK_ hw hin12 tyX12_ok nmX12 hL hk rfl (by decide) (by decide) rfl rfl (List.mem_of_getElem? (i := 42) rfl) (fun _ h_ => h_) rfl hnm rfl rfl (by decide +kernel) rfl rfl dX12_init_410 (fun H_ locs_ hw => ?_)
  have hL0 := hL_prev
  obtain ⟨T37, eT37⟩ : ∃ z_, z_ = (zsQ (zNew T36 q55 13 64) 1251 x0 (some q55)) := ⟨_, rfl⟩
  rw [← eT37] at hw
  have E37 : zGE 1251 2000 0 x0 0 T36 T37 := by rw [eT37]; exact zGE_Qx (zGE_new (zGE_rf hL0) hq_q55 (Or.inl rfl)) (by decide)
  have hk : zK T37 x0 = 12 := E37.2.1.trans hk036
  have hk037 := hk
  have hL : x0 ∈ zL T37 := E37.1
  have L_q55 : q55 ∈ zL T37 := by rw [eT37]; exact zNew_m
  have K_q55 : zK T37 q55 = 13 := by rw [eT37]; exact zNew_K
  have N_q55 : zN T37 q55 = 64 := by rw [eT37]; exact zNew_N
  have P_q55 : zQ T37 1251 x0 = some q55 := by rw [eT37]; exact zu2_self
  have Z_q55 : zL T37 = zL T36 ++ [q55] := by rw [eT37]; rfl
  have ne_q55 : q55 ≠ x0 := fun e_ => hq_q55 (e_.symm ▸ hL_prev)
  have hL_prev := hL
  refine lv_aload_n hx hb_ dX12_init_413 rfl (lv_at hl 0 rfl) ?_
  refine lv_bipush (v := 64) hx hb_ dX12_init_414 (by decide) ?_
  refine z_newi (N' := 64) hcf hK_ hw hA (List.mem_of_getElem? (i := 5) rfl) (by decide) (by decide) (by decide) (Nat.le_of_ble_eq_true rfl) (Nat.le_of_ble_eq_true rfl) dX12_init_416 (fun q56 H_ hq_q56 hw => ?_)
  have hne_x0_q56 : x0 ≠ q56 := fun e_ => hq_q56 (e_ ▸ hL)
  have hk : zK (zNew T37 q56 13 64) x0 = 12 := (va_up_ne _ _ hne_x0_q56).trans hk
  have hL : x0 ∈ zL (zNew T37 q56 13 64) := List.mem_append_left _ hL
  have hL_q56 : q56 ∈ zL (zNew T37 q56 13 64) := zNew_m
  have hk_q56 : zK (zNew T37 q56 13 64) q56 = 13 := zNew_K
  have hn_q56 : zN (zNew T37 q56 13 64) q56 = 64 := zNew_N
  refine z_putQF (k := 12) (i := 52) (j := 1252) (x := (some q56)) (v := .ref q56) (ty := (.array .int)) (ref := "FoldedInHalfModel") (C := RX12) (T := TX12) (N := 56) tyX12 hcf hK_ hw hin12 tyX12_ok nmX12 hL hk rfl (by decide) (by decide) rfl rfl (List.mem_of_getElem? (i := 43) rfl) (fun _ h_ => h_) rfl hnm rfl rfl (by decide +kernel) rfl rfl dX12_init_418 (fun H_ locs_ hw => ?_)
  have hL0 := hL_prev
  obtain ⟨T38, eT38⟩ : ∃ z_, z_ = (zsQ (zNew T37 q56 13 64) 1252 x0 (some q56)) := ⟨_, rfl⟩
  rw [← eT38] at hw
  have E38 : zGE 1252 2000 0 x0 0 T37 T38 := by rw [eT38]; exact zGE_Qx (zGE_new (zGE_rf hL0) hq_q56 (Or.inl rfl)) (by decide)
  have hk : zK T38 x0 = 12 := E38.2.1.trans hk037
  have hk038 := hk
  have hL : x0 ∈ zL T38 := E38.1
  have L_q56 : q56 ∈ zL T38 := by rw [eT38]; exact zNew_m
  have K_q56 : zK T38 q56 = 13 := by rw [eT38]; exact zNew_K
  have N_q56 : zN T38 q56 = 64 := by rw [eT38]; exact zNew_N
  have P_q56 : zQ T38 1252 x0 = some q56 := by rw [eT38]; exact zu2_self
  have Z_q56 : zL T38 = zL T37 ++ [q56] := by rw [eT38]; rfl
  have ne_q56 : q56 ≠ x0 := fun e_ => hq_q56 (e_.symm ▸ hL_prev)
  have hL_prev := hL
  refine lv_aload_n hx hb_ dX12_init_421 rfl (lv_at hl 0 rfl) ?_
  refine lv_bipush (v := 20) hx hb_ dX12_init_422 (by decide) ?_
  refine z_newi (N' := 20) hcf hK_ hw hA (List.mem_of_getElem? (i := 5) rfl) (by decide) (by decide) (by decide) (Nat.le_of_ble_eq_true rfl) (Nat.le_of_ble_eq_true rfl) dX12_init_424 (fun q57 H_ hq_q57 hw => ?_)
  have hne_x0_q57 : x0 ≠ q57 := fun e_ => hq_q57 (e_ ▸ hL)
  have hk : zK (zNew T38 q57 13 20) x0 = 12 := (va_up_ne _ _ hne_x0_q57).trans hk
  have hL : x0 ∈ zL (zNew T38 q57 13 20) := List.mem_append_left _ hL
  have hL_q57 : q57 ∈ zL (zNew T38 q57 13 20) := zNew_m
  have hk_q57 : zK (zNew T38 q57 13 20) q57 = 13 := zNew_K
  have hn_q57 : zN (zNew T38 q57 13 20) q57 = 20 := zNew_N
  refine z_putQF (k := 12) (i := 53) (j := 1253) (x := (some q57)) (v := .ref q57) (ty := (.array .int)) (ref := "FoldedInHalfModel") (C := RX12) (T := TX12) (N := 56) tyX12 hcf hK_ hw hin12 tyX12_ok nmX12 hL hk rfl (by decide) (by decide) rfl rfl (List.mem_of_getElem? (i := 44) rfl) (fun _ h_ => h_) rfl hnm rfl rfl (by decide +kernel) rfl rfl dX12_init_426 (fun H_ locs_ hw => ?_)
  have hL0 := hL_prev
  obtain ⟨T39, eT39⟩ : ∃ z_, z_ = (zsQ (zNew T38 q57 13 20) 1253 x0 (some q57)) := ⟨_, rfl⟩
  rw [← eT39] at hw
  have E39 : zGE 1253 2000 0 x0 0 T38 T39 := by rw [eT39]; exact zGE_Qx (zGE_new (zGE_rf hL0) hq_q57 (Or.inl rfl)) (by decide)
  have hk : zK T39 x0 = 12 := E39.2.1.trans hk038
  have hk039 := hk
  have hL : x0 ∈ zL T39 := E39.1
  have L_q57 : q57 ∈ zL T39 := by rw [eT39]; exact zNew_m
  have K_q57 : zK T39 q57 = 13 := by rw [eT39]; exact zNew_K
  have N_q57 : zN T39 q57 = 20 := by rw [eT39]; exact zNew_N
  have P_q57 : zQ T39 1253 x0 = some q57 := by rw [eT39]; exact zu2_self
  have Z_q57 : zL T39 = zL T38 ++ [q57] := by rw [eT39]; rfl
  have ne_q57 : q57 ≠ x0 := fun e_ => hq_q57 (e_.symm ▸ hL_prev)
  have hL_prev := hL
  have F39 := zGE_rf (m := 3000) (mi := 2000) (ny := 0) (y := 0) hL
  have F38 : zGE 1253 2000 0 x0 0 T38 T39 := zGE_tr E39 F39 (by decide) (by decide) (by decide)
  have F37 : zGE 1252 2000 0 x0 0 T37 T39 := zGE_tr E38 F38 (by decide) (by decide) (by decide)
  have F36 : zGE 1251 2000 0 x0 0 T36 T39 := zGE_tr E37 F37 (by decide) (by decide) (by decide)
  have F35 : zGE 1248 2000 0 x0 0 T35 T39 := zGE_tr E36 F36 (by decide) (by decide) (by decide)
  have F34 : zGE 1247 2000 0 x0 0 T34 T39 := zGE_tr E35 F35 (by decide) (by decide) (by decide)
  have F33 : zGE 1246 2000 0 x0 0 T33 T39 := zGE_tr E34 F34 (by decide) (by decide) (by decide)
  have F32 : zGE 1243 2000 0 x0 0 T32 T39 := zGE_tr E33 F33 (by decide) (by decide) (by decide)
  have F31 : zGE 1242 2000 0 x0 0 T31 T39 := zGE_tr E32 F32 (by decide) (by decide) (by decide)
  have F30 : zGE 1241 2000 0 x0 0 T30 T39 := zGE_tr E31 F31 (by decide) (by decide) (by decide)
  have F29 : zGE 1240 2000 0 x0 0 T29 T39 := zGE_tr E30 F30 (by decide) (by decide) (by decide)
  have F28 : zGE 1238 2000 0 x0 0 T28 T39 := zGE_tr E29 F29 (by decide) (by decide) (by decide)
  have F27 : zGE 1237 2000 0 x0 0 T27 T39 := zGE_tr E28 F28 (by decide) (by decide) (by decide)
  have F26 : zGE 1236 2000 0 x0 0 T26 T39 := zGE_tr E27 F27 (by decide) (by decide) (by decide)
  have F25 : zGE 1235 2000 0 x0 0 T25 T39 := zGE_tr E26 F26 (by decide) (by decide) (by decide)
  have F24 : zGE 1234 2000 0 x0 0 T24 T39 := zGE_tr E25 F25 (by decide) (by decide) (by decide)
  have F23 : zGE 1233 2000 0 x0 0 T23 T39 := zGE_tr E24 F24 (by decide) (by decide) (by decide)
  have F22 : zGE 1230 2000 0 x0 0 T22 T39 := zGE_tr E23 F23 (by decide) (by decide) (by decide)
  have F21 : zGE 1229 2000 0 x0 0 T21 T39 := zGE_tr E22 F22 (by decide) (by decide) (by decide)
  have F20 : zGE 1228 2000 0 x0 0 T20 T39 := zGE_tr E21 F21 (by decide) (by decide) (by decide)
  have F19 : zGE 1227 2000 0 x0 0 T19 T39 := zGE_tr E20 F20 (by decide) (by decide) (by decide)
  have F18 : zGE 1226 2000 0 x0 0 T18 T39 := zGE_tr E19 F19 (by decide) (by decide) (by decide)
  have F17 : zGE 1225 2000 0 x0 0 T17 T39 := zGE_tr E18 F18 (by decide) (by decide) (by decide)
  have F16 : zGE 1224 2000 0 x0 0 T16 T39 := zGE_tr E17 F17 (by decide) (by decide) (by decide)
  have F15 : zGE 1223 2000 0 x0 0 T15 T39 := zGE_tr E16 F16 (by decide) (by decide) (by decide)
  have F14 : zGE 1222 2000 0 x0 0 T14 T39 := zGE_tr E15 F15 (by decide) (by decide) (by decide)
  have F13 : zGE 1221 2000 0 x0 0 T13 T39 := zGE_tr E14 F14 (by decide) (by decide) (by decide)
  have F12 : zGE 1213 2000 0 x0 0 T12 T39 := zGE_tr E13 F13 (by decide) (by decide) (by decide)
  have F11 : zGE 1212 2000 0 x0 0 T11 T39 := zGE_tr E12 F12 (by decide) (by decide) (by decide)
  have F10 : zGE 1211 2000 0 x0 0 T10 T39 := zGE_tr E11 F11 (by decide) (by decide) (by decide)
  have F9 : zGE 1210 2000 0 x0 0 T9 T39 := zGE_tr E10 F10 (by decide) (by decide) (by decide)
  have F8 : zGE 1209 2000 0 x0 0 T8 T39 := zGE_tr E9 F9 (by decide) (by decide) (by decide)
  have F7 : zGE 1208 2000 0 x0 0 T7 T39 := zGE_tr E8 F8 (by decide) (by decide) (by decide)
  have F6 : zGE 1207 2000 0 x0 0 T6 T39 := zGE_tr E7 F7 (by decide) (by decide) (by decide)
  have F5 : zGE 1206 2000 0 x0 0 T5 T39 := zGE_tr E6 F6 (by decide) (by decide) (by decide)
  have F4 : zGE 1205 2000 0 x0 0 T4 T39 := zGE_tr E5 F5 (by decide) (by decide) (by decide)
  have F3 : zGE 1204 2000 0 x0 0 T3 T39 := zGE_tr E4 F4 (by decide) (by decide) (by decide)
  have F2 : zGE 1203 2000 0 x0 0 T2 T39 := zGE_tr E3 F3 (by decide) (by decide) (by decide)
  have F1 : zGE 1202 2000 0 x0 0 T1 T39 := zGE_tr E2 F2 (by decide) (by decide) (by decide)
  have G_q1 := F2.2.2.2.2.2 q1 L_q1 ne_q1
  have G_q2 := F3.2.2.2.2.2 q2 L_q2 ne_q2
  have G_q3 := F4.2.2.2.2.2 q3 L_q3 ne_q3
  have G_q4 := F5.2.2.2.2.2 q4 L_q4 ne_q4
  have G_q5 := F6.2.2.2.2.2 q5 L_q5 ne_q5
  have G_q6 := F7.2.2.2.2.2 q6 L_q6 ne_q6
  have G_q7 := F8.2.2.2.2.2 q7 L_q7 ne_q7
  have G_q8 := F9.2.2.2.2.2 q8 L_q8 ne_q8
  have G_q9 := F10.2.2.2.2.2 q9 L_q9 ne_q9
  have G_q10 := F11.2.2.2.2.2 q10 L_q10 ne_q10
  have G_q11 := F12.2.2.2.2.2 q11 L_q11 ne_q11
  have G_q12 := F13.2.2.2.2.2 q12 L_q12 ne_q12
  have G_q32 := F14.2.2.2.2.2 q32 L_q32 ne_q32
  have G_q33 := F15.2.2.2.2.2 q33 L_q33 ne_q33
  have G_q34 := F16.2.2.2.2.2 q34 L_q34 ne_q34
  have G_q35 := F17.2.2.2.2.2 q35 L_q35 ne_q35
  have G_q36 := F18.2.2.2.2.2 q36 L_q36 ne_q36
  have G_q37 := F19.2.2.2.2.2 q37 L_q37 ne_q37
  have G_q38 := F20.2.2.2.2.2 q38 L_q38 ne_q38
  have G_q39 := F21.2.2.2.2.2 q39 L_q39 ne_q39
  have G_q40 := F22.2.2.2.2.2 q40 L_q40 ne_q40
  have G_q41 := F23.2.2.2.2.2 q41 L_q41 ne_q41
  have G_q42 := F24.2.2.2.2.2 q42 L_q42 ne_q42
  have G_q43 := F25.2.2.2.2.2 q43 L_q43 ne_q43
  have G_q44 := F26.2.2.2.2.2 q44 L_q44 ne_q44
  have G_q45 := F27.2.2.2.2.2 q45 L_q45 ne_q45
  have G_q46 := F28.2.2.2.2.2 q46 L_q46 ne_q46
  have G_q47 := F29.2.2.2.2.2 q47 L_q47 ne_q47
  have G_q48 := F30.2.2.2.2.2 q48 L_q48 ne_q48
  have G_q49 := F31.2.2.2.2.2 q49 L_q49 ne_q49
  have G_q50 := F32.2.2.2.2.2 q50 L_q50 ne_q50
  have G_q51 := F33.2.2.2.2.2 q51 L_q51 ne_q51
  have G_q52 := F34.2.2.2.2.2 q52 L_q52 ne_q52
  have G_q53 := F35.2.2.2.2.2 q53 L_q53 ne_q53
  have G_q54 := F36.2.2.2.2.2 q54 L_q54 ne_q54
  have G_q55 := F37.2.2.2.2.2 q55 L_q55 ne_q55
  have G_q56 := F38.2.2.2.2.2 q56 L_q56 ne_q56
  have G_q57 := F39.2.2.2.2.2 q57 L_q57 ne_q57
  have hZ : zL T39 = [x0, q1, q2, q3, q4, q5, q6, q7, q8, q9, q10, q11, q12, q32, q33, q34, q35, q36, q37, q38, q39, q40, q41, q42, q43, q44, q45, q46, q47, q48, q49, q50, q51, q52, q53, q54, q55, q56, q57] := by rw [Z_q57, Z_q56, Z_q55, Z_q54, Z_q53, Z_q52, Z_q51, Z_q50, Z_q49, Z_q48, Z_q47, Z_q46, Z_q45, Z_q44, Z_q43, Z_q42, Z_q41, Z_q40, Z_q39, Z_q38, Z_q37, Z_q36, Z_q35, Z_q34, Z_q33, Z_q32, Z_q12, Z_q11, Z_q10, Z_q9, Z_q8, Z_q7, Z_q6, Z_q5, Z_q4, Z_q3, Z_q2, Z_q1, show zL T1 = zL S_ by rw [eT1]; rfl, hS0]; rfl
  obtain ⟨r_, hr0, hr2, hr3, hr4, hr5, hr6, hr7, hr8, hr9, hr10, hr11, hr12, hr13, hr21, hr22, hr23, hr24, hr25, hr26, hr27, hr28, hr29, hr30, hr33, hr34, hr35, hr36, hr37, hr38, hr40, hr41, hr42, hr43, hr46, hr47, hr48, hr51, hr52, hr53, hri⟩ : ∃ r_ : Nat → Nat, r_ 0 = x0 ∧ r_ 2 = q1 ∧ r_ 3 = q2 ∧ r_ 4 = q3 ∧ r_ 5 = q4 ∧ r_ 6 = q5 ∧ r_ 7 = q6 ∧ r_ 8 = q7 ∧ r_ 9 = q8 ∧ r_ 10 = q9 ∧ r_ 11 = q10 ∧ r_ 12 = q11 ∧ r_ 13 = q12 ∧ r_ 21 = q32 ∧ r_ 22 = q33 ∧ r_ 23 = q34 ∧ r_ 24 = q35 ∧ r_ 25 = q36 ∧ r_ 26 = q37 ∧ r_ 27 = q38 ∧ r_ 28 = q39 ∧ r_ 29 = q40 ∧ r_ 30 = q41 ∧ r_ 33 = q42 ∧ r_ 34 = q43 ∧ r_ 35 = q44 ∧ r_ 36 = q45 ∧ r_ 37 = q46 ∧ r_ 38 = q47 ∧ r_ 40 = q48 ∧ r_ 41 = q49 ∧ r_ 42 = q50 ∧ r_ 43 = q51 ∧ r_ 46 = q52 ∧ r_ 47 = q53 ∧ r_ 48 = q54 ∧ r_ 51 = q55 ∧ r_ 52 = q56 ∧ r_ 53 = q57 ∧ (∀ i_ j_, i_ ∈ mF → j_ ∈ mF → r_ i_ = r_ j_ → i_ = j_) := ⟨fun i_ => [x0, q1, q2, q3, q4, q5, q6, q7, q8, q9, q10, q11, q12, q32, q33, q34, q35, q36, q37, q38, q39, q40, q41, q42, q43, q44, q45, q46, q47, q48, q49, q50, q51, q52, q53, q54, q55, q56, q57].getD ([0, 0, 1, 2, 3, 4, 5, 6, 7, 8, 9, 10, 11, 12, 0, 0, 0, 0, 0, 0, 0, 13, 14, 15, 16, 17, 18, 19, 20, 21, 22, 0, 0, 23, 24, 25, 26, 27, 28, 0, 29, 30, 31, 32, 0, 0, 33, 34, 35, 0, 0, 36, 37, 38].getD i_ 0) 0, rfl, rfl, rfl, rfl, rfl, rfl, rfl, rfl, rfl, rfl, rfl, rfl, rfl, rfl, rfl, rfl, rfl, rfl, rfl, rfl, rfl, rfl, rfl, rfl, rfl, rfl, rfl, rfl, rfl, rfl, rfl, rfl, rfl, rfl, rfl, rfl, rfl, rfl, rfl, zr_inj hw.2.1 hZ [0, 0, 1, 2, 3, 4, 5, 6, 7, 8, 9, 10, 11, 12, 0, 0, 0, 0, 0, 0, 0, 13, 14, 15, 16, 17, 18, 19, 20, 21, 22, 0, 0, 23, 24, 25, 26, 27, 28, 0, 29, 30, 31, 32, 0, 0, 33, 34, 35, 0, 0, 36, 37, 38] (by decide +kernel) (by decide +kernel)⟩
  have h2 : ∀ i_, i_ ∈ mF → r_ i_ ∈ zL T39 ∧ zK T39 (r_ i_) = mKD i_ ∧ (i_ ≠ 0 → zN T39 (r_ i_) = mLN i_) := List.forall_mem_cons.mpr ⟨by rw [hr0]; exact ⟨hL, hk, fun n_ => absurd rfl n_⟩, List.forall_mem_cons.mpr ⟨by rw [hr2]; exact ⟨G_q1.1, G_q1.2.1.trans K_q1, fun _ => G_q1.2.2.1.trans N_q1⟩, List.forall_mem_cons.mpr ⟨by rw [hr3]; exact ⟨G_q2.1, G_q2.2.1.trans K_q2, fun _ => G_q2.2.2.1.trans N_q2⟩, List.forall_mem_cons.mpr ⟨by rw [hr4]; exact ⟨G_q3.1, G_q3.2.1.trans K_q3, fun _ => G_q3.2.2.1.trans N_q3⟩, List.forall_mem_cons.mpr ⟨by rw [hr5]; exact ⟨G_q4.1, G_q4.2.1.trans K_q4, fun _ => G_q4.2.2.1.trans N_q4⟩, List.forall_mem_cons.mpr ⟨by rw [hr6]; exact ⟨G_q5.1, G_q5.2.1.trans K_q5, fun _ => G_q5.2.2.1.trans N_q5⟩, List.forall_mem_cons.mpr ⟨by rw [hr7]; exact ⟨G_q6.1, G_q6.2.1.trans K_q6, fun _ => G_q6.2.2.1.trans N_q6⟩, List.forall_mem_cons.mpr ⟨by rw [hr8]; exact ⟨G_q7.1, G_q7.2.1.trans K_q7, fun _ => G_q7.2.2.1.trans N_q7⟩, List.forall_mem_cons.mpr ⟨by rw [hr9]; exact ⟨G_q8.1, G_q8.2.1.trans K_q8, fun _ => G_q8.2.2.1.trans N_q8⟩, List.forall_mem_cons.mpr ⟨by rw [hr10]; exact ⟨G_q9.1, G_q9.2.1.trans K_q9, fun _ => G_q9.2.2.1.trans N_q9⟩, List.forall_mem_cons.mpr ⟨by rw [hr11]; exact ⟨G_q10.1, G_q10.2.1.trans K_q10, fun _ => G_q10.2.2.1.trans N_q10⟩, List.forall_mem_cons.mpr ⟨by rw [hr12]; exact ⟨G_q11.1, G_q11.2.1.trans K_q11, fun _ => G_q11.2.2.1.trans N_q11⟩, List.forall_mem_cons.mpr ⟨by rw [hr13]; exact ⟨G_q12.1, G_q12.2.1.trans K_q12, fun _ => G_q12.2.2.1.trans N_q12⟩, List.forall_mem_cons.mpr ⟨by rw [hr21]; exact ⟨G_q32.1, G_q32.2.1.trans K_q32, fun _ => G_q32.2.2.1.trans N_q32⟩, List.forall_mem_cons.mpr ⟨by rw [hr22]; exact ⟨G_q33.1, G_q33.2.1.trans K_q33, fun _ => G_q33.2.2.1.trans N_q33⟩, List.forall_mem_cons.mpr ⟨by rw [hr23]; exact ⟨G_q34.1, G_q34.2.1.trans K_q34, fun _ => G_q34.2.2.1.trans N_q34⟩, List.forall_mem_cons.mpr ⟨by rw [hr24]; exact ⟨G_q35.1, G_q35.2.1.trans K_q35, fun _ => G_q35.2.2.1.trans N_q35⟩, List.forall_mem_cons.mpr ⟨by rw [hr25]; exact ⟨G_q36.1, G_q36.2.1.trans K_q36, fun _ => G_q36.2.2.1.trans N_q36⟩, List.forall_mem_cons.mpr ⟨by rw [hr26]; exact ⟨G_q37.1, G_q37.2.1.trans K_q37, fun _ => G_q37.2.2.1.trans N_q37⟩, List.forall_mem_cons.mpr ⟨by rw [hr27]; exact ⟨G_q38.1, G_q38.2.1.trans K_q38, fun _ => G_q38.2.2.1.trans N_q38⟩, List.forall_mem_cons.mpr ⟨by rw [hr28]; exact ⟨G_q39.1, G_q39.2.1.trans K_q39, fun _ => G_q39.2.2.1.trans N_q39⟩, List.forall_mem_cons.mpr ⟨by rw [hr29]; exact ⟨G_q40.1, G_q40.2.1.trans K_q40, fun _ => G_q40.2.2.1.trans N_q40⟩, List.forall_mem_cons.mpr ⟨by rw [hr30]; exact ⟨G_q41.1, G_q41.2.1.trans K_q41, fun _ => G_q41.2.2.1.trans N_q41⟩, List.forall_mem_cons.mpr ⟨by rw [hr33]; exact ⟨G_q42.1, G_q42.2.1.trans K_q42, fun _ => G_q42.2.2.1.trans N_q42⟩, List.forall_mem_cons.mpr ⟨by rw [hr34]; exact ⟨G_q43.1, G_q43.2.1.trans K_q43, fun _ => G_q43.2.2.1.trans N_q43⟩, List.forall_mem_cons.mpr ⟨by rw [hr35]; exact ⟨G_q44.1, G_q44.2.1.trans K_q44, fun _ => G_q44.2.2.1.trans N_q44⟩, List.forall_mem_cons.mpr ⟨by rw [hr36]; exact ⟨G_q45.1, G_q45.2.1.trans K_q45, fun _ => G_q45.2.2.1.trans N_q45⟩, List.forall_mem_cons.mpr ⟨by rw [hr37]; exact ⟨G_q46.1, G_q46.2.1.trans K_q46, fun _ => G_q46.2.2.1.trans N_q46⟩, List.forall_mem_cons.mpr ⟨by rw [hr38]; exact ⟨G_q47.1, G_q47.2.1.trans K_q47, fun _ => G_q47.2.2.1.trans N_q47⟩, List.forall_mem_cons.mpr ⟨by rw [hr40]; exact ⟨G_q48.1, G_q48.2.1.trans K_q48, fun _ => G_q48.2.2.1.trans N_q48⟩, List.forall_mem_cons.mpr ⟨by rw [hr41]; exact ⟨G_q49.1, G_q49.2.1.trans K_q49, fun _ => G_q49.2.2.1.trans N_q49⟩, List.forall_mem_cons.mpr ⟨by rw [hr42]; exact ⟨G_q50.1, G_q50.2.1.trans K_q50, fun _ => G_q50.2.2.1.trans N_q50⟩, List.forall_mem_cons.mpr ⟨by rw [hr43]; exact ⟨G_q51.1, G_q51.2.1.trans K_q51, fun _ => G_q51.2.2.1.trans N_q51⟩, List.forall_mem_cons.mpr ⟨by rw [hr46]; exact ⟨G_q52.1, G_q52.2.1.trans K_q52, fun _ => G_q52.2.2.1.trans N_q52⟩, List.forall_mem_cons.mpr ⟨by rw [hr47]; exact ⟨G_q53.1, G_q53.2.1.trans K_q53, fun _ => G_q53.2.2.1.trans N_q53⟩, List.forall_mem_cons.mpr ⟨by rw [hr48]; exact ⟨G_q54.1, G_q54.2.1.trans K_q54, fun _ => G_q54.2.2.1.trans N_q54⟩, List.forall_mem_cons.mpr ⟨by rw [hr51]; exact ⟨G_q55.1, G_q55.2.1.trans K_q55, fun _ => G_q55.2.2.1.trans N_q55⟩, List.forall_mem_cons.mpr ⟨by rw [hr52]; exact ⟨G_q56.1, G_q56.2.1.trans K_q56, fun _ => G_q56.2.2.1.trans N_q56⟩, List.forall_mem_cons.mpr ⟨by rw [hr53]; exact ⟨G_q57.1, G_q57.2.1.trans K_q57, fun _ => G_q57.2.2.1.trans N_q57⟩, (fun _ q_ => absurd q_ List.not_mem_nil)⟩⟩⟩⟩⟩⟩⟩⟩⟩⟩⟩⟩⟩⟩⟩⟩⟩⟩⟩⟩⟩⟩⟩⟩⟩⟩⟩⟩⟩⟩⟩⟩⟩⟩⟩⟩⟩⟩⟩
  have h3 : ∀ i_, i_ ∈ mF → i_ ≠ 0 → zQ T39 (1200 + i_) (r_ 0) = some (r_ i_) := List.forall_mem_cons.mpr ⟨fun n_ => absurd rfl n_, List.forall_mem_cons.mpr ⟨fun _ => by rw [hr0, hr2]; exact (F2.2.2.1 1202 (by decide)).trans P_q1, List.forall_mem_cons.mpr ⟨fun _ => by rw [hr0, hr3]; exact (F3.2.2.1 1203 (by decide)).trans P_q2, List.forall_mem_cons.mpr ⟨fun _ => by rw [hr0, hr4]; exact (F4.2.2.1 1204 (by decide)).trans P_q3, List.forall_mem_cons.mpr ⟨fun _ => by rw [hr0, hr5]; exact (F5.2.2.1 1205 (by decide)).trans P_q4, List.forall_mem_cons.mpr ⟨fun _ => by rw [hr0, hr6]; exact (F6.2.2.1 1206 (by decide)).trans P_q5, List.forall_mem_cons.mpr ⟨fun _ => by rw [hr0, hr7]; exact (F7.2.2.1 1207 (by decide)).trans P_q6, List.forall_mem_cons.mpr ⟨fun _ => by rw [hr0, hr8]; exact (F8.2.2.1 1208 (by decide)).trans P_q7, List.forall_mem_cons.mpr ⟨fun _ => by rw [hr0, hr9]; exact (F9.2.2.1 1209 (by decide)).trans P_q8, List.forall_mem_cons.mpr ⟨fun _ => by rw [hr0, hr10]; exact (F10.2.2.1 1210 (by decide)).trans P_q9, List.forall_mem_cons.mpr ⟨fun _ => by rw [hr0, hr11]; exact (F11.2.2.1 1211 (by decide)).trans P_q10, List.forall_mem_cons.mpr ⟨fun _ => by rw [hr0, hr12]; exact (F12.2.2.1 1212 (by decide)).trans P_q11, List.forall_mem_cons.mpr ⟨fun _ => by rw [hr0, hr13]; exact (F13.2.2.1 1213 (by decide)).trans P_q12, List.forall_mem_cons.mpr ⟨fun _ => by rw [hr0, hr21]; exact (F14.2.2.1 1221 (by decide)).trans P_q32, List.forall_mem_cons.mpr ⟨fun _ => by rw [hr0, hr22]; exact (F15.2.2.1 1222 (by decide)).trans P_q33, List.forall_mem_cons.mpr ⟨fun _ => by rw [hr0, hr23]; exact (F16.2.2.1 1223 (by decide)).trans P_q34, List.forall_mem_cons.mpr ⟨fun _ => by rw [hr0, hr24]; exact (F17.2.2.1 1224 (by decide)).trans P_q35, List.forall_mem_cons.mpr ⟨fun _ => by rw [hr0, hr25]; exact (F18.2.2.1 1225 (by decide)).trans P_q36, List.forall_mem_cons.mpr ⟨fun _ => by rw [hr0, hr26]; exact (F19.2.2.1 1226 (by decide)).trans P_q37, List.forall_mem_cons.mpr ⟨fun _ => by rw [hr0, hr27]; exact (F20.2.2.1 1227 (by decide)).trans P_q38, List.forall_mem_cons.mpr ⟨fun _ => by rw [hr0, hr28]; exact (F21.2.2.1 1228 (by decide)).trans P_q39, List.forall_mem_cons.mpr ⟨fun _ => by rw [hr0, hr29]; exact (F22.2.2.1 1229 (by decide)).trans P_q40, List.forall_mem_cons.mpr ⟨fun _ => by rw [hr0, hr30]; exact (F23.2.2.1 1230 (by decide)).trans P_q41, List.forall_mem_cons.mpr ⟨fun _ => by rw [hr0, hr33]; exact (F24.2.2.1 1233 (by decide)).trans P_q42, List.forall_mem_cons.mpr ⟨fun _ => by rw [hr0, hr34]; exact (F25.2.2.1 1234 (by decide)).trans P_q43, List.forall_mem_cons.mpr ⟨fun _ => by rw [hr0, hr35]; exact (F26.2.2.1 1235 (by decide)).trans P_q44, List.forall_mem_cons.mpr ⟨fun _ => by rw [hr0, hr36]; exact (F27.2.2.1 1236 (by decide)).trans P_q45, List.forall_mem_cons.mpr ⟨fun _ => by rw [hr0, hr37]; exact (F28.2.2.1 1237 (by decide)).trans P_q46, List.forall_mem_cons.mpr ⟨fun _ => by rw [hr0, hr38]; exact (F29.2.2.1 1238 (by decide)).trans P_q47, List.forall_mem_cons.mpr ⟨fun _ => by rw [hr0, hr40]; exact (F30.2.2.1 1240 (by decide)).trans P_q48, List.forall_mem_cons.mpr ⟨fun _ => by rw [hr0, hr41]; exact (F31.2.2.1 1241 (by decide)).trans P_q49, List.forall_mem_cons.mpr ⟨fun _ => by rw [hr0, hr42]; exact (F32.2.2.1 1242 (by decide)).trans P_q50, List.forall_mem_cons.mpr ⟨fun _ => by rw [hr0, hr43]; exact (F33.2.2.1 1243 (by decide)).trans P_q51, List.forall_mem_cons.mpr ⟨fun _ => by rw [hr0, hr46]; exact (F34.2.2.1 1246 (by decide)).trans P_q52, List.forall_mem_cons.mpr ⟨fun _ => by rw [hr0, hr47]; exact (F35.2.2.1 1247 (by decide)).trans P_q53, List.forall_mem_cons.mpr ⟨fun _ => by rw [hr0, hr48]; exact (F36.2.2.1 1248 (by decide)).trans P_q54, List.forall_mem_cons.mpr ⟨fun _ => by rw [hr0, hr51]; exact (F37.2.2.1 1251 (by decide)).trans P_q55, List.forall_mem_cons.mpr ⟨fun _ => by rw [hr0, hr52]; exact (F38.2.2.1 1252 (by decide)).trans P_q56, List.forall_mem_cons.mpr ⟨fun _ => by rw [hr0, hr53]; exact (F39.2.2.1 1253 (by decide)).trans P_q57, (fun _ q_ => absurd q_ List.not_mem_nil)⟩⟩⟩⟩⟩⟩⟩⟩⟩⟩⟩⟩⟩⟩⟩⟩⟩⟩⟩⟩⟩⟩⟩⟩⟩⟩⟩⟩⟩⟩⟩⟩⟩⟩⟩⟩⟩⟩⟩
  have hFr : FrM T39 r_ := ⟨by rw [hr0]; exact (F1.2.2.2.1 1200 (by decide)).trans (by rw [eT1]; exact (zu2_ne (Or.inr (by decide))).trans (hI0 1200)), by rw [hr0]; exact (F1.2.2.2.1 1201 (by decide)).trans (by rw [eT1]; exact zu2_self), by rw [hr0]; exact (F1.2.2.2.1 1249 (by decide)).trans (by rw [eT1]; exact (zu2_ne (Or.inr (by decide))).trans (hI0 1249)), by rw [hr0]; exact (F1.2.2.2.1 1254 (by decide)).trans (by rw [eT1]; exact (zu2_ne (Or.inr (by decide))).trans (hI0 1254)), by rw [hr0]; exact (F1.2.2.2.1 1255 (by decide)).trans (by rw [eT1]; exact (zu2_ne (Or.inr (by decide))).trans (hI0 1255)), fun i_ => by rw [hr7, G_q6.2.2.2.2.2.1, A_q6], fun i_ => by rw [hr2, G_q1.2.2.2.2.2.1, A_q1]⟩
  exact z_vret hcf hr hlk hw (⟨r_, hr0, ⟨hri, h2, h3⟩, hFr⟩) dX12_init_429

