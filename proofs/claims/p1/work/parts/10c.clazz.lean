set_option maxHeartbeats 4000000 in
set_option maxRecDepth 100000 in
theorem c_X11_init (l : Launch) (cD : va_G) (cy : Nat → ClassId) (sz_ : Nat) (S_ : zS) (x0 : Nat) (hS0 : zL S_ = [x0]) (hL : x0 ∈ zL S_) (hk : zK S_ x0 = 11) : Met l yX11_init wsX11_init ({ frames := 2, cells := 32, slots := 19935, locals := 40 } : Room) (va_Pc [.ref x0] (zPre cD cy S_ sz_)) (va_Qv (fun (S1 : zS) => ∃ r_ : Nat → Nat, r_ 0 = x0 ∧ ShC S1 r_ ∧ FrC S1 r_) (zPost cD cy (zAd cy S_ sz_)) (zAd cy S_ sz_)) 32 19935 (zAd cy S_ sz_) := by
  refine z_ofW (cc := cX11_init) (maxL := 2) (ret := none) (own := RX11) (QQ := fun A_ => va_Qv (fun (S1 : zS) => ∃ r_ : Nat → Nat, r_ 0 = x0 ∧ ShC S1 r_ ∧ FrC S1 r_) (zPost cD cy A_) A_) (by decide) rfl rfl (Nat.le_of_ble_eq_true rfl) ?_
  intro p_ e_ s_ m_ args_ below_ meth_ c_ A_ ls hcf hr hlk hnm hK_ hE hw hA hl
  obtain ⟨hx, hb_, hml, hown, hts⟩ := id hcf
  have hin3 : ∀ w_ ∈ wsX30, w_ ∈ wsX11_init := fun w_ h_ => (List.mem_cons_of_mem _ (List.mem_append_left _ (List.mem_append_right _ h_)))
  have hin5 : ∀ w_ ∈ wsX50, w_ ∈ wsX11_init := fun w_ h_ => (List.mem_cons_of_mem _ (List.mem_append_left _ (List.mem_append_left _ (List.mem_append_right _ h_))))
  have hin7 : ∀ w_ ∈ wsX70, w_ ∈ wsX11_init := fun w_ h_ => (List.mem_cons_of_mem _ (List.mem_append_right _ h_))
  have hin11 : ∀ w_ ∈ wsX110, w_ ∈ wsX11_init := fun w_ h_ => (List.mem_cons_of_mem _ (List.mem_append_left _ (List.mem_append_left _ (List.mem_append_left _ (List.mem_append_right _ h_)))))
  have hl : lv_has ls 2 [(0, .ref x0)] := hl
  have hk00 := hk
  have hL_prev := hL
  refine lv_aload_n hx hb_ dX11_init_0 rfl (lv_at hl 0 rfl) ?_
  refine W.objInit hx hb_ hown (hts (.methodLink RX11 1 objectInit) (by decide +kernel)) (hts (.instanceMethod objectInit) (by decide +kernel)) (hts (.code objectInit ⟨#[0xb1]⟩ 1 none) (by decide +kernel)) rfl (by rw [hml]; exact hl.1) rfl dX11_init_1 (Nat.le_of_ble_eq_true rfl) (Nat.le_of_ble_eq_true rfl) ?_
  refine W.eq (g2 := F0 m_ 4 ls []) rfl ?_
  refine lv_aload_n hx hb_ dX11_init_4 rfl (lv_at hl 0 rfl) ?_
  refine lv_bipush (v := 8) hx hb_ dX11_init_5 (by decide) ?_
  refine z_newp (N' := 8) hcf hK_ hE hw hA (List.mem_of_getElem? (i := 4) rfl) (by decide) (by decide) (by decide) (Nat.le_of_ble_eq_true rfl) (Nat.le_of_ble_eq_true rfl) dX11_init_7 (fun q1 H_ hq_q1 hw => ?_)
  have hne_x0_q1 : x0 ≠ q1 := fun e_ => hq_q1 (e_ ▸ hL)
  have hk : zK (zNew S_ q1 15 8) x0 = 11 := (va_up_ne _ _ hne_x0_q1).trans hk
  have hL : x0 ∈ zL (zNew S_ q1 15 8) := List.mem_append_left _ hL
  have hL_q1 : q1 ∈ zL (zNew S_ q1 15 8) := zNew_m
  have hk_q1 : zK (zNew S_ q1 15 8) q1 = 15 := zNew_K
  have hn_q1 : zN (zNew S_ q1 15 8) q1 = 8 := zNew_N
  refine z_putQF (k := 11) (i := 0) (j := 1100) (x := (some q1)) (v := .ref q1) (ty := (.array (.object "FoldedInHalf$Shelf"))) (ref := "FoldedInHalf") (C := RX11) (T := TX11) (N := 13) tyX11 hcf hK_ hw hin11 tyX11_ok nmX11 hL hk rfl (by decide) (by decide) rfl rfl (List.mem_of_getElem? (i := 5) rfl) (fun _ h_ => h_) rfl hnm rfl rfl (by decide +kernel) rfl rfl dX11_init_10 (fun H_ locs_ hw => ?_)
  have hB_q1 := hq_q1
  have hx_q1 : q1 ≠ x0 := fun e_ => hB_q1 (e_.symm ▸ hL_prev)
  obtain ⟨T1, eT1⟩ : ∃ z_, z_ = (zsQ (zNew S_ q1 15 8) 1100 x0 (some q1)) := ⟨_, rfl⟩
  rw [← eT1] at hw
  have E1 : zGE 1100 1100 0 x0 q1 S_ T1 := by rw [eT1]; exact zGE_Qx (zGE_new (zGE_rf hL_prev) hq_q1 (Or.inl rfl)) (by decide)
  have hk : zK T1 x0 = 11 := E1.2.1.trans hk00
  have hk01 := hk
  have hL : x0 ∈ zL T1 := E1.1
  have L_q1 : q1 ∈ zL T1 := by rw [eT1]; simp [zQ, zI, zK, zN, zA, zR, zL, zsQ, zsI, zsR, zNew, zu2, va_up, hx_q1, hx_q1.symm]
  have K_q1 : zK T1 q1 = 15 := by rw [eT1]; simp [zQ, zI, zK, zN, zA, zR, zL, zsQ, zsI, zsR, zNew, zu2, va_up, hx_q1, hx_q1.symm]
  have N_q1 : zN T1 q1 = 8 := by rw [eT1]; simp [zQ, zI, zK, zN, zA, zR, zL, zsQ, zsI, zsR, zNew, zu2, va_up, hx_q1, hx_q1.symm]
  have P_q1 : zQ T1 1100 x0 = some q1 := by rw [eT1]; simp [zQ, zI, zK, zN, zA, zR, zL, zsQ, zsI, zsR, zNew, zu2, va_up, hx_q1, hx_q1.symm]
  have Z_q1 : zL T1 = zL S_ ++ [q1] := by rw [eT1]; simp [zQ, zI, zK, zN, zA, zR, zL, zsQ, zsI, zsR, zNew, zu2, va_up, hx_q1, hx_q1.symm]
  have hL_prev := hL
  have hLy := L_q1
  have hKy := K_q1
  have hNy := N_q1
  have hPy := P_q1
  have hyx : q1 ≠ x0 := hx_q1
  refine lv_aload_n hx hb_ dX11_init_13 rfl (lv_at hl 0 rfl) ?_
  refine lv_bipush (v := 8) hx hb_ dX11_init_14 (by decide) ?_
  refine z_newq (N' := 8) hcf hK_ hE hw hA (List.mem_of_getElem? (i := 6) rfl) (by decide) (by decide) (by decide) (Nat.le_of_ble_eq_true rfl) (Nat.le_of_ble_eq_true rfl) dX11_init_16 (fun q2 H_ hq_q2 hw => ?_)
  have hne_x0_q2 : x0 ≠ q2 := fun e_ => hq_q2 (e_ ▸ hL)
  have hk : zK (zNew T1 q2 16 8) x0 = 11 := (va_up_ne _ _ hne_x0_q2).trans hk
  have hL : x0 ∈ zL (zNew T1 q2 16 8) := List.mem_append_left _ hL
  have hL_q2 : q2 ∈ zL (zNew T1 q2 16 8) := zNew_m
  have hk_q2 : zK (zNew T1 q2 16 8) q2 = 16 := zNew_K
  have hn_q2 : zN (zNew T1 q2 16 8) q2 = 8 := zNew_N
  refine z_putQF (k := 11) (i := 1) (j := 1101) (x := (some q2)) (v := .ref q2) (ty := (.array (.object "FoldedInHalf$Strip"))) (ref := "FoldedInHalf") (C := RX11) (T := TX11) (N := 13) tyX11 hcf hK_ hw hin11 tyX11_ok nmX11 hL hk rfl (by decide) (by decide) rfl rfl (List.mem_of_getElem? (i := 7) rfl) (fun _ h_ => h_) rfl hnm rfl rfl (by decide +kernel) rfl rfl dX11_init_19 (fun H_ locs_ hw => ?_)
  have hB_q2 := hq_q2
  have hx_q2 : q2 ≠ x0 := fun e_ => hB_q2 (e_.symm ▸ hL_prev)
  have hy_q2 : q2 ≠ q1 := fun e_ => hB_q2 (e_.symm ▸ hLy)
  obtain ⟨T2, eT2⟩ : ∃ z_, z_ = (zsQ (zNew T1 q2 16 8) 1101 x0 (some q2)) := ⟨_, rfl⟩
  rw [← eT2] at hw
  have E2 : zGE 1101 1101 0 x0 q1 T1 T2 := by rw [eT2]; exact zGE_Qx (zGE_new (zGE_rf hL_prev) hq_q2 (Or.inl rfl)) (by decide)
  have hk : zK T2 x0 = 11 := E2.2.1.trans hk01
  have hk02 := hk
  have hL : x0 ∈ zL T2 := E2.1
  have L_q2 : q2 ∈ zL T2 := by rw [eT2]; simp [zQ, zI, zK, zN, zA, zR, zL, zsQ, zsI, zsR, zNew, zu2, va_up, hx_q2, hx_q2.symm]
  have K_q2 : zK T2 q2 = 16 := by rw [eT2]; simp [zQ, zI, zK, zN, zA, zR, zL, zsQ, zsI, zsR, zNew, zu2, va_up, hx_q2, hx_q2.symm]
  have N_q2 : zN T2 q2 = 8 := by rw [eT2]; simp [zQ, zI, zK, zN, zA, zR, zL, zsQ, zsI, zsR, zNew, zu2, va_up, hx_q2, hx_q2.symm]
  have P_q2 : zQ T2 1101 x0 = some q2 := by rw [eT2]; simp [zQ, zI, zK, zN, zA, zR, zL, zsQ, zsI, zsR, zNew, zu2, va_up, hx_q2, hx_q2.symm]
  have Z_q2 : zL T2 = zL T1 ++ [q2] := by rw [eT2]; simp [zQ, zI, zK, zN, zA, zR, zL, zsQ, zsI, zsR, zNew, zu2, va_up, hx_q2, hx_q2.symm]
  have X_S : zR T2 q2 = fun _ => none := by rw [eT2]; simp [zQ, zI, zK, zN, zA, zR, zL, zsQ, zsI, zsR, zNew, zu2, va_up, hx_q2, hx_q2.symm]
  have hL_prev := hL
  have hKy : zK T2 q1 = 15 := (E2.2.2.2.2.2 q1 hLy hyx).2.1.trans hKy
  have hNy : zN T2 q1 = 8 := (E2.2.2.2.2.2 q1 hLy hyx).2.2.1.trans hNy
  have hLy : q1 ∈ zL T2 := (E2.2.2.2.2.2 q1 hLy hyx).1
  have hPy : zQ T2 1100 x0 = some q1 := (E2.2.2.1 1100 (by decide)).trans hPy
  refine lv_aload_n hx hb_ dX11_init_22 rfl (lv_at hl 0 rfl) ?_
  refine lv_bipush (v := 8) hx hb_ dX11_init_23 (by decide) ?_
  refine z_newq (N' := 8) hcf hK_ hE hw hA (List.mem_of_getElem? (i := 6) rfl) (by decide) (by decide) (by decide) (Nat.le_of_ble_eq_true rfl) (Nat.le_of_ble_eq_true rfl) dX11_init_25 (fun q3 H_ hq_q3 hw => ?_)
  have hne_x0_q3 : x0 ≠ q3 := fun e_ => hq_q3 (e_ ▸ hL)
  have hk : zK (zNew T2 q3 16 8) x0 = 11 := (va_up_ne _ _ hne_x0_q3).trans hk
  have hL : x0 ∈ zL (zNew T2 q3 16 8) := List.mem_append_left _ hL
  have hL_q3 : q3 ∈ zL (zNew T2 q3 16 8) := zNew_m
  have hk_q3 : zK (zNew T2 q3 16 8) q3 = 16 := zNew_K
  have hn_q3 : zN (zNew T2 q3 16 8) q3 = 8 := zNew_N
  refine z_putQF (k := 11) (i := 2) (j := 1102) (x := (some q3)) (v := .ref q3) (ty := (.array (.object "FoldedInHalf$Strip"))) (ref := "FoldedInHalf") (C := RX11) (T := TX11) (N := 13) tyX11 hcf hK_ hw hin11 tyX11_ok nmX11 hL hk rfl (by decide) (by decide) rfl rfl (List.mem_of_getElem? (i := 8) rfl) (fun _ h_ => h_) rfl hnm rfl rfl (by decide +kernel) rfl rfl dX11_init_28 (fun H_ locs_ hw => ?_)
  have hB_q3 := hq_q3
  have hx_q3 : q3 ≠ x0 := fun e_ => hB_q3 (e_.symm ▸ hL_prev)
  have hy_q3 : q3 ≠ q1 := fun e_ => hB_q3 (e_.symm ▸ hLy)
  obtain ⟨T3, eT3⟩ : ∃ z_, z_ = (zsQ (zNew T2 q3 16 8) 1102 x0 (some q3)) := ⟨_, rfl⟩
  rw [← eT3] at hw
  have E3 : zGE 1102 1102 0 x0 q1 T2 T3 := by rw [eT3]; exact zGE_Qx (zGE_new (zGE_rf hL_prev) hq_q3 (Or.inl rfl)) (by decide)
  have hk : zK T3 x0 = 11 := E3.2.1.trans hk02
  have hk03 := hk
  have hL : x0 ∈ zL T3 := E3.1
  have L_q3 : q3 ∈ zL T3 := by rw [eT3]; simp [zQ, zI, zK, zN, zA, zR, zL, zsQ, zsI, zsR, zNew, zu2, va_up, hx_q3, hx_q3.symm]
  have K_q3 : zK T3 q3 = 16 := by rw [eT3]; simp [zQ, zI, zK, zN, zA, zR, zL, zsQ, zsI, zsR, zNew, zu2, va_up, hx_q3, hx_q3.symm]
  have N_q3 : zN T3 q3 = 8 := by rw [eT3]; simp [zQ, zI, zK, zN, zA, zR, zL, zsQ, zsI, zsR, zNew, zu2, va_up, hx_q3, hx_q3.symm]
  have P_q3 : zQ T3 1102 x0 = some q3 := by rw [eT3]; simp [zQ, zI, zK, zN, zA, zR, zL, zsQ, zsI, zsR, zNew, zu2, va_up, hx_q3, hx_q3.symm]
  have Z_q3 : zL T3 = zL T2 ++ [q3] := by rw [eT3]; simp [zQ, zI, zK, zN, zA, zR, zL, zsQ, zsI, zsR, zNew, zu2, va_up, hx_q3, hx_q3.symm]
  have hL_prev := hL
  have hKy : zK T3 q1 = 15 := (E3.2.2.2.2.2 q1 hLy hyx).2.1.trans hKy
  have hNy : zN T3 q1 = 8 := (E3.2.2.2.2.2 q1 hLy hyx).2.2.1.trans hNy
  have hLy : q1 ∈ zL T3 := (E3.2.2.2.2.2 q1 hLy hyx).1
  have hPy : zQ T3 1100 x0 = some q1 := (E3.2.2.1 1100 (by decide)).trans hPy
  refine lv_aload_n hx hb_ dX11_init_31 rfl (lv_at hl 0 rfl) ?_
  refine lv_bipush (v := 8) hx hb_ dX11_init_32 (by decide) ?_
  refine z_newi (N' := 8) hcf hK_ hw hA (List.mem_of_getElem? (i := 9) rfl) (by decide) (by decide) (by decide) (Nat.le_of_ble_eq_true rfl) (Nat.le_of_ble_eq_true rfl) dX11_init_34 (fun q4 H_ hq_q4 hw => ?_)
  have hne_x0_q4 : x0 ≠ q4 := fun e_ => hq_q4 (e_ ▸ hL)
  have hk : zK (zNew T3 q4 13 8) x0 = 11 := (va_up_ne _ _ hne_x0_q4).trans hk
  have hL : x0 ∈ zL (zNew T3 q4 13 8) := List.mem_append_left _ hL
  have hL_q4 : q4 ∈ zL (zNew T3 q4 13 8) := zNew_m
  have hk_q4 : zK (zNew T3 q4 13 8) q4 = 13 := zNew_K
  have hn_q4 : zN (zNew T3 q4 13 8) q4 = 8 := zNew_N
  refine z_putQF (k := 11) (i := 3) (j := 1103) (x := (some q4)) (v := .ref q4) (ty := (.array .int)) (ref := "FoldedInHalf") (C := RX11) (T := TX11) (N := 13) tyX11 hcf hK_ hw hin11 tyX11_ok nmX11 hL hk rfl (by decide) (by decide) rfl rfl (List.mem_of_getElem? (i := 10) rfl) (fun _ h_ => h_) rfl hnm rfl rfl (by decide +kernel) rfl rfl dX11_init_36 (fun H_ locs_ hw => ?_)
  have hB_q4 := hq_q4
  have hx_q4 : q4 ≠ x0 := fun e_ => hB_q4 (e_.symm ▸ hL_prev)
  have hy_q4 : q4 ≠ q1 := fun e_ => hB_q4 (e_.symm ▸ hLy)
  obtain ⟨T4, eT4⟩ : ∃ z_, z_ = (zsQ (zNew T3 q4 13 8) 1103 x0 (some q4)) := ⟨_, rfl⟩
  rw [← eT4] at hw
  have E4 : zGE 1103 1103 0 x0 q1 T3 T4 := by rw [eT4]; exact zGE_Qx (zGE_new (zGE_rf hL_prev) hq_q4 (Or.inl rfl)) (by decide)
  have hk : zK T4 x0 = 11 := E4.2.1.trans hk03
  have hk04 := hk
  have hL : x0 ∈ zL T4 := E4.1
  have L_q4 : q4 ∈ zL T4 := by rw [eT4]; simp [zQ, zI, zK, zN, zA, zR, zL, zsQ, zsI, zsR, zNew, zu2, va_up, hx_q4, hx_q4.symm]
  have K_q4 : zK T4 q4 = 13 := by rw [eT4]; simp [zQ, zI, zK, zN, zA, zR, zL, zsQ, zsI, zsR, zNew, zu2, va_up, hx_q4, hx_q4.symm]
  have N_q4 : zN T4 q4 = 8 := by rw [eT4]; simp [zQ, zI, zK, zN, zA, zR, zL, zsQ, zsI, zsR, zNew, zu2, va_up, hx_q4, hx_q4.symm]
  have P_q4 : zQ T4 1103 x0 = some q4 := by rw [eT4]; simp [zQ, zI, zK, zN, zA, zR, zL, zsQ, zsI, zsR, zNew, zu2, va_up, hx_q4, hx_q4.symm]
  have Z_q4 : zL T4 = zL T3 ++ [q4] := by rw [eT4]; simp [zQ, zI, zK, zN, zA, zR, zL, zsQ, zsI, zsR, zNew, zu2, va_up, hx_q4, hx_q4.symm]
  have X_R : zA T4 q4 = fun _ => 0 := by rw [eT4]; simp [zQ, zI, zK, zN, zA, zR, zL, zsQ, zsI, zsR, zNew, zu2, va_up, hx_q4, hx_q4.symm]
  have hL_prev := hL
  have hKy : zK T4 q1 = 15 := (E4.2.2.2.2.2 q1 hLy hyx).2.1.trans hKy
  have hNy : zN T4 q1 = 8 := (E4.2.2.2.2.2 q1 hLy hyx).2.2.1.trans hNy
  have hLy : q1 ∈ zL T4 := (E4.2.2.2.2.2 q1 hLy hyx).1
  have hPy : zQ T4 1100 x0 = some q1 := (E4.2.2.1 1100 (by decide)).trans hPy
  refine lv_aload_n hx hb_ dX11_init_39 rfl (lv_at hl 0 rfl) ?_
  refine lv_bipush (v := 20) hx hb_ dX11_init_40 (by decide) ?_
  refine z_newi (N' := 20) hcf hK_ hw hA (List.mem_of_getElem? (i := 9) rfl) (by decide) (by decide) (by decide) (Nat.le_of_ble_eq_true rfl) (Nat.le_of_ble_eq_true rfl) dX11_init_42 (fun q5 H_ hq_q5 hw => ?_)
  have hne_x0_q5 : x0 ≠ q5 := fun e_ => hq_q5 (e_ ▸ hL)
  have hk : zK (zNew T4 q5 13 20) x0 = 11 := (va_up_ne _ _ hne_x0_q5).trans hk
  have hL : x0 ∈ zL (zNew T4 q5 13 20) := List.mem_append_left _ hL
  have hL_q5 : q5 ∈ zL (zNew T4 q5 13 20) := zNew_m
  have hk_q5 : zK (zNew T4 q5 13 20) q5 = 13 := zNew_K
  have hn_q5 : zN (zNew T4 q5 13 20) q5 = 20 := zNew_N
  refine z_putQF (k := 11) (i := 4) (j := 1104) (x := (some q5)) (v := .ref q5) (ty := (.array .int)) (ref := "FoldedInHalf") (C := RX11) (T := TX11) (N := 13) tyX11 hcf hK_ hw hin11 tyX11_ok nmX11 hL hk rfl (by decide) (by decide) rfl rfl (List.mem_of_getElem? (i := 11) rfl) (fun _ h_ => h_) rfl hnm rfl rfl (by decide +kernel) rfl rfl dX11_init_44 (fun H_ locs_ hw => ?_)
  have hB_q5 := hq_q5
  have hx_q5 : q5 ≠ x0 := fun e_ => hB_q5 (e_.symm ▸ hL_prev)
  have hy_q5 : q5 ≠ q1 := fun e_ => hB_q5 (e_.symm ▸ hLy)
  obtain ⟨T5, eT5⟩ : ∃ z_, z_ = (zsQ (zNew T4 q5 13 20) 1104 x0 (some q5)) := ⟨_, rfl⟩
  rw [← eT5] at hw
  have E5 : zGE 1104 1104 0 x0 q1 T4 T5 := by rw [eT5]; exact zGE_Qx (zGE_new (zGE_rf hL_prev) hq_q5 (Or.inl rfl)) (by decide)
  have hk : zK T5 x0 = 11 := E5.2.1.trans hk04
  have hk05 := hk
  have hL : x0 ∈ zL T5 := E5.1
  have L_q5 : q5 ∈ zL T5 := by rw [eT5]; simp [zQ, zI, zK, zN, zA, zR, zL, zsQ, zsI, zsR, zNew, zu2, va_up, hx_q5, hx_q5.symm]
  have K_q5 : zK T5 q5 = 13 := by rw [eT5]; simp [zQ, zI, zK, zN, zA, zR, zL, zsQ, zsI, zsR, zNew, zu2, va_up, hx_q5, hx_q5.symm]
  have N_q5 : zN T5 q5 = 20 := by rw [eT5]; simp [zQ, zI, zK, zN, zA, zR, zL, zsQ, zsI, zsR, zNew, zu2, va_up, hx_q5, hx_q5.symm]
  have P_q5 : zQ T5 1104 x0 = some q5 := by rw [eT5]; simp [zQ, zI, zK, zN, zA, zR, zL, zsQ, zsI, zsR, zNew, zu2, va_up, hx_q5, hx_q5.symm]
  have Z_q5 : zL T5 = zL T4 ++ [q5] := by rw [eT5]; simp [zQ, zI, zK, zN, zA, zR, zL, zsQ, zsI, zsR, zNew, zu2, va_up, hx_q5, hx_q5.symm]
  have hL_prev := hL
  have hKy : zK T5 q1 = 15 := (E5.2.2.2.2.2 q1 hLy hyx).2.1.trans hKy
  have hNy : zN T5 q1 = 8 := (E5.2.2.2.2.2 q1 hLy hyx).2.2.1.trans hNy
  have hLy : q1 ∈ zL T5 := (E5.2.2.2.2.2 q1 hLy hyx).1
  have hPy : zQ T5 1100 x0 = some q1 := (E5.2.2.1 1100 (by decide)).trans hPy
  refine lv_aload_n hx hb_ dX11_init_47 rfl (lv_at hl 0 rfl) ?_
  refine lv_sipush (v := 8192) hx hb_ dX11_init_48 (by decide) ?_
  refine z_newi (N' := 8192) hcf hK_ hw hA (List.mem_of_getElem? (i := 9) rfl) (by decide) (by decide) (by decide) (Nat.le_of_ble_eq_true rfl) (Nat.le_of_ble_eq_true rfl) dX11_init_51 (fun q6 H_ hq_q6 hw => ?_)
  have hne_x0_q6 : x0 ≠ q6 := fun e_ => hq_q6 (e_ ▸ hL)
  have hk : zK (zNew T5 q6 13 8192) x0 = 11 := (va_up_ne _ _ hne_x0_q6).trans hk
  have hL : x0 ∈ zL (zNew T5 q6 13 8192) := List.mem_append_left _ hL
  have hL_q6 : q6 ∈ zL (zNew T5 q6 13 8192) := zNew_m
  have hk_q6 : zK (zNew T5 q6 13 8192) q6 = 13 := zNew_K
  have hn_q6 : zN (zNew T5 q6 13 8192) q6 = 8192 := zNew_N
  refine z_putQF (k := 11) (i := 5) (j := 1105) (x := (some q6)) (v := .ref q6) (ty := (.array .int)) (ref := "FoldedInHalf") (C := RX11) (T := TX11) (N := 13) tyX11 hcf hK_ hw hin11 tyX11_ok nmX11 hL hk rfl (by decide) (by decide) rfl rfl (List.mem_of_getElem? (i := 12) rfl) (fun _ h_ => h_) rfl hnm rfl rfl (by decide +kernel) rfl rfl dX11_init_53 (fun H_ locs_ hw => ?_)
  have hB_q6 := hq_q6
  have hx_q6 : q6 ≠ x0 := fun e_ => hB_q6 (e_.symm ▸ hL_prev)
  have hy_q6 : q6 ≠ q1 := fun e_ => hB_q6 (e_.symm ▸ hLy)
  obtain ⟨T6, eT6⟩ : ∃ z_, z_ = (zsQ (zNew T5 q6 13 8192) 1105 x0 (some q6)) := ⟨_, rfl⟩
  rw [← eT6] at hw
  have E6 : zGE 1105 1105 0 x0 q1 T5 T6 := by rw [eT6]; exact zGE_Qx (zGE_new (zGE_rf hL_prev) hq_q6 (Or.inl rfl)) (by decide)
  have hk : zK T6 x0 = 11 := E6.2.1.trans hk05
  have hk06 := hk
  have hL : x0 ∈ zL T6 := E6.1
  have L_q6 : q6 ∈ zL T6 := by rw [eT6]; simp [zQ, zI, zK, zN, zA, zR, zL, zsQ, zsI, zsR, zNew, zu2, va_up, hx_q6, hx_q6.symm]
  have K_q6 : zK T6 q6 = 13 := by rw [eT6]; simp [zQ, zI, zK, zN, zA, zR, zL, zsQ, zsI, zsR, zNew, zu2, va_up, hx_q6, hx_q6.symm]
  have N_q6 : zN T6 q6 = 8192 := by rw [eT6]; simp [zQ, zI, zK, zN, zA, zR, zL, zsQ, zsI, zsR, zNew, zu2, va_up, hx_q6, hx_q6.symm]
  have P_q6 : zQ T6 1105 x0 = some q6 := by rw [eT6]; simp [zQ, zI, zK, zN, zA, zR, zL, zsQ, zsI, zsR, zNew, zu2, va_up, hx_q6, hx_q6.symm]
  have Z_q6 : zL T6 = zL T5 ++ [q6] := by rw [eT6]; simp [zQ, zI, zK, zN, zA, zR, zL, zsQ, zsI, zsR, zNew, zu2, va_up, hx_q6, hx_q6.symm]
  have hL_prev := hL
  have hKy : zK T6 q1 = 15 := (E6.2.2.2.2.2 q1 hLy hyx).2.1.trans hKy
  have hNy : zN T6 q1 = 8 := (E6.2.2.2.2.2 q1 hLy hyx).2.2.1.trans hNy
  have hLy : q1 ∈ zL T6 := (E6.2.2.2.2.2 q1 hLy hyx).1
  have hPy : zQ T6 1100 x0 = some q1 := (E6.2.2.1 1100 (by decide)).trans hPy
  refine lv_aload_n hx hb_ dX11_init_56 rfl (lv_at hl 0 rfl) ?_
  refine lv_sipush (v := 8192) hx hb_ dX11_init_57 (by decide) ?_
  refine z_newi (N' := 8192) hcf hK_ hw hA (List.mem_of_getElem? (i := 9) rfl) (by decide) (by decide) (by decide) (Nat.le_of_ble_eq_true rfl) (Nat.le_of_ble_eq_true rfl) dX11_init_60 (fun q7 H_ hq_q7 hw => ?_)
  have hne_x0_q7 : x0 ≠ q7 := fun e_ => hq_q7 (e_ ▸ hL)
  have hk : zK (zNew T6 q7 13 8192) x0 = 11 := (va_up_ne _ _ hne_x0_q7).trans hk
  have hL : x0 ∈ zL (zNew T6 q7 13 8192) := List.mem_append_left _ hL
  have hL_q7 : q7 ∈ zL (zNew T6 q7 13 8192) := zNew_m
  have hk_q7 : zK (zNew T6 q7 13 8192) q7 = 13 := zNew_K
  have hn_q7 : zN (zNew T6 q7 13 8192) q7 = 8192 := zNew_N
  refine z_putQF (k := 11) (i := 6) (j := 1106) (x := (some q7)) (v := .ref q7) (ty := (.array .int)) (ref := "FoldedInHalf") (C := RX11) (T := TX11) (N := 13) tyX11 hcf hK_ hw hin11 tyX11_ok nmX11 hL hk rfl (by decide) (by decide) rfl rfl (List.mem_of_getElem? (i := 13) rfl) (fun _ h_ => h_) rfl hnm rfl rfl (by decide +kernel) rfl rfl dX11_init_62 (fun H_ locs_ hw => ?_)
  have hB_q7 := hq_q7
  have hx_q7 : q7 ≠ x0 := fun e_ => hB_q7 (e_.symm ▸ hL_prev)
  have hy_q7 : q7 ≠ q1 := fun e_ => hB_q7 (e_.symm ▸ hLy)
  obtain ⟨T7, eT7⟩ : ∃ z_, z_ = (zsQ (zNew T6 q7 13 8192) 1106 x0 (some q7)) := ⟨_, rfl⟩
  rw [← eT7] at hw
  have E7 : zGE 1106 1106 0 x0 q1 T6 T7 := by rw [eT7]; exact zGE_Qx (zGE_new (zGE_rf hL_prev) hq_q7 (Or.inl rfl)) (by decide)
  have hk : zK T7 x0 = 11 := E7.2.1.trans hk06
  have hk07 := hk
  have hL : x0 ∈ zL T7 := E7.1
  have L_q7 : q7 ∈ zL T7 := by rw [eT7]; simp [zQ, zI, zK, zN, zA, zR, zL, zsQ, zsI, zsR, zNew, zu2, va_up, hx_q7, hx_q7.symm]
  have K_q7 : zK T7 q7 = 13 := by rw [eT7]; simp [zQ, zI, zK, zN, zA, zR, zL, zsQ, zsI, zsR, zNew, zu2, va_up, hx_q7, hx_q7.symm]
  have N_q7 : zN T7 q7 = 8192 := by rw [eT7]; simp [zQ, zI, zK, zN, zA, zR, zL, zsQ, zsI, zsR, zNew, zu2, va_up, hx_q7, hx_q7.symm]
  have P_q7 : zQ T7 1106 x0 = some q7 := by rw [eT7]; simp [zQ, zI, zK, zN, zA, zR, zL, zsQ, zsI, zsR, zNew, zu2, va_up, hx_q7, hx_q7.symm]
  have Z_q7 : zL T7 = zL T6 ++ [q7] := by rw [eT7]; simp [zQ, zI, zK, zN, zA, zR, zL, zsQ, zsI, zsR, zNew, zu2, va_up, hx_q7, hx_q7.symm]
  have hL_prev := hL
  have hKy : zK T7 q1 = 15 := (E7.2.2.2.2.2 q1 hLy hyx).2.1.trans hKy
  have hNy : zN T7 q1 = 8 := (E7.2.2.2.2.2 q1 hLy hyx).2.2.1.trans hNy
  have hLy : q1 ∈ zL T7 := (E7.2.2.2.2.2 q1 hLy hyx).1
  have hPy : zQ T7 1100 x0 = some q1 := (E7.2.2.1 1100 (by decide)).trans hPy
  refine lv_aload_n hx hb_ dX11_init_65 rfl (lv_at hl 0 rfl) ?_
  refine lv_bipush (v := 31) hx hb_ dX11_init_66 (by decide) ?_
  refine z_newi (N' := 31) hcf hK_ hw hA (List.mem_of_getElem? (i := 9) rfl) (by decide) (by decide) (by decide) (Nat.le_of_ble_eq_true rfl) (Nat.le_of_ble_eq_true rfl) dX11_init_68 (fun q8 H_ hq_q8 hw => ?_)
  have hne_x0_q8 : x0 ≠ q8 := fun e_ => hq_q8 (e_ ▸ hL)
  have hk : zK (zNew T7 q8 13 31) x0 = 11 := (va_up_ne _ _ hne_x0_q8).trans hk
  have hL : x0 ∈ zL (zNew T7 q8 13 31) := List.mem_append_left _ hL
  have hL_q8 : q8 ∈ zL (zNew T7 q8 13 31) := zNew_m
  have hk_q8 : zK (zNew T7 q8 13 31) q8 = 13 := zNew_K
  have hn_q8 : zN (zNew T7 q8 13 31) q8 = 31 := zNew_N
  refine z_putQF (k := 11) (i := 7) (j := 1107) (x := (some q8)) (v := .ref q8) (ty := (.array .int)) (ref := "FoldedInHalf") (C := RX11) (T := TX11) (N := 13) tyX11 hcf hK_ hw hin11 tyX11_ok nmX11 hL hk rfl (by decide) (by decide) rfl rfl (List.mem_of_getElem? (i := 14) rfl) (fun _ h_ => h_) rfl hnm rfl rfl (by decide +kernel) rfl rfl dX11_init_70 (fun H_ locs_ hw => ?_)
  have hB_q8 := hq_q8
  have hx_q8 : q8 ≠ x0 := fun e_ => hB_q8 (e_.symm ▸ hL_prev)
  have hy_q8 : q8 ≠ q1 := fun e_ => hB_q8 (e_.symm ▸ hLy)
  obtain ⟨T8, eT8⟩ : ∃ z_, z_ = (zsQ (zNew T7 q8 13 31) 1107 x0 (some q8)) := ⟨_, rfl⟩
  rw [← eT8] at hw
  have E8 : zGE 1107 1107 0 x0 q1 T7 T8 := by rw [eT8]; exact zGE_Qx (zGE_new (zGE_rf hL_prev) hq_q8 (Or.inl rfl)) (by decide)
  have hk : zK T8 x0 = 11 := E8.2.1.trans hk07
  have hk08 := hk
  have hL : x0 ∈ zL T8 := E8.1
  have L_q8 : q8 ∈ zL T8 := by rw [eT8]; simp [zQ, zI, zK, zN, zA, zR, zL, zsQ, zsI, zsR, zNew, zu2, va_up, hx_q8, hx_q8.symm]
  have K_q8 : zK T8 q8 = 13 := by rw [eT8]; simp [zQ, zI, zK, zN, zA, zR, zL, zsQ, zsI, zsR, zNew, zu2, va_up, hx_q8, hx_q8.symm]
  have N_q8 : zN T8 q8 = 31 := by rw [eT8]; simp [zQ, zI, zK, zN, zA, zR, zL, zsQ, zsI, zsR, zNew, zu2, va_up, hx_q8, hx_q8.symm]
  have P_q8 : zQ T8 1107 x0 = some q8 := by rw [eT8]; simp [zQ, zI, zK, zN, zA, zR, zL, zsQ, zsI, zsR, zNew, zu2, va_up, hx_q8, hx_q8.symm]
  have Z_q8 : zL T8 = zL T7 ++ [q8] := by rw [eT8]; simp [zQ, zI, zK, zN, zA, zR, zL, zsQ, zsI, zsR, zNew, zu2, va_up, hx_q8, hx_q8.symm]
  have hL_prev := hL
  have hKy : zK T8 q1 = 15 := (E8.2.2.2.2.2 q1 hLy hyx).2.1.trans hKy
  have hNy : zN T8 q1 = 8 := (E8.2.2.2.2.2 q1 hLy hyx).2.2.1.trans hNy
  have hLy : q1 ∈ zL T8 := (E8.2.2.2.2.2 q1 hLy hyx).1
  have hPy : zQ T8 1100 x0 = some q1 := (E8.2.2.1 1100 (by decide)).trans hPy
  refine lv_aload_n hx hb_ dX11_init_73 rfl (lv_at hl 0 rfl) ?_
  refine z_new (k := 5) tyX5 hcf hK_ hw hA hin5 tyX5_ok (List.mem_of_getElem? (i := 15) rfl) (List.mem_of_getElem? (i := 16) rfl) (List.mem_of_getElem? (i := 17) rfl) rfl (by decide) zdf5 (Nat.le_of_ble_eq_true rfl) (Nat.le_of_ble_eq_true rfl) dX11_init_74 (fun q9 H_ hq_q9 hw => ?_)
  have hne_x0_q9 : x0 ≠ q9 := fun e_ => hq_q9 (e_ ▸ hL)
  have hk : zK (zNew T8 q9 5 0) x0 = 11 := (va_up_ne _ _ hne_x0_q9).trans hk
  have hL : x0 ∈ zL (zNew T8 q9 5 0) := List.mem_append_left _ hL
  have hL_q9 : q9 ∈ zL (zNew T8 q9 5 0) := zNew_m
  have hk_q9 : zK (zNew T8 q9 5 0) q9 = 5 := zNew_K
  have hn_q9 : zN (zNew T8 q9 5 0) q9 = 0 := zNew_N
  refine lv_dup hx hb_ dX11_init_77 rfl ?_
  refine z_kv hw hA (va_runIN (As := []) (rest := [.ref q9, .ref x0]) hcf (c_X5_init l cD cy _ (zNew T8 q9 5 0) q9 hL_q9 hk_q9) ⟨va_cnB 0 hts gX11_init_X5_init_n42 rfl rfl rfl (nw_M_FoldedInHalf_42 hE) (hts (.initialized RX5) (by decide +kernel)) (by decide +kernel) ⟨Nat.le_of_ble_eq_true rfl, Nat.le_of_ble_eq_true rfl⟩, rfl, hts (.instanceMethod yX5_init) (by decide +kernel)⟩ (z_preS hK_ hE hw) rfl rfl hl.1 rfl (lv_room (Nat.le_of_ble_eq_true rfl)) dX11_init_78 ⟨Nat.le_of_ble_eq_true rfl, Nat.le_of_ble_eq_true rfl⟩) (fun S11 H_ locs_ hp hw => ?_)
  obtain ⟨q12, hq_q12, rfl⟩ := hp
  have hne_x0_q12 : x0 ≠ q12 := fun e_ => hq_q12 (e_ ▸ hL)
  have hk : zK (zNew (zNew T8 q9 5 0) q12 16 8) x0 = 11 := (va_up_ne _ _ hne_x0_q12).trans hk
  have hL : x0 ∈ zL (zNew (zNew T8 q9 5 0) q12 16 8) := List.mem_append_left _ hL
  refine z_putQF (k := 11) (i := 8) (j := 1108) (x := (some q9)) (v := .ref q9) (ty := (.object "FoldedInHalf$Reader")) (ref := "FoldedInHalf") (C := RX11) (T := TX11) (N := 13) tyX11 hcf hK_ hw hin11 tyX11_ok nmX11 hL hk rfl (by decide) (by decide) rfl rfl (List.mem_of_getElem? (i := 18) rfl) (fun _ h_ => h_) rfl hnm rfl rfl (by decide +kernel) rfl rfl dX11_init_81 (fun H_ locs_ hw => ?_)
  have hB_q9 := hq_q9
  have hx_q9 : q9 ≠ x0 := fun e_ => hB_q9 (e_.symm ▸ hL_prev)
  have hy_q9 : q9 ≠ q1 := fun e_ => hB_q9 (e_.symm ▸ hLy)
  have hd_q9_q12 : q9 ≠ q12 := fun e_ => hq_q12 (by rw [← e_]; simp [zL_I, zL_Q, zNew_L])
  have hB_q12 : q12 ∉ zL T8 := fun h_ => hq_q12 (by simp [zL_I, zL_Q, zNew_L, h_])
  have hx_q12 : q12 ≠ x0 := fun e_ => hB_q12 (e_.symm ▸ hL_prev)
  have hy_q12 : q12 ≠ q1 := fun e_ => hB_q12 (e_.symm ▸ hLy)
  obtain ⟨T9, eT9⟩ : ∃ z_, z_ = (zsQ (zsI (zsI (zsQ (zsI (zsI (zsI (zsQ (zNew (zNew T8 q9 5 0) q12 16 8) 500 q9 (some q12)) 501 q9 0) 502 q9 0) 503 q9 (-1)) 504 q9 none) 505 q9 0) 506 q9 0) 1108 x0 (some q9)) := ⟨_, rfl⟩
  rw [← eT9] at hw
  have E9 : zGE 1108 1108 0 x0 q1 T8 T9 := by rw [eT9]; exact zGE_Qx (zGE_I (zGE_I (zGE_Q (zGE_I (zGE_I (zGE_I (zGE_Q (zGE_new (zGE_new (zGE_rf hL_prev) hq_q9 (Or.inl rfl)) hq_q12 (Or.inl rfl)) hB_q9 hx_q9) hB_q9 hx_q9) hB_q9 hx_q9) hB_q9 hx_q9) hB_q9 hx_q9) hB_q9 hx_q9) hB_q9 hx_q9) (by decide)
  have hk : zK T9 x0 = 11 := E9.2.1.trans hk08
  have hk09 := hk
  have hL : x0 ∈ zL T9 := E9.1
  have L_q9 : q9 ∈ zL T9 := by rw [eT9]; simp [zQ, zI, zK, zN, zA, zR, zL, zsQ, zsI, zsR, zNew, zu2, va_up, hd_q9_q12, hd_q9_q12.symm, hx_q9, hx_q9.symm, hx_q12, hx_q12.symm]
  have K_q9 : zK T9 q9 = 5 := by rw [eT9]; simp [zQ, zI, zK, zN, zA, zR, zL, zsQ, zsI, zsR, zNew, zu2, va_up, hd_q9_q12, hd_q9_q12.symm, hx_q9, hx_q9.symm, hx_q12, hx_q12.symm]
  have N_q9 : zN T9 q9 = 0 := by rw [eT9]; simp [zQ, zI, zK, zN, zA, zR, zL, zsQ, zsI, zsR, zNew, zu2, va_up, hd_q9_q12, hd_q9_q12.symm, hx_q9, hx_q9.symm, hx_q12, hx_q12.symm]
  have L_q12 : q12 ∈ zL T9 := by rw [eT9]; simp [zQ, zI, zK, zN, zA, zR, zL, zsQ, zsI, zsR, zNew, zu2, va_up, hd_q9_q12, hd_q9_q12.symm, hx_q9, hx_q9.symm, hx_q12, hx_q12.symm]
  have K_q12 : zK T9 q12 = 16 := by rw [eT9]; simp [zQ, zI, zK, zN, zA, zR, zL, zsQ, zsI, zsR, zNew, zu2, va_up, hd_q9_q12, hd_q9_q12.symm, hx_q9, hx_q9.symm, hx_q12, hx_q12.symm]
  have N_q12 : zN T9 q12 = 8 := by rw [eT9]; simp [zQ, zI, zK, zN, zA, zR, zL, zsQ, zsI, zsR, zNew, zu2, va_up, hd_q9_q12, hd_q9_q12.symm, hx_q9, hx_q9.symm, hx_q12, hx_q12.symm]
  have P_q9 : zQ T9 1108 x0 = some q9 := by rw [eT9]; simp [zQ, zI, zK, zN, zA, zR, zL, zsQ, zsI, zsR, zNew, zu2, va_up, hd_q9_q12, hd_q9_q12.symm, hx_q9, hx_q9.symm, hx_q12, hx_q12.symm]
  have Z_q9 : zL T9 = zL T8 ++ [q9, q12] := by rw [eT9]; simp [zQ, zI, zK, zN, zA, zR, zL, zsQ, zsI, zsR, zNew, zu2, va_up, hd_q9_q12, hd_q9_q12.symm, hx_q9, hx_q9.symm, hx_q12, hx_q12.symm]
  have X_500 : zQ T9 500 q9 = some q12 := by rw [eT9]; simp [zQ, zI, zK, zN, zA, zR, zL, zsQ, zsI, zsR, zNew, zu2, va_up, hd_q9_q12, hd_q9_q12.symm, hx_q9, hx_q9.symm, hx_q12, hx_q12.symm]
  have X_503 : zI T9 503 q9 = (-1) := by rw [eT9]; simp [zQ, zI, zK, zN, zA, zR, zL, zsQ, zsI, zsR, zNew, zu2, va_up, hd_q9_q12, hd_q9_q12.symm, hx_q9, hx_q9.symm, hx_q12, hx_q12.symm]
  have hL_prev := hL
  have hKy : zK T9 q1 = 15 := (E9.2.2.2.2.2 q1 hLy hyx).2.1.trans hKy
  have hNy : zN T9 q1 = 8 := (E9.2.2.2.2.2 q1 hLy hyx).2.2.1.trans hNy
  have hLy : q1 ∈ zL T9 := (E9.2.2.2.2.2 q1 hLy hyx).1
  have hPy : zQ T9 1100 x0 = some q1 := (E9.2.2.1 1100 (by decide)).trans hPy
  refine lv_aload_n hx hb_ dX11_init_84 rfl (lv_at hl 0 rfl) ?_
  refine z_new (k := 3) tyX3 hcf hK_ hw hA hin3 tyX3_ok (List.mem_of_getElem? (i := 19) rfl) (List.mem_of_getElem? (i := 20) rfl) (List.mem_of_getElem? (i := 21) rfl) rfl (by decide) zdf3 (Nat.le_of_ble_eq_true rfl) (Nat.le_of_ble_eq_true rfl) dX11_init_85 (fun q13 H_ hq_q13 hw => ?_)
  have hne_x0_q13 : x0 ≠ q13 := fun e_ => hq_q13 (e_ ▸ hL)
  have hk : zK (zNew T9 q13 3 0) x0 = 11 := (va_up_ne _ _ hne_x0_q13).trans hk
  have hL : x0 ∈ zL (zNew T9 q13 3 0) := List.mem_append_left _ hL
  have hL_q13 : q13 ∈ zL (zNew T9 q13 3 0) := zNew_m
  have hk_q13 : zK (zNew T9 q13 3 0) q13 = 3 := zNew_K
  have hn_q13 : zN (zNew T9 q13 3 0) q13 = 0 := zNew_N
  refine lv_dup hx hb_ dX11_init_88 rfl ?_
  refine z_kv hw hA (va_runIN (As := []) (rest := [.ref q13, .ref x0]) hcf (c_X3_init l cD cy _ (zNew T9 q13 3 0) q13 hL_q13 hk_q13) ⟨va_cnB 0 hts gX11_init_X3_init_n49 rfl rfl rfl (nw_M_FoldedInHalf_49 hE) (hts (.initialized RX3) (by decide +kernel)) (by decide +kernel) ⟨Nat.le_of_ble_eq_true rfl, Nat.le_of_ble_eq_true rfl⟩, rfl, hts (.instanceMethod yX3_init) (by decide +kernel)⟩ (z_preS hK_ hE hw) rfl rfl hl.1 rfl (lv_room (Nat.le_of_ble_eq_true rfl)) dX11_init_89 ⟨Nat.le_of_ble_eq_true rfl, Nat.le_of_ble_eq_true rfl⟩) (fun S15 H_ locs_ hp hw => ?_)
  obtain ⟨q16, q17, q18, q19, q20, ⟨hq_q16, hq_q17, hq_q18, hq_q19, hq_q20⟩, rfl⟩ := hp
  have hne_x0_q16 : x0 ≠ q16 := fun e_ => hq_q16 (e_ ▸ hL)
  have hk : zK (zNew (zNew T9 q13 3 0) q16 13 2100) x0 = 11 := (va_up_ne _ _ hne_x0_q16).trans hk
  have hL : x0 ∈ zL (zNew (zNew T9 q13 3 0) q16 13 2100) := List.mem_append_left _ hL
  have hne_x0_q17 : x0 ≠ q17 := fun e_ => hq_q17 (e_ ▸ hL)
  have hk : zK (zNew (zsQ (zNew (zNew T9 q13 3 0) q16 13 2100) 300 q13 (some q16)) q17 13 9) x0 = 11 := (va_up_ne _ _ hne_x0_q17).trans hk
  have hL : x0 ∈ zL (zNew (zsQ (zNew (zNew T9 q13 3 0) q16 13 2100) 300 q13 (some q16)) q17 13 9) := List.mem_append_left _ hL
  have hne_x0_q18 : x0 ≠ q18 := fun e_ => hq_q18 (e_ ▸ hL)
  have hk : zK (zNew (zsQ (zNew (zsQ (zNew (zNew T9 q13 3 0) q16 13 2100) 300 q13 (some q16)) q17 13 9) 301 q13 (some q17)) q18 13 9) x0 = 11 := (va_up_ne _ _ hne_x0_q18).trans hk
  have hL : x0 ∈ zL (zNew (zsQ (zNew (zsQ (zNew (zNew T9 q13 3 0) q16 13 2100) 300 q13 (some q16)) q17 13 9) 301 q13 (some q17)) q18 13 9) := List.mem_append_left _ hL
  have hne_x0_q19 : x0 ≠ q19 := fun e_ => hq_q19 (e_ ▸ hL)
  have hk : zK (zNew (zsQ (zNew (zsQ (zNew (zsQ (zNew (zNew T9 q13 3 0) q16 13 2100) 300 q13 (some q16)) q17 13 9) 301 q13 (some q17)) q18 13 9) 302 q13 (some q18)) q19 13 8) x0 = 11 := (va_up_ne _ _ hne_x0_q19).trans hk
  have hL : x0 ∈ zL (zNew (zsQ (zNew (zsQ (zNew (zsQ (zNew (zNew T9 q13 3 0) q16 13 2100) 300 q13 (some q16)) q17 13 9) 301 q13 (some q17)) q18 13 9) 302 q13 (some q18)) q19 13 8) := List.mem_append_left _ hL
  have hne_x0_q20 : x0 ≠ q20 := fun e_ => hq_q20 (e_ ▸ hL)
  have hk : zK (zNew (zsQ (zNew (zsQ (zNew (zsQ (zNew (zsQ (zNew (zNew T9 q13 3 0) q16 13 2100) 300 q13 (some q16)) q17 13 9) 301 q13 (some q17)) q18 13 9) 302 q13 (some q18)) q19 13 8) 303 q13 (some q19)) q20 13 8) x0 = 11 := (va_up_ne _ _ hne_x0_q20).trans hk
  have hL : x0 ∈ zL (zNew (zsQ (zNew (zsQ (zNew (zsQ (zNew (zsQ (zNew (zNew T9 q13 3 0) q16 13 2100) 300 q13 (some q16)) q17 13 9) 301 q13 (some q17)) q18 13 9) 302 q13 (some q18)) q19 13 8) 303 q13 (some q19)) q20 13 8) := List.mem_append_left _ hL
  refine z_putQF (k := 11) (i := 9) (j := 1109) (x := (some q13)) (v := .ref q13) (ty := (.object "FoldedInHalf$Leaves")) (ref := "FoldedInHalf") (C := RX11) (T := TX11) (N := 13) tyX11 hcf hK_ hw hin11 tyX11_ok nmX11 hL hk rfl (by decide) (by decide) rfl rfl (List.mem_of_getElem? (i := 22) rfl) (fun _ h_ => h_) rfl hnm rfl rfl (by decide +kernel) rfl rfl dX11_init_92 (fun H_ locs_ hw => ?_)
  have hB_q13 := hq_q13
  have hx_q13 : q13 ≠ x0 := fun e_ => hB_q13 (e_.symm ▸ hL_prev)
  have hy_q13 : q13 ≠ q1 := fun e_ => hB_q13 (e_.symm ▸ hLy)
  have hd_q13_q16 : q13 ≠ q16 := fun e_ => hq_q16 (by rw [← e_]; simp [zL_I, zL_Q, zNew_L])
  have hd_q13_q17 : q13 ≠ q17 := fun e_ => hq_q17 (by rw [← e_]; simp [zL_I, zL_Q, zNew_L])
  have hd_q13_q18 : q13 ≠ q18 := fun e_ => hq_q18 (by rw [← e_]; simp [zL_I, zL_Q, zNew_L])
  have hd_q13_q19 : q13 ≠ q19 := fun e_ => hq_q19 (by rw [← e_]; simp [zL_I, zL_Q, zNew_L])
  have hd_q13_q20 : q13 ≠ q20 := fun e_ => hq_q20 (by rw [← e_]; simp [zL_I, zL_Q, zNew_L])
  have hB_q16 : q16 ∉ zL T9 := fun h_ => hq_q16 (by simp [zL_I, zL_Q, zNew_L, h_])
  have hx_q16 : q16 ≠ x0 := fun e_ => hB_q16 (e_.symm ▸ hL_prev)
  have hy_q16 : q16 ≠ q1 := fun e_ => hB_q16 (e_.symm ▸ hLy)
  have hd_q16_q17 : q16 ≠ q17 := fun e_ => hq_q17 (by rw [← e_]; simp [zL_I, zL_Q, zNew_L])
  have hd_q16_q18 : q16 ≠ q18 := fun e_ => hq_q18 (by rw [← e_]; simp [zL_I, zL_Q, zNew_L])
  have hd_q16_q19 : q16 ≠ q19 := fun e_ => hq_q19 (by rw [← e_]; simp [zL_I, zL_Q, zNew_L])
  have hd_q16_q20 : q16 ≠ q20 := fun e_ => hq_q20 (by rw [← e_]; simp [zL_I, zL_Q, zNew_L])
  have hB_q17 : q17 ∉ zL T9 := fun h_ => hq_q17 (by simp [zL_I, zL_Q, zNew_L, h_])
  have hx_q17 : q17 ≠ x0 := fun e_ => hB_q17 (e_.symm ▸ hL_prev)
  have hy_q17 : q17 ≠ q1 := fun e_ => hB_q17 (e_.symm ▸ hLy)
  have hd_q17_q18 : q17 ≠ q18 := fun e_ => hq_q18 (by rw [← e_]; simp [zL_I, zL_Q, zNew_L])
  have hd_q17_q19 : q17 ≠ q19 := fun e_ => hq_q19 (by rw [← e_]; simp [zL_I, zL_Q, zNew_L])
  have hd_q17_q20 : q17 ≠ q20 := fun e_ => hq_q20 (by rw [← e_]; simp [zL_I, zL_Q, zNew_L])
  have hB_q18 : q18 ∉ zL T9 := fun h_ => hq_q18 (by simp [zL_I, zL_Q, zNew_L, h_])
  have hx_q18 : q18 ≠ x0 := fun e_ => hB_q18 (e_.symm ▸ hL_prev)
  have hy_q18 : q18 ≠ q1 := fun e_ => hB_q18 (e_.symm ▸ hLy)
  have hd_q18_q19 : q18 ≠ q19 := fun e_ => hq_q19 (by rw [← e_]; simp [zL_I, zL_Q, zNew_L])
  have hd_q18_q20 : q18 ≠ q20 := fun e_ => hq_q20 (by rw [← e_]; simp [zL_I, zL_Q, zNew_L])
  have hB_q19 : q19 ∉ zL T9 := fun h_ => hq_q19 (by simp [zL_I, zL_Q, zNew_L, h_])
  have hx_q19 : q19 ≠ x0 := fun e_ => hB_q19 (e_.symm ▸ hL_prev)
  have hy_q19 : q19 ≠ q1 := fun e_ => hB_q19 (e_.symm ▸ hLy)
  have hd_q19_q20 : q19 ≠ q20 := fun e_ => hq_q20 (by rw [← e_]; simp [zL_I, zL_Q, zNew_L])
  have hB_q20 : q20 ∉ zL T9 := fun h_ => hq_q20 (by simp [zL_I, zL_Q, zNew_L, h_])
  have hx_q20 : q20 ≠ x0 := fun e_ => hB_q20 (e_.symm ▸ hL_prev)
  have hy_q20 : q20 ≠ q1 := fun e_ => hB_q20 (e_.symm ▸ hLy)
  obtain ⟨T10, eT10⟩ : ∃ z_, z_ = (zsQ (zsI (zsI (zsQ (zNew (zsQ (zNew (zsQ (zNew (zsQ (zNew (zsQ (zNew (zNew T9 q13 3 0) q16 13 2100) 300 q13 (some q16)) q17 13 9) 301 q13 (some q17)) q18 13 9) 302 q13 (some q18)) q19 13 8) 303 q13 (some q19)) q20 13 8) 304 q13 (some q20)) 305 q13 0) 306 q13 0) 1109 x0 (some q13)) := ⟨_, rfl⟩
  rw [← eT10] at hw
  have E10 : zGE 1109 1109 0 x0 q1 T9 T10 := by rw [eT10]; exact zGE_Qx (zGE_I (zGE_I (zGE_Q (zGE_new (zGE_Q (zGE_new (zGE_Q (zGE_new (zGE_Q (zGE_new (zGE_Q (zGE_new (zGE_new (zGE_rf hL_prev) hq_q13 (Or.inl rfl)) hq_q16 (Or.inl rfl)) hB_q13 hx_q13) hq_q17 (Or.inl rfl)) hB_q13 hx_q13) hq_q18 (Or.inl rfl)) hB_q13 hx_q13) hq_q19 (Or.inl rfl)) hB_q13 hx_q13) hq_q20 (Or.inl rfl)) hB_q13 hx_q13) hB_q13 hx_q13) hB_q13 hx_q13) (by decide)
  have hk : zK T10 x0 = 11 := E10.2.1.trans hk09
  have hk010 := hk
  have hL : x0 ∈ zL T10 := E10.1
  have L_q13 : q13 ∈ zL T10 := by rw [eT10]; simp [zQ, zI, zK, zN, zA, zR, zL, zsQ, zsI, zsR, zNew, zu2, va_up, hd_q13_q16, hd_q13_q16.symm, hd_q13_q17, hd_q13_q17.symm, hd_q13_q18, hd_q13_q18.symm, hd_q13_q19, hd_q13_q19.symm, hd_q13_q20, hd_q13_q20.symm, hd_q16_q17, hd_q16_q17.symm, hd_q16_q18, hd_q16_q18.symm, hd_q16_q19, hd_q16_q19.symm, hd_q16_q20, hd_q16_q20.symm, hd_q17_q18, hd_q17_q18.symm, hd_q17_q19, hd_q17_q19.symm, hd_q17_q20, hd_q17_q20.symm, hd_q18_q19, hd_q18_q19.symm, hd_q18_q20, hd_q18_q20.symm, hd_q19_q20, hd_q19_q20.symm, hx_q13, hx_q13.symm, hx_q16, hx_q16.symm, hx_q17, hx_q17.symm, hx_q18, hx_q18.symm, hx_q19, hx_q19.symm, hx_q20, hx_q20.symm]
  have K_q13 : zK T10 q13 = 3 := by rw [eT10]; simp [zQ, zI, zK, zN, zA, zR, zL, zsQ, zsI, zsR, zNew, zu2, va_up, hd_q13_q16, hd_q13_q16.symm, hd_q13_q17, hd_q13_q17.symm, hd_q13_q18, hd_q13_q18.symm, hd_q13_q19, hd_q13_q19.symm, hd_q13_q20, hd_q13_q20.symm, hd_q16_q17, hd_q16_q17.symm, hd_q16_q18, hd_q16_q18.symm, hd_q16_q19, hd_q16_q19.symm, hd_q16_q20, hd_q16_q20.symm, hd_q17_q18, hd_q17_q18.symm, hd_q17_q19, hd_q17_q19.symm, hd_q17_q20, hd_q17_q20.symm, hd_q18_q19, hd_q18_q19.symm, hd_q18_q20, hd_q18_q20.symm, hd_q19_q20, hd_q19_q20.symm, hx_q13, hx_q13.symm, hx_q16, hx_q16.symm, hx_q17, hx_q17.symm, hx_q18, hx_q18.symm, hx_q19, hx_q19.symm, hx_q20, hx_q20.symm]
  have N_q13 : zN T10 q13 = 0 := by rw [eT10]; simp [zQ, zI, zK, zN, zA, zR, zL, zsQ, zsI, zsR, zNew, zu2, va_up, hd_q13_q16, hd_q13_q16.symm, hd_q13_q17, hd_q13_q17.symm, hd_q13_q18, hd_q13_q18.symm, hd_q13_q19, hd_q13_q19.symm, hd_q13_q20, hd_q13_q20.symm, hd_q16_q17, hd_q16_q17.symm, hd_q16_q18, hd_q16_q18.symm, hd_q16_q19, hd_q16_q19.symm, hd_q16_q20, hd_q16_q20.symm, hd_q17_q18, hd_q17_q18.symm, hd_q17_q19, hd_q17_q19.symm, hd_q17_q20, hd_q17_q20.symm, hd_q18_q19, hd_q18_q19.symm, hd_q18_q20, hd_q18_q20.symm, hd_q19_q20, hd_q19_q20.symm, hx_q13, hx_q13.symm, hx_q16, hx_q16.symm, hx_q17, hx_q17.symm, hx_q18, hx_q18.symm, hx_q19, hx_q19.symm, hx_q20, hx_q20.symm]
  have L_q16 : q16 ∈ zL T10 := by rw [eT10]; simp [zQ, zI, zK, zN, zA, zR, zL, zsQ, zsI, zsR, zNew, zu2, va_up, hd_q13_q16, hd_q13_q16.symm, hd_q13_q17, hd_q13_q17.symm, hd_q13_q18, hd_q13_q18.symm, hd_q13_q19, hd_q13_q19.symm, hd_q13_q20, hd_q13_q20.symm, hd_q16_q17, hd_q16_q17.symm, hd_q16_q18, hd_q16_q18.symm, hd_q16_q19, hd_q16_q19.symm, hd_q16_q20, hd_q16_q20.symm, hd_q17_q18, hd_q17_q18.symm, hd_q17_q19, hd_q17_q19.symm, hd_q17_q20, hd_q17_q20.symm, hd_q18_q19, hd_q18_q19.symm, hd_q18_q20, hd_q18_q20.symm, hd_q19_q20, hd_q19_q20.symm, hx_q13, hx_q13.symm, hx_q16, hx_q16.symm, hx_q17, hx_q17.symm, hx_q18, hx_q18.symm, hx_q19, hx_q19.symm, hx_q20, hx_q20.symm]
  have K_q16 : zK T10 q16 = 13 := by rw [eT10]; simp [zQ, zI, zK, zN, zA, zR, zL, zsQ, zsI, zsR, zNew, zu2, va_up, hd_q13_q16, hd_q13_q16.symm, hd_q13_q17, hd_q13_q17.symm, hd_q13_q18, hd_q13_q18.symm, hd_q13_q19, hd_q13_q19.symm, hd_q13_q20, hd_q13_q20.symm, hd_q16_q17, hd_q16_q17.symm, hd_q16_q18, hd_q16_q18.symm, hd_q16_q19, hd_q16_q19.symm, hd_q16_q20, hd_q16_q20.symm, hd_q17_q18, hd_q17_q18.symm, hd_q17_q19, hd_q17_q19.symm, hd_q17_q20, hd_q17_q20.symm, hd_q18_q19, hd_q18_q19.symm, hd_q18_q20, hd_q18_q20.symm, hd_q19_q20, hd_q19_q20.symm, hx_q13, hx_q13.symm, hx_q16, hx_q16.symm, hx_q17, hx_q17.symm, hx_q18, hx_q18.symm, hx_q19, hx_q19.symm, hx_q20, hx_q20.symm]
  have N_q16 : zN T10 q16 = 2100 := by rw [eT10]; simp [zQ, zI, zK, zN, zA, zR, zL, zsQ, zsI, zsR, zNew, zu2, va_up, hd_q13_q16, hd_q13_q16.symm, hd_q13_q17, hd_q13_q17.symm, hd_q13_q18, hd_q13_q18.symm, hd_q13_q19, hd_q13_q19.symm, hd_q13_q20, hd_q13_q20.symm, hd_q16_q17, hd_q16_q17.symm, hd_q16_q18, hd_q16_q18.symm, hd_q16_q19, hd_q16_q19.symm, hd_q16_q20, hd_q16_q20.symm, hd_q17_q18, hd_q17_q18.symm, hd_q17_q19, hd_q17_q19.symm, hd_q17_q20, hd_q17_q20.symm, hd_q18_q19, hd_q18_q19.symm, hd_q18_q20, hd_q18_q20.symm, hd_q19_q20, hd_q19_q20.symm, hx_q13, hx_q13.symm, hx_q16, hx_q16.symm, hx_q17, hx_q17.symm, hx_q18, hx_q18.symm, hx_q19, hx_q19.symm, hx_q20, hx_q20.symm]
  have L_q17 : q17 ∈ zL T10 := by rw [eT10]; simp [zQ, zI, zK, zN, zA, zR, zL, zsQ, zsI, zsR, zNew, zu2, va_up, hd_q13_q16, hd_q13_q16.symm, hd_q13_q17, hd_q13_q17.symm, hd_q13_q18, hd_q13_q18.symm, hd_q13_q19, hd_q13_q19.symm, hd_q13_q20, hd_q13_q20.symm, hd_q16_q17, hd_q16_q17.symm, hd_q16_q18, hd_q16_q18.symm, hd_q16_q19, hd_q16_q19.symm, hd_q16_q20, hd_q16_q20.symm, hd_q17_q18, hd_q17_q18.symm, hd_q17_q19, hd_q17_q19.symm, hd_q17_q20, hd_q17_q20.symm, hd_q18_q19, hd_q18_q19.symm, hd_q18_q20, hd_q18_q20.symm, hd_q19_q20, hd_q19_q20.symm, hx_q13, hx_q13.symm, hx_q16, hx_q16.symm, hx_q17, hx_q17.symm, hx_q18, hx_q18.symm, hx_q19, hx_q19.symm, hx_q20, hx_q20.symm]
  have K_q17 : zK T10 q17 = 13 := by rw [eT10]; simp [zQ, zI, zK, zN, zA, zR, zL, zsQ, zsI, zsR, zNew, zu2, va_up, hd_q13_q16, hd_q13_q16.symm, hd_q13_q17, hd_q13_q17.symm, hd_q13_q18, hd_q13_q18.symm, hd_q13_q19, hd_q13_q19.symm, hd_q13_q20, hd_q13_q20.symm, hd_q16_q17, hd_q16_q17.symm, hd_q16_q18, hd_q16_q18.symm, hd_q16_q19, hd_q16_q19.symm, hd_q16_q20, hd_q16_q20.symm, hd_q17_q18, hd_q17_q18.symm, hd_q17_q19, hd_q17_q19.symm, hd_q17_q20, hd_q17_q20.symm, hd_q18_q19, hd_q18_q19.symm, hd_q18_q20, hd_q18_q20.symm, hd_q19_q20, hd_q19_q20.symm, hx_q13, hx_q13.symm, hx_q16, hx_q16.symm, hx_q17, hx_q17.symm, hx_q18, hx_q18.symm, hx_q19, hx_q19.symm, hx_q20, hx_q20.symm]
  have N_q17 : zN T10 q17 = 9 := by rw [eT10]; simp [zQ, zI, zK, zN, zA, zR, zL, zsQ, zsI, zsR, zNew, zu2, va_up, hd_q13_q16, hd_q13_q16.symm, hd_q13_q17, hd_q13_q17.symm, hd_q13_q18, hd_q13_q18.symm, hd_q13_q19, hd_q13_q19.symm, hd_q13_q20, hd_q13_q20.symm, hd_q16_q17, hd_q16_q17.symm, hd_q16_q18, hd_q16_q18.symm, hd_q16_q19, hd_q16_q19.symm, hd_q16_q20, hd_q16_q20.symm, hd_q17_q18, hd_q17_q18.symm, hd_q17_q19, hd_q17_q19.symm, hd_q17_q20, hd_q17_q20.symm, hd_q18_q19, hd_q18_q19.symm, hd_q18_q20, hd_q18_q20.symm, hd_q19_q20, hd_q19_q20.symm, hx_q13, hx_q13.symm, hx_q16, hx_q16.symm, hx_q17, hx_q17.symm, hx_q18, hx_q18.symm, hx_q19, hx_q19.symm, hx_q20, hx_q20.symm]
  have L_q18 : q18 ∈ zL T10 := by rw [eT10]; simp [zQ, zI, zK, zN, zA, zR, zL, zsQ, zsI, zsR, zNew, zu2, va_up, hd_q13_q16, hd_q13_q16.symm, hd_q13_q17, hd_q13_q17.symm, hd_q13_q18, hd_q13_q18.symm, hd_q13_q19, hd_q13_q19.symm, hd_q13_q20, hd_q13_q20.symm, hd_q16_q17, hd_q16_q17.symm, hd_q16_q18, hd_q16_q18.symm, hd_q16_q19, hd_q16_q19.symm, hd_q16_q20, hd_q16_q20.symm, hd_q17_q18, hd_q17_q18.symm, hd_q17_q19, hd_q17_q19.symm, hd_q17_q20, hd_q17_q20.symm, hd_q18_q19, hd_q18_q19.symm, hd_q18_q20, hd_q18_q20.symm, hd_q19_q20, hd_q19_q20.symm, hx_q13, hx_q13.symm, hx_q16, hx_q16.symm, hx_q17, hx_q17.symm, hx_q18, hx_q18.symm, hx_q19, hx_q19.symm, hx_q20, hx_q20.symm]
  have K_q18 : zK T10 q18 = 13 := by rw [eT10]; simp [zQ, zI, zK, zN, zA, zR, zL, zsQ, zsI, zsR, zNew, zu2, va_up, hd_q13_q16, hd_q13_q16.symm, hd_q13_q17, hd_q13_q17.symm, hd_q13_q18, hd_q13_q18.symm, hd_q13_q19, hd_q13_q19.symm, hd_q13_q20, hd_q13_q20.symm, hd_q16_q17, hd_q16_q17.symm, hd_q16_q18, hd_q16_q18.symm, hd_q16_q19, hd_q16_q19.symm, hd_q16_q20, hd_q16_q20.symm, hd_q17_q18, hd_q17_q18.symm, hd_q17_q19, hd_q17_q19.symm, hd_q17_q20, hd_q17_q20.symm, hd_q18_q19, hd_q18_q19.symm, hd_q18_q20, hd_q18_q20.symm, hd_q19_q20, hd_q19_q20.symm, hx_q13, hx_q13.symm, hx_q16, hx_q16.symm, hx_q17, hx_q17.symm, hx_q18, hx_q18.symm, hx_q19, hx_q19.symm, hx_q20, hx_q20.symm]
  have N_q18 : zN T10 q18 = 9 := by rw [eT10]; simp [zQ, zI, zK, zN, zA, zR, zL, zsQ, zsI, zsR, zNew, zu2, va_up, hd_q13_q16, hd_q13_q16.symm, hd_q13_q17, hd_q13_q17.symm, hd_q13_q18, hd_q13_q18.symm, hd_q13_q19, hd_q13_q19.symm, hd_q13_q20, hd_q13_q20.symm, hd_q16_q17, hd_q16_q17.symm, hd_q16_q18, hd_q16_q18.symm, hd_q16_q19, hd_q16_q19.symm, hd_q16_q20, hd_q16_q20.symm, hd_q17_q18, hd_q17_q18.symm, hd_q17_q19, hd_q17_q19.symm, hd_q17_q20, hd_q17_q20.symm, hd_q18_q19, hd_q18_q19.symm, hd_q18_q20, hd_q18_q20.symm, hd_q19_q20, hd_q19_q20.symm, hx_q13, hx_q13.symm, hx_q16, hx_q16.symm, hx_q17, hx_q17.symm, hx_q18, hx_q18.symm, hx_q19, hx_q19.symm, hx_q20, hx_q20.symm]
  have L_q19 : q19 ∈ zL T10 := by rw [eT10]; simp [zQ, zI, zK, zN, zA, zR, zL, zsQ, zsI, zsR, zNew, zu2, va_up, hd_q13_q16, hd_q13_q16.symm, hd_q13_q17, hd_q13_q17.symm, hd_q13_q18, hd_q13_q18.symm, hd_q13_q19, hd_q13_q19.symm, hd_q13_q20, hd_q13_q20.symm, hd_q16_q17, hd_q16_q17.symm, hd_q16_q18, hd_q16_q18.symm, hd_q16_q19, hd_q16_q19.symm, hd_q16_q20, hd_q16_q20.symm, hd_q17_q18, hd_q17_q18.symm, hd_q17_q19, hd_q17_q19.symm, hd_q17_q20, hd_q17_q20.symm, hd_q18_q19, hd_q18_q19.symm, hd_q18_q20, hd_q18_q20.symm, hd_q19_q20, hd_q19_q20.symm, hx_q13, hx_q13.symm, hx_q16, hx_q16.symm, hx_q17, hx_q17.symm, hx_q18, hx_q18.symm, hx_q19, hx_q19.symm, hx_q20, hx_q20.symm]
  have K_q19 : zK T10 q19 = 13 := by rw [eT10]; simp [zQ, zI, zK, zN, zA, zR, zL, zsQ, zsI, zsR, zNew, zu2, va_up, hd_q13_q16, hd_q13_q16.symm, hd_q13_q17, hd_q13_q17.symm, hd_q13_q18, hd_q13_q18.symm, hd_q13_q19, hd_q13_q19.symm, hd_q13_q20, hd_q13_q20.symm, hd_q16_q17, hd_q16_q17.symm, hd_q16_q18, hd_q16_q18.symm, hd_q16_q19, hd_q16_q19.symm, hd_q16_q20, hd_q16_q20.symm, hd_q17_q18, hd_q17_q18.symm, hd_q17_q19, hd_q17_q19.symm, hd_q17_q20, hd_q17_q20.symm, hd_q18_q19, hd_q18_q19.symm, hd_q18_q20, hd_q18_q20.symm, hd_q19_q20, hd_q19_q20.symm, hx_q13, hx_q13.symm, hx_q16, hx_q16.symm, hx_q17, hx_q17.symm, hx_q18, hx_q18.symm, hx_q19, hx_q19.symm, hx_q20, hx_q20.symm]
  have N_q19 : zN T10 q19 = 8 := by rw [eT10]; simp [zQ, zI, zK, zN, zA, zR, zL, zsQ, zsI, zsR, zNew, zu2, va_up, hd_q13_q16, hd_q13_q16.symm, hd_q13_q17, hd_q13_q17.symm, hd_q13_q18, hd_q13_q18.symm, hd_q13_q19, hd_q13_q19.symm, hd_q13_q20, hd_q13_q20.symm, hd_q16_q17, hd_q16_q17.symm, hd_q16_q18, hd_q16_q18.symm, hd_q16_q19, hd_q16_q19.symm, hd_q16_q20, hd_q16_q20.symm, hd_q17_q18, hd_q17_q18.symm, hd_q17_q19, hd_q17_q19.symm, hd_q17_q20, hd_q17_q20.symm, hd_q18_q19, hd_q18_q19.symm, hd_q18_q20, hd_q18_q20.symm, hd_q19_q20, hd_q19_q20.symm, hx_q13, hx_q13.symm, hx_q16, hx_q16.symm, hx_q17, hx_q17.symm, hx_q18, hx_q18.symm, hx_q19, hx_q19.symm, hx_q20, hx_q20.symm]
  have L_q20 : q20 ∈ zL T10 := by rw [eT10]; simp [zQ, zI, zK, zN, zA, zR, zL, zsQ, zsI, zsR, zNew, zu2, va_up, hd_q13_q16, hd_q13_q16.symm, hd_q13_q17, hd_q13_q17.symm, hd_q13_q18, hd_q13_q18.symm, hd_q13_q19, hd_q13_q19.symm, hd_q13_q20, hd_q13_q20.symm, hd_q16_q17, hd_q16_q17.symm, hd_q16_q18, hd_q16_q18.symm, hd_q16_q19, hd_q16_q19.symm, hd_q16_q20, hd_q16_q20.symm, hd_q17_q18, hd_q17_q18.symm, hd_q17_q19, hd_q17_q19.symm, hd_q17_q20, hd_q17_q20.symm, hd_q18_q19, hd_q18_q19.symm, hd_q18_q20, hd_q18_q20.symm, hd_q19_q20, hd_q19_q20.symm, hx_q13, hx_q13.symm, hx_q16, hx_q16.symm, hx_q17, hx_q17.symm, hx_q18, hx_q18.symm, hx_q19, hx_q19.symm, hx_q20, hx_q20.symm]
  have K_q20 : zK T10 q20 = 13 := by rw [eT10]; simp [zQ, zI, zK, zN, zA, zR, zL, zsQ, zsI, zsR, zNew, zu2, va_up, hd_q13_q16, hd_q13_q16.symm, hd_q13_q17, hd_q13_q17.symm, hd_q13_q18, hd_q13_q18.symm, hd_q13_q19, hd_q13_q19.symm, hd_q13_q20, hd_q13_q20.symm, hd_q16_q17, hd_q16_q17.symm, hd_q16_q18, hd_q16_q18.symm, hd_q16_q19, hd_q16_q19.symm, hd_q16_q20, hd_q16_q20.symm, hd_q17_q18, hd_q17_q18.symm, hd_q17_q19, hd_q17_q19.symm, hd_q17_q20, hd_q17_q20.symm, hd_q18_q19, hd_q18_q19.symm, hd_q18_q20, hd_q18_q20.symm, hd_q19_q20, hd_q19_q20.symm, hx_q13, hx_q13.symm, hx_q16, hx_q16.symm, hx_q17, hx_q17.symm, hx_q18, hx_q18.symm, hx_q19, hx_q19.symm, hx_q20, hx_q20.symm]
  have N_q20 : zN T10 q20 = 8 := by rw [eT10]; simp [zQ, zI, zK, zN, zA, zR, zL, zsQ, zsI, zsR, zNew, zu2, va_up, hd_q13_q16, hd_q13_q16.symm, hd_q13_q17, hd_q13_q17.symm, hd_q13_q18, hd_q13_q18.symm, hd_q13_q19, hd_q13_q19.symm, hd_q13_q20, hd_q13_q20.symm, hd_q16_q17, hd_q16_q17.symm, hd_q16_q18, hd_q16_q18.symm, hd_q16_q19, hd_q16_q19.symm, hd_q16_q20, hd_q16_q20.symm, hd_q17_q18, hd_q17_q18.symm, hd_q17_q19, hd_q17_q19.symm, hd_q17_q20, hd_q17_q20.symm, hd_q18_q19, hd_q18_q19.symm, hd_q18_q20, hd_q18_q20.symm, hd_q19_q20, hd_q19_q20.symm, hx_q13, hx_q13.symm, hx_q16, hx_q16.symm, hx_q17, hx_q17.symm, hx_q18, hx_q18.symm, hx_q19, hx_q19.symm, hx_q20, hx_q20.symm]
  have P_q13 : zQ T10 1109 x0 = some q13 := by rw [eT10]; simp [zQ, zI, zK, zN, zA, zR, zL, zsQ, zsI, zsR, zNew, zu2, va_up, hd_q13_q16, hd_q13_q16.symm, hd_q13_q17, hd_q13_q17.symm, hd_q13_q18, hd_q13_q18.symm, hd_q13_q19, hd_q13_q19.symm, hd_q13_q20, hd_q13_q20.symm, hd_q16_q17, hd_q16_q17.symm, hd_q16_q18, hd_q16_q18.symm, hd_q16_q19, hd_q16_q19.symm, hd_q16_q20, hd_q16_q20.symm, hd_q17_q18, hd_q17_q18.symm, hd_q17_q19, hd_q17_q19.symm, hd_q17_q20, hd_q17_q20.symm, hd_q18_q19, hd_q18_q19.symm, hd_q18_q20, hd_q18_q20.symm, hd_q19_q20, hd_q19_q20.symm, hx_q13, hx_q13.symm, hx_q16, hx_q16.symm, hx_q17, hx_q17.symm, hx_q18, hx_q18.symm, hx_q19, hx_q19.symm, hx_q20, hx_q20.symm]
  have Z_q13 : zL T10 = zL T9 ++ [q13, q16, q17, q18, q19, q20] := by rw [eT10]; simp [zQ, zI, zK, zN, zA, zR, zL, zsQ, zsI, zsR, zNew, zu2, va_up, hd_q13_q16, hd_q13_q16.symm, hd_q13_q17, hd_q13_q17.symm, hd_q13_q18, hd_q13_q18.symm, hd_q13_q19, hd_q13_q19.symm, hd_q13_q20, hd_q13_q20.symm, hd_q16_q17, hd_q16_q17.symm, hd_q16_q18, hd_q16_q18.symm, hd_q16_q19, hd_q16_q19.symm, hd_q16_q20, hd_q16_q20.symm, hd_q17_q18, hd_q17_q18.symm, hd_q17_q19, hd_q17_q19.symm, hd_q17_q20, hd_q17_q20.symm, hd_q18_q19, hd_q18_q19.symm, hd_q18_q20, hd_q18_q20.symm, hd_q19_q20, hd_q19_q20.symm, hx_q13, hx_q13.symm, hx_q16, hx_q16.symm, hx_q17, hx_q17.symm, hx_q18, hx_q18.symm, hx_q19, hx_q19.symm, hx_q20, hx_q20.symm]
  have X_300 : zQ T10 300 q13 = some q16 := by rw [eT10]; simp [zQ, zI, zK, zN, zA, zR, zL, zsQ, zsI, zsR, zNew, zu2, va_up, hd_q13_q16, hd_q13_q16.symm, hd_q13_q17, hd_q13_q17.symm, hd_q13_q18, hd_q13_q18.symm, hd_q13_q19, hd_q13_q19.symm, hd_q13_q20, hd_q13_q20.symm, hd_q16_q17, hd_q16_q17.symm, hd_q16_q18, hd_q16_q18.symm, hd_q16_q19, hd_q16_q19.symm, hd_q16_q20, hd_q16_q20.symm, hd_q17_q18, hd_q17_q18.symm, hd_q17_q19, hd_q17_q19.symm, hd_q17_q20, hd_q17_q20.symm, hd_q18_q19, hd_q18_q19.symm, hd_q18_q20, hd_q18_q20.symm, hd_q19_q20, hd_q19_q20.symm, hx_q13, hx_q13.symm, hx_q16, hx_q16.symm, hx_q17, hx_q17.symm, hx_q18, hx_q18.symm, hx_q19, hx_q19.symm, hx_q20, hx_q20.symm]
  have X_301 : zQ T10 301 q13 = some q17 := by rw [eT10]; simp [zQ, zI, zK, zN, zA, zR, zL, zsQ, zsI, zsR, zNew, zu2, va_up, hd_q13_q16, hd_q13_q16.symm, hd_q13_q17, hd_q13_q17.symm, hd_q13_q18, hd_q13_q18.symm, hd_q13_q19, hd_q13_q19.symm, hd_q13_q20, hd_q13_q20.symm, hd_q16_q17, hd_q16_q17.symm, hd_q16_q18, hd_q16_q18.symm, hd_q16_q19, hd_q16_q19.symm, hd_q16_q20, hd_q16_q20.symm, hd_q17_q18, hd_q17_q18.symm, hd_q17_q19, hd_q17_q19.symm, hd_q17_q20, hd_q17_q20.symm, hd_q18_q19, hd_q18_q19.symm, hd_q18_q20, hd_q18_q20.symm, hd_q19_q20, hd_q19_q20.symm, hx_q13, hx_q13.symm, hx_q16, hx_q16.symm, hx_q17, hx_q17.symm, hx_q18, hx_q18.symm, hx_q19, hx_q19.symm, hx_q20, hx_q20.symm]
  have X_302 : zQ T10 302 q13 = some q18 := by rw [eT10]; simp [zQ, zI, zK, zN, zA, zR, zL, zsQ, zsI, zsR, zNew, zu2, va_up, hd_q13_q16, hd_q13_q16.symm, hd_q13_q17, hd_q13_q17.symm, hd_q13_q18, hd_q13_q18.symm, hd_q13_q19, hd_q13_q19.symm, hd_q13_q20, hd_q13_q20.symm, hd_q16_q17, hd_q16_q17.symm, hd_q16_q18, hd_q16_q18.symm, hd_q16_q19, hd_q16_q19.symm, hd_q16_q20, hd_q16_q20.symm, hd_q17_q18, hd_q17_q18.symm, hd_q17_q19, hd_q17_q19.symm, hd_q17_q20, hd_q17_q20.symm, hd_q18_q19, hd_q18_q19.symm, hd_q18_q20, hd_q18_q20.symm, hd_q19_q20, hd_q19_q20.symm, hx_q13, hx_q13.symm, hx_q16, hx_q16.symm, hx_q17, hx_q17.symm, hx_q18, hx_q18.symm, hx_q19, hx_q19.symm, hx_q20, hx_q20.symm]
  have X_303 : zQ T10 303 q13 = some q19 := by rw [eT10]; simp [zQ, zI, zK, zN, zA, zR, zL, zsQ, zsI, zsR, zNew, zu2, va_up, hd_q13_q16, hd_q13_q16.symm, hd_q13_q17, hd_q13_q17.symm, hd_q13_q18, hd_q13_q18.symm, hd_q13_q19, hd_q13_q19.symm, hd_q13_q20, hd_q13_q20.symm, hd_q16_q17, hd_q16_q17.symm, hd_q16_q18, hd_q16_q18.symm, hd_q16_q19, hd_q16_q19.symm, hd_q16_q20, hd_q16_q20.symm, hd_q17_q18, hd_q17_q18.symm, hd_q17_q19, hd_q17_q19.symm, hd_q17_q20, hd_q17_q20.symm, hd_q18_q19, hd_q18_q19.symm, hd_q18_q20, hd_q18_q20.symm, hd_q19_q20, hd_q19_q20.symm, hx_q13, hx_q13.symm, hx_q16, hx_q16.symm, hx_q17, hx_q17.symm, hx_q18, hx_q18.symm, hx_q19, hx_q19.symm, hx_q20, hx_q20.symm]
  have X_304 : zQ T10 304 q13 = some q20 := by rw [eT10]; simp [zQ, zI, zK, zN, zA, zR, zL, zsQ, zsI, zsR, zNew, zu2, va_up, hd_q13_q16, hd_q13_q16.symm, hd_q13_q17, hd_q13_q17.symm, hd_q13_q18, hd_q13_q18.symm, hd_q13_q19, hd_q13_q19.symm, hd_q13_q20, hd_q13_q20.symm, hd_q16_q17, hd_q16_q17.symm, hd_q16_q18, hd_q16_q18.symm, hd_q16_q19, hd_q16_q19.symm, hd_q16_q20, hd_q16_q20.symm, hd_q17_q18, hd_q17_q18.symm, hd_q17_q19, hd_q17_q19.symm, hd_q17_q20, hd_q17_q20.symm, hd_q18_q19, hd_q18_q19.symm, hd_q18_q20, hd_q18_q20.symm, hd_q19_q20, hd_q19_q20.symm, hx_q13, hx_q13.symm, hx_q16, hx_q16.symm, hx_q17, hx_q17.symm, hx_q18, hx_q18.symm, hx_q19, hx_q19.symm, hx_q20, hx_q20.symm]
  have X_305 : zI T10 305 q13 = 0 := by rw [eT10]; simp [zQ, zI, zK, zN, zA, zR, zL, zsQ, zsI, zsR, zNew, zu2, va_up, hd_q13_q16, hd_q13_q16.symm, hd_q13_q17, hd_q13_q17.symm, hd_q13_q18, hd_q13_q18.symm, hd_q13_q19, hd_q13_q19.symm, hd_q13_q20, hd_q13_q20.symm, hd_q16_q17, hd_q16_q17.symm, hd_q16_q18, hd_q16_q18.symm, hd_q16_q19, hd_q16_q19.symm, hd_q16_q20, hd_q16_q20.symm, hd_q17_q18, hd_q17_q18.symm, hd_q17_q19, hd_q17_q19.symm, hd_q17_q20, hd_q17_q20.symm, hd_q18_q19, hd_q18_q19.symm, hd_q18_q20, hd_q18_q20.symm, hd_q19_q20, hd_q19_q20.symm, hx_q13, hx_q13.symm, hx_q16, hx_q16.symm, hx_q17, hx_q17.symm, hx_q18, hx_q18.symm, hx_q19, hx_q19.symm, hx_q20, hx_q20.symm]
  have X_A : zA T10 q18 = fun _ => 0 := by rw [eT10]; simp [zQ, zI, zK, zN, zA, zR, zL, zsQ, zsI, zsR, zNew, zu2, va_up, hd_q13_q16, hd_q13_q16.symm, hd_q13_q17, hd_q13_q17.symm, hd_q13_q18, hd_q13_q18.symm, hd_q13_q19, hd_q13_q19.symm, hd_q13_q20, hd_q13_q20.symm, hd_q16_q17, hd_q16_q17.symm, hd_q16_q18, hd_q16_q18.symm, hd_q16_q19, hd_q16_q19.symm, hd_q16_q20, hd_q16_q20.symm, hd_q17_q18, hd_q17_q18.symm, hd_q17_q19, hd_q17_q19.symm, hd_q17_q20, hd_q17_q20.symm, hd_q18_q19, hd_q18_q19.symm, hd_q18_q20, hd_q18_q20.symm, hd_q19_q20, hd_q19_q20.symm, hx_q13, hx_q13.symm, hx_q16, hx_q16.symm, hx_q17, hx_q17.symm, hx_q18, hx_q18.symm, hx_q19, hx_q19.symm, hx_q20, hx_q20.symm]
  have hL_prev := hL
  have hKy : zK T10 q1 = 15 := (E10.2.2.2.2.2 q1 hLy hyx).2.1.trans hKy
  have hNy : zN T10 q1 = 8 := (E10.2.2.2.2.2 q1 hLy hyx).2.2.1.trans hNy
  have hLy : q1 ∈ zL T10 := (E10.2.2.2.2.2 q1 hLy hyx).1
  have hPy : zQ T10 1100 x0 = some q1 := (E10.2.2.1 1100 (by decide)).trans hPy
  refine lv_aload_n hx hb_ dX11_init_95 rfl (lv_at hl 0 rfl) ?_
  refine lv_iconst (v := 0) hx hb_ dX11_init_96 (by decide) ?_
  refine z_putI (k := 11) (i := 10) (j := 1110) (x := 0) (v := .int 0) (ty := .int) (ref := "FoldedInHalf") (C := RX11) (T := TX11) (N := 13) tyX11 hcf hK_ hw hin11 tyX11_ok nmX11 hL hk rfl (by decide) (by decide) rfl rfl (List.mem_of_getElem? (i := 23) rfl) (fun _ h_ => h_) rfl rfl (by decide +kernel) rfl rfl dX11_init_97 (fun H_ locs_ hw => ?_)
  obtain ⟨T11, eT11⟩ : ∃ z_, z_ = (zsI T10 1110 x0 0) := ⟨_, rfl⟩
  rw [← eT11] at hw
  have E11 : zGE 1110 1110 0 x0 q1 T10 T11 := by rw [eT11]; exact zGE_Ix (zGE_rf hL_prev) (by decide)
  have hk : zK T11 x0 = 11 := E11.2.1.trans hk010
  have hk011 := hk
  have hL : x0 ∈ zL T11 := E11.1
  have V_10 : zI T11 1110 x0 = 0 := by rw [eT11]; exact zu2_self
  have hL_prev := hL
  have hKy : zK T11 q1 = 15 := (E11.2.2.2.2.2 q1 hLy hyx).2.1.trans hKy
  have hNy : zN T11 q1 = 8 := (E11.2.2.2.2.2 q1 hLy hyx).2.2.1.trans hNy
  have hLy : q1 ∈ zL T11 := (E11.2.2.2.2.2 q1 hLy hyx).1
  have hPy : zQ T11 1100 x0 = some q1 := (E11.2.2.1 1100 (by decide)).trans hPy
  refine lv_aload_n hx hb_ dX11_init_100 rfl (lv_at hl 0 rfl) ?_
  refine lv_iconst (v := (-1)) hx hb_ dX11_init_101 (by decide) ?_
  refine z_putI (k := 11) (i := 11) (j := 1111) (x := (-1)) (v := .int (-1)) (ty := .int) (ref := "FoldedInHalf") (C := RX11) (T := TX11) (N := 13) tyX11 hcf hK_ hw hin11 tyX11_ok nmX11 hL hk rfl (by decide) (by decide) rfl rfl (List.mem_of_getElem? (i := 24) rfl) (fun _ h_ => h_) rfl rfl (by decide +kernel) rfl rfl dX11_init_102 (fun H_ locs_ hw => ?_)
  obtain ⟨T12, eT12⟩ : ∃ z_, z_ = (zsI T11 1111 x0 (-1)) := ⟨_, rfl⟩
  rw [← eT12] at hw
  have E12 : zGE 1111 1111 0 x0 q1 T11 T12 := by rw [eT12]; exact zGE_Ix (zGE_rf hL_prev) (by decide)
  have hk : zK T12 x0 = 11 := E12.2.1.trans hk011
  have hk012 := hk
  have hL : x0 ∈ zL T12 := E12.1
  have V_11 : zI T12 1111 x0 = (-1) := by rw [eT12]; exact zu2_self
  have hL_prev := hL
  have hKy : zK T12 q1 = 15 := (E12.2.2.2.2.2 q1 hLy hyx).2.1.trans hKy
  have hNy : zN T12 q1 = 8 := (E12.2.2.2.2.2 q1 hLy hyx).2.2.1.trans hNy
  have hLy : q1 ∈ zL T12 := (E12.2.2.2.2.2 q1 hLy hyx).1
  have hPy : zQ T12 1100 x0 = some q1 := (E12.2.2.1 1100 (by decide)).trans hPy
  refine lv_aload_n hx hb_ dX11_init_105 rfl (lv_at hl 0 rfl) ?_
  refine lv_iconst (v := 0) hx hb_ dX11_init_106 (by decide) ?_
  refine z_putI (k := 11) (i := 12) (j := 1112) (x := 0) (v := .int 0) (ty := .int) (ref := "FoldedInHalf") (C := RX11) (T := TX11) (N := 13) tyX11 hcf hK_ hw hin11 tyX11_ok nmX11 hL hk rfl (by decide) (by decide) rfl rfl (List.mem_of_getElem? (i := 25) rfl) (fun _ h_ => h_) rfl rfl (by decide +kernel) rfl rfl dX11_init_107 (fun H_ locs_ hw => ?_)
  obtain ⟨T13, eT13⟩ : ∃ z_, z_ = (zsI T12 1112 x0 0) := ⟨_, rfl⟩
  rw [← eT13] at hw
  have E13 : zGE 1112 1112 0 x0 q1 T12 T13 := by rw [eT13]; exact zGE_Ix (zGE_rf hL_prev) (by decide)
  have hk : zK T13 x0 = 11 := E13.2.1.trans hk012
  have hk013 := hk
  have hL : x0 ∈ zL T13 := E13.1
  have V_12 : zI T13 1112 x0 = 0 := by rw [eT13]; exact zu2_self
  have hL_prev := hL
  have hKy : zK T13 q1 = 15 := (E13.2.2.2.2.2 q1 hLy hyx).2.1.trans hKy
  have hNy : zN T13 q1 = 8 := (E13.2.2.2.2.2 q1 hLy hyx).2.2.1.trans hNy
  have hLy : q1 ∈ zL T13 := (E13.2.2.2.2.2 q1 hLy hyx).1
  have hPy : zQ T13 1100 x0 = some q1 := (E13.2.2.1 1100 (by decide)).trans hPy
  refine lv_iconst (v := 0) hx hb_ dX11_init_110 (by decide) ?_
  refine lv_istore_n (lv' := [(1, .int 0), (0, .ref x0)]) hx hb_ dX11_init_111 rfl hl (by decide) rfl (fun ls hl => ?_)
  refine lv_iload_n hx hb_ dX11_init_112 rfl (lv_at hl 0 rfl) ?_
  refine lv_bipush (v := 8) hx hb_ dX11_init_113 (by decide) ?_
  refine lv_icmp_ge (tgt := 137) hx hb_ dX11_init_115 (by decide) (fun c_115 => absurd c_115 (by decide)) (fun _ => ?_)
  refine lv_aload_n hx hb_ dX11_init_118 rfl (lv_at hl 1 rfl) ?_
  refine z_get (k := 11) (i := 0) (j := 1100) (v := .ref q1) (ref := "FoldedInHalf") (C := RX11) (T := TX11) (N := 13) hcf hK_ hw hin11 hL hk rfl (by decide) (by decide) rfl rfl (congrArg va_rf hPy) (List.mem_of_getElem? (i := 5) rfl) (fun _ h_ => h_) dX11_init_119 ?_
  refine lv_iload_n hx hb_ dX11_init_122 rfl (lv_at hl 0 rfl) ?_
  refine z_new (k := 7) tyX7 hcf hK_ hw hA hin7 tyX7_ok (List.mem_of_getElem? (i := 4) rfl) (List.mem_of_getElem? (i := 26) rfl) (List.mem_of_getElem? (i := 27) rfl) rfl (by decide) zdf7 (Nat.le_of_ble_eq_true rfl) (Nat.le_of_ble_eq_true rfl) dX11_init_123 (fun q21 H_ hq_q21 hw => ?_)
  have hne_x0_q21 : x0 ≠ q21 := fun e_ => hq_q21 (e_ ▸ hL)
  have hk : zK (zNew T13 q21 7 0) x0 = 11 := (va_up_ne _ _ hne_x0_q21).trans hk
  have hL : x0 ∈ zL (zNew T13 q21 7 0) := List.mem_append_left _ hL
  have hL_q21 : q21 ∈ zL (zNew T13 q21 7 0) := zNew_m
  have hk_q21 : zK (zNew T13 q21 7 0) q21 = 7 := zNew_K
  have hn_q21 : zN (zNew T13 q21 7 0) q21 = 0 := zNew_N
  refine lv_dup hx hb_ dX11_init_126 rfl ?_
  refine z_kv hw hA (va_runIN (As := []) (rest := [.ref q21, .int 0, .ref q1]) hcf (c_X7_init l cD cy _ (zNew T13 q21 7 0) q21 hL_q21 hk_q21) ⟨va_cnB 0 hts gX11_init_X7_init_n64 rfl rfl rfl (nw_M_FoldedInHalf_64 hE) (hts (.initialized RX7) (by decide +kernel)) (by decide +kernel) ⟨Nat.le_of_ble_eq_true rfl, Nat.le_of_ble_eq_true rfl⟩, rfl, hts (.instanceMethod yX7_init) (by decide +kernel)⟩ (z_preS hK_ hE hw) rfl rfl hl.1 rfl (lv_room (Nat.le_of_ble_eq_true rfl)) dX11_init_127 ⟨Nat.le_of_ble_eq_true rfl, Nat.le_of_ble_eq_true rfl⟩) (fun S23 H_ locs_ hp hw => ?_)
  obtain ⟨q24, hq_q24, rfl⟩ := hp
  have hne_x0_q24 : x0 ≠ q24 := fun e_ => hq_q24 (e_ ▸ hL)
  have hk : zK (zNew (zNew T13 q21 7 0) q24 14 160) x0 = 11 := (va_up_ne _ _ hne_x0_q24).trans hk
  have hL : x0 ∈ zL (zNew (zNew T13 q21 7 0) q24 14 160) := List.mem_append_left _ hL
  refine z_past (n := 8) hcf hK_ hw hLy hKy hNy hL_q21 hk_q21 (by decide) dX11_init_130 (fun H_ locs_ hw => ?_)
  have hB_q21 := hq_q21
  have hx_q21 : q21 ≠ x0 := fun e_ => hB_q21 (e_.symm ▸ hL_prev)
  have hy_q21 : q21 ≠ q1 := fun e_ => hB_q21 (e_.symm ▸ hLy)
  have hd_q21_q24 : q21 ≠ q24 := fun e_ => hq_q24 (by rw [← e_]; simp [zL_I, zL_Q, zNew_L])
  have hB_q24 : q24 ∉ zL T13 := fun h_ => hq_q24 (by simp [zL_I, zL_Q, zNew_L, h_])
  have hx_q24 : q24 ≠ x0 := fun e_ => hB_q24 (e_.symm ▸ hL_prev)
  have hy_q24 : q24 ≠ q1 := fun e_ => hB_q24 (e_.symm ▸ hLy)
  obtain ⟨T14, eT14⟩ : ∃ z_, z_ = (zsR (zsI (zsI (zsI (zsQ (zNew (zNew T13 q21 7 0) q24 14 160) 700 q21 (some q24)) 701 q21 0) 702 q21 (-1)) 703 q21 (-1)) q1 (va_up (zR (zsI (zsI (zsI (zsQ (zNew (zNew T13 q21 7 0) q24 14 160) 700 q21 (some q24)) 701 q21 0) 702 q21 (-1)) 703 q21 (-1)) q1) (0 : Int32).toNatClampNeg (some q21))) := ⟨_, rfl⟩
  rw [← eT14] at hw
  have E14 : zGE 2000 2000 0 x0 q1 T13 T14 := by rw [eT14]; exact zGE_Ry (zGE_I (zGE_I (zGE_I (zGE_Q (zGE_new (zGE_new (zGE_rf hL_prev) hq_q21 (Or.inl rfl)) hq_q24 (Or.inl rfl)) hB_q21 hx_q21) hB_q21 hx_q21) hB_q21 hx_q21) hB_q21 hx_q21) (by decide)
  have hk : zK T14 x0 = 11 := E14.2.1.trans hk013
  have hk014 := hk
  have hL : x0 ∈ zL T14 := E14.1
  have L_q21 : q21 ∈ zL T14 := by rw [eT14]; simp [zQ, zI, zK, zN, zA, zR, zL, zsQ, zsI, zsR, zNew, zu2, va_up, hd_q21_q24, hd_q21_q24.symm, hx_q21, hx_q21.symm, hx_q24, hx_q24.symm]
  have K_q21 : zK T14 q21 = 7 := by rw [eT14]; simp [zQ, zI, zK, zN, zA, zR, zL, zsQ, zsI, zsR, zNew, zu2, va_up, hd_q21_q24, hd_q21_q24.symm, hx_q21, hx_q21.symm, hx_q24, hx_q24.symm]
  have N_q21 : zN T14 q21 = 0 := by rw [eT14]; simp [zQ, zI, zK, zN, zA, zR, zL, zsQ, zsI, zsR, zNew, zu2, va_up, hd_q21_q24, hd_q21_q24.symm, hx_q21, hx_q21.symm, hx_q24, hx_q24.symm]
  have L_q24 : q24 ∈ zL T14 := by rw [eT14]; simp [zQ, zI, zK, zN, zA, zR, zL, zsQ, zsI, zsR, zNew, zu2, va_up, hd_q21_q24, hd_q21_q24.symm, hx_q21, hx_q21.symm, hx_q24, hx_q24.symm]
  have K_q24 : zK T14 q24 = 14 := by rw [eT14]; simp [zQ, zI, zK, zN, zA, zR, zL, zsQ, zsI, zsR, zNew, zu2, va_up, hd_q21_q24, hd_q21_q24.symm, hx_q21, hx_q21.symm, hx_q24, hx_q24.symm]
  have N_q24 : zN T14 q24 = 160 := by rw [eT14]; simp [zQ, zI, zK, zN, zA, zR, zL, zsQ, zsI, zsR, zNew, zu2, va_up, hd_q21_q24, hd_q21_q24.symm, hx_q21, hx_q21.symm, hx_q24, hx_q24.symm]
  have Z_q21 : zL T14 = zL T13 ++ [q21, q24] := by rw [eT14]; simp [zQ, zI, zK, zN, zA, zR, zL, zsQ, zsI, zsR, zNew, zu2, va_up, hd_q21_q24, hd_q21_q24.symm, hx_q21, hx_q21.symm, hx_q24, hx_q24.symm]
  have Y_0 : zR T14 q1 0 = some q21 := by rw [eT14]; simp [zQ, zI, zK, zN, zA, zR, zL, zsQ, zsI, zsR, zNew, zu2, va_up, hd_q21_q24, hd_q21_q24.symm, hx_q21, hx_q21.symm, hx_q24, hx_q24.symm]
  have Y7_0 : zQ T14 700 q21 = some q24 := by rw [eT14]; simp [zQ, zI, zK, zN, zA, zR, zL, zsQ, zsI, zsR, zNew, zu2, va_up, hd_q21_q24, hd_q21_q24.symm, hx_q21, hx_q21.symm, hx_q24, hx_q24.symm]
  have Y1_0 : zI T14 701 q21 = 0 := by rw [eT14]; simp [zQ, zI, zK, zN, zA, zR, zL, zsQ, zsI, zsR, zNew, zu2, va_up, hd_q21_q24, hd_q21_q24.symm, hx_q21, hx_q21.symm, hx_q24, hx_q24.symm]
  have Y2_0 : zI T14 702 q21 = (-1) := by rw [eT14]; simp [zQ, zI, zK, zN, zA, zR, zL, zsQ, zsI, zsR, zNew, zu2, va_up, hd_q21_q24, hd_q21_q24.symm, hx_q21, hx_q21.symm, hx_q24, hx_q24.symm]
  have Y3_0 : zI T14 703 q21 = (-1) := by rw [eT14]; simp [zQ, zI, zK, zN, zA, zR, zL, zsQ, zsI, zsR, zNew, zu2, va_up, hd_q21_q24, hd_q21_q24.symm, hx_q21, hx_q21.symm, hx_q24, hx_q24.symm]
  have hL_prev := hL
  have hKy : zK T14 q1 = 15 := (E14.2.2.2.2.2 q1 hLy hyx).2.1.trans hKy
  have hNy : zN T14 q1 = 8 := (E14.2.2.2.2.2 q1 hLy hyx).2.2.1.trans hNy
  have hLy : q1 ∈ zL T14 := (E14.2.2.2.2.2 q1 hLy hyx).1
  have hPy : zQ T14 1100 x0 = some q1 := (E14.2.2.1 1100 (by decide)).trans hPy
  refine lv_iinc (v := 1) (lv' := [(1, .int 1), (0, .ref x0)]) hx hb_ dX11_init_131 hl (k := 0) rfl (by decide) (by decide) rfl (fun ls hl => ?_)
  refine lv_goto (tgt := 112) hx hb_ dX11_init_134 (by decide) ?_
  refine lv_iload_n hx hb_ dX11_init_112 rfl (lv_at hl 0 rfl) ?_
  refine lv_bipush (v := 8) hx hb_ dX11_init_113 (by decide) ?_
  refine lv_icmp_ge (tgt := 137) hx hb_ dX11_init_115 (by decide) (fun c_115 => absurd c_115 (by decide)) (fun _ => ?_)
  refine lv_aload_n hx hb_ dX11_init_118 rfl (lv_at hl 1 rfl) ?_
  refine z_get (k := 11) (i := 0) (j := 1100) (v := .ref q1) (ref := "FoldedInHalf") (C := RX11) (T := TX11) (N := 13) hcf hK_ hw hin11 hL hk rfl (by decide) (by decide) rfl rfl (congrArg va_rf hPy) (List.mem_of_getElem? (i := 5) rfl) (fun _ h_ => h_) dX11_init_119 ?_
  refine lv_iload_n hx hb_ dX11_init_122 rfl (lv_at hl 0 rfl) ?_
  refine z_new (k := 7) tyX7 hcf hK_ hw hA hin7 tyX7_ok (List.mem_of_getElem? (i := 4) rfl) (List.mem_of_getElem? (i := 26) rfl) (List.mem_of_getElem? (i := 27) rfl) rfl (by decide) zdf7 (Nat.le_of_ble_eq_true rfl) (Nat.le_of_ble_eq_true rfl) dX11_init_123 (fun q25 H_ hq_q25 hw => ?_)
  have hne_x0_q25 : x0 ≠ q25 := fun e_ => hq_q25 (e_ ▸ hL)
  have hk : zK (zNew T14 q25 7 0) x0 = 11 := (va_up_ne _ _ hne_x0_q25).trans hk
  have hL : x0 ∈ zL (zNew T14 q25 7 0) := List.mem_append_left _ hL
  have hL_q25 : q25 ∈ zL (zNew T14 q25 7 0) := zNew_m
  have hk_q25 : zK (zNew T14 q25 7 0) q25 = 7 := zNew_K
  have hn_q25 : zN (zNew T14 q25 7 0) q25 = 0 := zNew_N
  refine lv_dup hx hb_ dX11_init_126 rfl ?_
  refine z_kv hw hA (va_runIN (As := []) (rest := [.ref q25, .int 1, .ref q1]) hcf (c_X7_init l cD cy _ (zNew T14 q25 7 0) q25 hL_q25 hk_q25) ⟨va_cnB 0 hts gX11_init_X7_init_n64 rfl rfl rfl (nw_M_FoldedInHalf_64 hE) (hts (.initialized RX7) (by decide +kernel)) (by decide +kernel) ⟨Nat.le_of_ble_eq_true rfl, Nat.le_of_ble_eq_true rfl⟩, rfl, hts (.instanceMethod yX7_init) (by decide +kernel)⟩ (z_preS hK_ hE hw) rfl rfl hl.1 rfl (lv_room (Nat.le_of_ble_eq_true rfl)) dX11_init_127 ⟨Nat.le_of_ble_eq_true rfl, Nat.le_of_ble_eq_true rfl⟩) (fun S27 H_ locs_ hp hw => ?_)
  obtain ⟨q28, hq_q28, rfl⟩ := hp
  have hne_x0_q28 : x0 ≠ q28 := fun e_ => hq_q28 (e_ ▸ hL)
  have hk : zK (zNew (zNew T14 q25 7 0) q28 14 160) x0 = 11 := (va_up_ne _ _ hne_x0_q28).trans hk
  have hL : x0 ∈ zL (zNew (zNew T14 q25 7 0) q28 14 160) := List.mem_append_left _ hL
  refine z_past (n := 8) hcf hK_ hw hLy hKy hNy hL_q25 hk_q25 (by decide) dX11_init_130 (fun H_ locs_ hw => ?_)
  have hB_q25 := hq_q25
  have hx_q25 : q25 ≠ x0 := fun e_ => hB_q25 (e_.symm ▸ hL_prev)
  have hy_q25 : q25 ≠ q1 := fun e_ => hB_q25 (e_.symm ▸ hLy)
  have hd_q25_q28 : q25 ≠ q28 := fun e_ => hq_q28 (by rw [← e_]; simp [zL_I, zL_Q, zNew_L])
  have hB_q28 : q28 ∉ zL T14 := fun h_ => hq_q28 (by simp [zL_I, zL_Q, zNew_L, h_])
  have hx_q28 : q28 ≠ x0 := fun e_ => hB_q28 (e_.symm ▸ hL_prev)
  have hy_q28 : q28 ≠ q1 := fun e_ => hB_q28 (e_.symm ▸ hLy)
  obtain ⟨T15, eT15⟩ : ∃ z_, z_ = (zsR (zsI (zsI (zsI (zsQ (zNew (zNew T14 q25 7 0) q28 14 160) 700 q25 (some q28)) 701 q25 0) 702 q25 (-1)) 703 q25 (-1)) q1 (va_up (zR (zsI (zsI (zsI (zsQ (zNew (zNew T14 q25 7 0) q28 14 160) 700 q25 (some q28)) 701 q25 0) 702 q25 (-1)) 703 q25 (-1)) q1) (1 : Int32).toNatClampNeg (some q25))) := ⟨_, rfl⟩
  rw [← eT15] at hw
  have E15 : zGE 2000 2000 1 x0 q1 T14 T15 := by rw [eT15]; exact zGE_Ry (zGE_I (zGE_I (zGE_I (zGE_Q (zGE_new (zGE_new (zGE_rf hL_prev) hq_q25 (Or.inr hy_q25)) hq_q28 (Or.inr hy_q28)) hB_q25 hx_q25) hB_q25 hx_q25) hB_q25 hx_q25) hB_q25 hx_q25) (by decide)
  have hk : zK T15 x0 = 11 := E15.2.1.trans hk014
  have hk015 := hk
  have hL : x0 ∈ zL T15 := E15.1
  have L_q25 : q25 ∈ zL T15 := by rw [eT15]; simp [zQ, zI, zK, zN, zA, zR, zL, zsQ, zsI, zsR, zNew, zu2, va_up, hd_q25_q28, hd_q25_q28.symm, hx_q25, hx_q25.symm, hx_q28, hx_q28.symm]
  have K_q25 : zK T15 q25 = 7 := by rw [eT15]; simp [zQ, zI, zK, zN, zA, zR, zL, zsQ, zsI, zsR, zNew, zu2, va_up, hd_q25_q28, hd_q25_q28.symm, hx_q25, hx_q25.symm, hx_q28, hx_q28.symm]
  have N_q25 : zN T15 q25 = 0 := by rw [eT15]; simp [zQ, zI, zK, zN, zA, zR, zL, zsQ, zsI, zsR, zNew, zu2, va_up, hd_q25_q28, hd_q25_q28.symm, hx_q25, hx_q25.symm, hx_q28, hx_q28.symm]
  have L_q28 : q28 ∈ zL T15 := by rw [eT15]; simp [zQ, zI, zK, zN, zA, zR, zL, zsQ, zsI, zsR, zNew, zu2, va_up, hd_q25_q28, hd_q25_q28.symm, hx_q25, hx_q25.symm, hx_q28, hx_q28.symm]
  have K_q28 : zK T15 q28 = 14 := by rw [eT15]; simp [zQ, zI, zK, zN, zA, zR, zL, zsQ, zsI, zsR, zNew, zu2, va_up, hd_q25_q28, hd_q25_q28.symm, hx_q25, hx_q25.symm, hx_q28, hx_q28.symm]
  have N_q28 : zN T15 q28 = 160 := by rw [eT15]; simp [zQ, zI, zK, zN, zA, zR, zL, zsQ, zsI, zsR, zNew, zu2, va_up, hd_q25_q28, hd_q25_q28.symm, hx_q25, hx_q25.symm, hx_q28, hx_q28.symm]
  have Z_q25 : zL T15 = zL T14 ++ [q25, q28] := by rw [eT15]; simp [zQ, zI, zK, zN, zA, zR, zL, zsQ, zsI, zsR, zNew, zu2, va_up, hd_q25_q28, hd_q25_q28.symm, hx_q25, hx_q25.symm, hx_q28, hx_q28.symm]
  have Y_1 : zR T15 q1 1 = some q25 := by rw [eT15]; simp [zQ, zI, zK, zN, zA, zR, zL, zsQ, zsI, zsR, zNew, zu2, va_up, hd_q25_q28, hd_q25_q28.symm, hx_q25, hx_q25.symm, hx_q28, hx_q28.symm]
  have Y7_1 : zQ T15 700 q25 = some q28 := by rw [eT15]; simp [zQ, zI, zK, zN, zA, zR, zL, zsQ, zsI, zsR, zNew, zu2, va_up, hd_q25_q28, hd_q25_q28.symm, hx_q25, hx_q25.symm, hx_q28, hx_q28.symm]
  have Y1_1 : zI T15 701 q25 = 0 := by rw [eT15]; simp [zQ, zI, zK, zN, zA, zR, zL, zsQ, zsI, zsR, zNew, zu2, va_up, hd_q25_q28, hd_q25_q28.symm, hx_q25, hx_q25.symm, hx_q28, hx_q28.symm]
  have Y2_1 : zI T15 702 q25 = (-1) := by rw [eT15]; simp [zQ, zI, zK, zN, zA, zR, zL, zsQ, zsI, zsR, zNew, zu2, va_up, hd_q25_q28, hd_q25_q28.symm, hx_q25, hx_q25.symm, hx_q28, hx_q28.symm]
  have Y3_1 : zI T15 703 q25 = (-1) := by rw [eT15]; simp [zQ, zI, zK, zN, zA, zR, zL, zsQ, zsI, zsR, zNew, zu2, va_up, hd_q25_q28, hd_q25_q28.symm, hx_q25, hx_q25.symm, hx_q28, hx_q28.symm]
  have hL_prev := hL
  have hKy : zK T15 q1 = 15 := (E15.2.2.2.2.2 q1 hLy hyx).2.1.trans hKy
  have hNy : zN T15 q1 = 8 := (E15.2.2.2.2.2 q1 hLy hyx).2.2.1.trans hNy
  have hLy : q1 ∈ zL T15 := (E15.2.2.2.2.2 q1 hLy hyx).1
  have hPy : zQ T15 1100 x0 = some q1 := (E15.2.2.1 1100 (by decide)).trans hPy
  refine lv_iinc (v := 2) (lv' := [(1, .int 2), (0, .ref x0)]) hx hb_ dX11_init_131 hl (k := 0) rfl (by decide) (by decide) rfl (fun ls hl => ?_)
  refine lv_goto (tgt := 112) hx hb_ dX11_init_134 (by decide) ?_
  refine lv_iload_n hx hb_ dX11_init_112 rfl (lv_at hl 0 rfl) ?_
  refine lv_bipush (v := 8) hx hb_ dX11_init_113 (by decide) ?_
  refine lv_icmp_ge (tgt := 137) hx hb_ dX11_init_115 (by decide) (fun c_115 => absurd c_115 (by decide)) (fun _ => ?_)
  refine lv_aload_n hx hb_ dX11_init_118 rfl (lv_at hl 1 rfl) ?_
  refine z_get (k := 11) (i := 0) (j := 1100) (v := .ref q1) (ref := "FoldedInHalf") (C := RX11) (T := TX11) (N := 13) hcf hK_ hw hin11 hL hk rfl (by decide) (by decide) rfl rfl (congrArg va_rf hPy) (List.mem_of_getElem? (i := 5) rfl) (fun _ h_ => h_) dX11_init_119 ?_
  refine lv_iload_n hx hb_ dX11_init_122 rfl (lv_at hl 0 rfl) ?_
  refine z_new (k := 7) tyX7 hcf hK_ hw hA hin7 tyX7_ok (List.mem_of_getElem? (i := 4) rfl) (List.mem_of_getElem? (i := 26) rfl) (List.mem_of_getElem? (i := 27) rfl) rfl (by decide) zdf7 (Nat.le_of_ble_eq_true rfl) (Nat.le_of_ble_eq_true rfl) dX11_init_123 (fun q29 H_ hq_q29 hw => ?_)
  have hne_x0_q29 : x0 ≠ q29 := fun e_ => hq_q29 (e_ ▸ hL)
  have hk : zK (zNew T15 q29 7 0) x0 = 11 := (va_up_ne _ _ hne_x0_q29).trans hk
  have hL : x0 ∈ zL (zNew T15 q29 7 0) := List.mem_append_left _ hL
  have hL_q29 : q29 ∈ zL (zNew T15 q29 7 0) := zNew_m
  have hk_q29 : zK (zNew T15 q29 7 0) q29 = 7 := zNew_K
  have hn_q29 : zN (zNew T15 q29 7 0) q29 = 0 := zNew_N
  refine lv_dup hx hb_ dX11_init_126 rfl ?_
  refine z_kv hw hA (va_runIN (As := []) (rest := [.ref q29, .int 2, .ref q1]) hcf (c_X7_init l cD cy _ (zNew T15 q29 7 0) q29 hL_q29 hk_q29) ⟨va_cnB 0 hts gX11_init_X7_init_n64 rfl rfl rfl (nw_M_FoldedInHalf_64 hE) (hts (.initialized RX7) (by decide +kernel)) (by decide +kernel) ⟨Nat.le_of_ble_eq_true rfl, Nat.le_of_ble_eq_true rfl⟩, rfl, hts (.instanceMethod yX7_init) (by decide +kernel)⟩ (z_preS hK_ hE hw) rfl rfl hl.1 rfl (lv_room (Nat.le_of_ble_eq_true rfl)) dX11_init_127 ⟨Nat.le_of_ble_eq_true rfl, Nat.le_of_ble_eq_true rfl⟩) (fun S31 H_ locs_ hp hw => ?_)
  obtain ⟨q32, hq_q32, rfl⟩ := hp
  have hne_x0_q32 : x0 ≠ q32 := fun e_ => hq_q32 (e_ ▸ hL)
  have hk : zK (zNew (zNew T15 q29 7 0) q32 14 160) x0 = 11 := (va_up_ne _ _ hne_x0_q32).trans hk
  have hL : x0 ∈ zL (zNew (zNew T15 q29 7 0) q32 14 160) := List.mem_append_left _ hL
  refine z_past (n := 8) hcf hK_ hw hLy hKy hNy hL_q29 hk_q29 (by decide) dX11_init_130 (fun H_ locs_ hw => ?_)
  have hB_q29 := hq_q29
  have hx_q29 : q29 ≠ x0 := fun e_ => hB_q29 (e_.symm ▸ hL_prev)
  have hy_q29 : q29 ≠ q1 := fun e_ => hB_q29 (e_.symm ▸ hLy)
  have hd_q29_q32 : q29 ≠ q32 := fun e_ => hq_q32 (by rw [← e_]; simp [zL_I, zL_Q, zNew_L])
  have hB_q32 : q32 ∉ zL T15 := fun h_ => hq_q32 (by simp [zL_I, zL_Q, zNew_L, h_])
  have hx_q32 : q32 ≠ x0 := fun e_ => hB_q32 (e_.symm ▸ hL_prev)
  have hy_q32 : q32 ≠ q1 := fun e_ => hB_q32 (e_.symm ▸ hLy)
  obtain ⟨T16, eT16⟩ : ∃ z_, z_ = (zsR (zsI (zsI (zsI (zsQ (zNew (zNew T15 q29 7 0) q32 14 160) 700 q29 (some q32)) 701 q29 0) 702 q29 (-1)) 703 q29 (-1)) q1 (va_up (zR (zsI (zsI (zsI (zsQ (zNew (zNew T15 q29 7 0) q32 14 160) 700 q29 (some q32)) 701 q29 0) 702 q29 (-1)) 703 q29 (-1)) q1) (2 : Int32).toNatClampNeg (some q29))) := ⟨_, rfl⟩
  rw [← eT16] at hw
  have E16 : zGE 2000 2000 2 x0 q1 T15 T16 := by rw [eT16]; exact zGE_Ry (zGE_I (zGE_I (zGE_I (zGE_Q (zGE_new (zGE_new (zGE_rf hL_prev) hq_q29 (Or.inr hy_q29)) hq_q32 (Or.inr hy_q32)) hB_q29 hx_q29) hB_q29 hx_q29) hB_q29 hx_q29) hB_q29 hx_q29) (by decide)
  have hk : zK T16 x0 = 11 := E16.2.1.trans hk015
  have hk016 := hk
  have hL : x0 ∈ zL T16 := E16.1
  have L_q29 : q29 ∈ zL T16 := by rw [eT16]; simp [zQ, zI, zK, zN, zA, zR, zL, zsQ, zsI, zsR, zNew, zu2, va_up, hd_q29_q32, hd_q29_q32.symm, hx_q29, hx_q29.symm, hx_q32, hx_q32.symm]
  have K_q29 : zK T16 q29 = 7 := by rw [eT16]; simp [zQ, zI, zK, zN, zA, zR, zL, zsQ, zsI, zsR, zNew, zu2, va_up, hd_q29_q32, hd_q29_q32.symm, hx_q29, hx_q29.symm, hx_q32, hx_q32.symm]
  have N_q29 : zN T16 q29 = 0 := by rw [eT16]; simp [zQ, zI, zK, zN, zA, zR, zL, zsQ, zsI, zsR, zNew, zu2, va_up, hd_q29_q32, hd_q29_q32.symm, hx_q29, hx_q29.symm, hx_q32, hx_q32.symm]
  have L_q32 : q32 ∈ zL T16 := by rw [eT16]; simp [zQ, zI, zK, zN, zA, zR, zL, zsQ, zsI, zsR, zNew, zu2, va_up, hd_q29_q32, hd_q29_q32.symm, hx_q29, hx_q29.symm, hx_q32, hx_q32.symm]
  have K_q32 : zK T16 q32 = 14 := by rw [eT16]; simp [zQ, zI, zK, zN, zA, zR, zL, zsQ, zsI, zsR, zNew, zu2, va_up, hd_q29_q32, hd_q29_q32.symm, hx_q29, hx_q29.symm, hx_q32, hx_q32.symm]
  have N_q32 : zN T16 q32 = 160 := by rw [eT16]; simp [zQ, zI, zK, zN, zA, zR, zL, zsQ, zsI, zsR, zNew, zu2, va_up, hd_q29_q32, hd_q29_q32.symm, hx_q29, hx_q29.symm, hx_q32, hx_q32.symm]
  have Z_q29 : zL T16 = zL T15 ++ [q29, q32] := by rw [eT16]; simp [zQ, zI, zK, zN, zA, zR, zL, zsQ, zsI, zsR, zNew, zu2, va_up, hd_q29_q32, hd_q29_q32.symm, hx_q29, hx_q29.symm, hx_q32, hx_q32.symm]
  have Y_2 : zR T16 q1 2 = some q29 := by rw [eT16]; simp [zQ, zI, zK, zN, zA, zR, zL, zsQ, zsI, zsR, zNew, zu2, va_up, hd_q29_q32, hd_q29_q32.symm, hx_q29, hx_q29.symm, hx_q32, hx_q32.symm]
  have Y7_2 : zQ T16 700 q29 = some q32 := by rw [eT16]; simp [zQ, zI, zK, zN, zA, zR, zL, zsQ, zsI, zsR, zNew, zu2, va_up, hd_q29_q32, hd_q29_q32.symm, hx_q29, hx_q29.symm, hx_q32, hx_q32.symm]
  have Y1_2 : zI T16 701 q29 = 0 := by rw [eT16]; simp [zQ, zI, zK, zN, zA, zR, zL, zsQ, zsI, zsR, zNew, zu2, va_up, hd_q29_q32, hd_q29_q32.symm, hx_q29, hx_q29.symm, hx_q32, hx_q32.symm]
  have Y2_2 : zI T16 702 q29 = (-1) := by rw [eT16]; simp [zQ, zI, zK, zN, zA, zR, zL, zsQ, zsI, zsR, zNew, zu2, va_up, hd_q29_q32, hd_q29_q32.symm, hx_q29, hx_q29.symm, hx_q32, hx_q32.symm]
  have Y3_2 : zI T16 703 q29 = (-1) := by rw [eT16]; simp [zQ, zI, zK, zN, zA, zR, zL, zsQ, zsI, zsR, zNew, zu2, va_up, hd_q29_q32, hd_q29_q32.symm, hx_q29, hx_q29.symm, hx_q32, hx_q32.symm]
  have hL_prev := hL
  have hKy : zK T16 q1 = 15 := (E16.2.2.2.2.2 q1 hLy hyx).2.1.trans hKy
  have hNy : zN T16 q1 = 8 := (E16.2.2.2.2.2 q1 hLy hyx).2.2.1.trans hNy
  have hLy : q1 ∈ zL T16 := (E16.2.2.2.2.2 q1 hLy hyx).1
  have hPy : zQ T16 1100 x0 = some q1 := (E16.2.2.1 1100 (by decide)).trans hPy
  refine lv_iinc (v := 3) (lv' := [(1, .int 3), (0, .ref x0)]) hx hb_ dX11_init_131 hl (k := 0) rfl (by decide) (by decide) rfl (fun ls hl => ?_)
  refine lv_goto (tgt := 112) hx hb_ dX11_init_134 (by decide) ?_
  refine lv_iload_n hx hb_ dX11_init_112 rfl (lv_at hl 0 rfl) ?_
  refine lv_bipush (v := 8) hx hb_ dX11_init_113 (by decide) ?_
  refine lv_icmp_ge (tgt := 137) hx hb_ dX11_init_115 (by decide) (fun c_115 => absurd c_115 (by decide)) (fun _ => ?_)
  refine lv_aload_n hx hb_ dX11_init_118 rfl (lv_at hl 1 rfl) ?_
  refine z_get (k := 11) (i := 0) (j := 1100) (v := .ref q1) (ref := "FoldedInHalf") (C := RX11) (T := TX11) (N := 13) hcf hK_ hw hin11 hL hk rfl (by decide) (by decide) rfl rfl (congrArg va_rf hPy) (List.mem_of_getElem? (i := 5) rfl) (fun _ h_ => h_) dX11_init_119 ?_
  refine lv_iload_n hx hb_ dX11_init_122 rfl (lv_at hl 0 rfl) ?_
  refine z_new (k := 7) tyX7 hcf hK_ hw hA hin7 tyX7_ok (List.mem_of_getElem? (i := 4) rfl) (List.mem_of_getElem? (i := 26) rfl) (List.mem_of_getElem? (i := 27) rfl) rfl (by decide) zdf7 (Nat.le_of_ble_eq_true rfl) (Nat.le_of_ble_eq_true rfl) dX11_init_123 (fun q33 H_ hq_q33 hw => ?_)
  have hne_x0_q33 : x0 ≠ q33 := fun e_ => hq_q33 (e_ ▸ hL)
  have hk : zK (zNew T16 q33 7 0) x0 = 11 := (va_up_ne _ _ hne_x0_q33).trans hk
  have hL : x0 ∈ zL (zNew T16 q33 7 0) := List.mem_append_left _ hL
  have hL_q33 : q33 ∈ zL (zNew T16 q33 7 0) := zNew_m
  have hk_q33 : zK (zNew T16 q33 7 0) q33 = 7 := zNew_K
  have hn_q33 : zN (zNew T16 q33 7 0) q33 = 0 := zNew_N
  refine lv_dup hx hb_ dX11_init_126 rfl ?_
  refine z_kv hw hA (va_runIN (As := []) (rest := [.ref q33, .int 3, .ref q1]) hcf (c_X7_init l cD cy _ (zNew T16 q33 7 0) q33 hL_q33 hk_q33) ⟨va_cnB 0 hts gX11_init_X7_init_n64 rfl rfl rfl (nw_M_FoldedInHalf_64 hE) (hts (.initialized RX7) (by decide +kernel)) (by decide +kernel) ⟨Nat.le_of_ble_eq_true rfl, Nat.le_of_ble_eq_true rfl⟩, rfl, hts (.instanceMethod yX7_init) (by decide +kernel)⟩ (z_preS hK_ hE hw) rfl rfl hl.1 rfl (lv_room (Nat.le_of_ble_eq_true rfl)) dX11_init_127 ⟨Nat.le_of_ble_eq_true rfl, Nat.le_of_ble_eq_true rfl⟩) (fun S35 H_ locs_ hp hw => ?_)
  obtain ⟨q36, hq_q36, rfl⟩ := hp
  have hne_x0_q36 : x0 ≠ q36 := fun e_ => hq_q36 (e_ ▸ hL)
  have hk : zK (zNew (zNew T16 q33 7 0) q36 14 160) x0 = 11 := (va_up_ne _ _ hne_x0_q36).trans hk
  have hL : x0 ∈ zL (zNew (zNew T16 q33 7 0) q36 14 160) := List.mem_append_left _ hL
  refine z_past (n := 8) hcf hK_ hw hLy hKy hNy hL_q33 hk_q33 (by decide) dX11_init_130 (fun H_ locs_ hw => ?_)
  have hB_q33 := hq_q33
  have hx_q33 : q33 ≠ x0 := fun e_ => hB_q33 (e_.symm ▸ hL_prev)
  have hy_q33 : q33 ≠ q1 := fun e_ => hB_q33 (e_.symm ▸ hLy)
  have hd_q33_q36 : q33 ≠ q36 := fun e_ => hq_q36 (by rw [← e_]; simp [zL_I, zL_Q, zNew_L])
  have hB_q36 : q36 ∉ zL T16 := fun h_ => hq_q36 (by simp [zL_I, zL_Q, zNew_L, h_])
  have hx_q36 : q36 ≠ x0 := fun e_ => hB_q36 (e_.symm ▸ hL_prev)
  have hy_q36 : q36 ≠ q1 := fun e_ => hB_q36 (e_.symm ▸ hLy)
  obtain ⟨T17, eT17⟩ : ∃ z_, z_ = (zsR (zsI (zsI (zsI (zsQ (zNew (zNew T16 q33 7 0) q36 14 160) 700 q33 (some q36)) 701 q33 0) 702 q33 (-1)) 703 q33 (-1)) q1 (va_up (zR (zsI (zsI (zsI (zsQ (zNew (zNew T16 q33 7 0) q36 14 160) 700 q33 (some q36)) 701 q33 0) 702 q33 (-1)) 703 q33 (-1)) q1) (3 : Int32).toNatClampNeg (some q33))) := ⟨_, rfl⟩
  rw [← eT17] at hw
  have E17 : zGE 2000 2000 3 x0 q1 T16 T17 := by rw [eT17]; exact zGE_Ry (zGE_I (zGE_I (zGE_I (zGE_Q (zGE_new (zGE_new (zGE_rf hL_prev) hq_q33 (Or.inr hy_q33)) hq_q36 (Or.inr hy_q36)) hB_q33 hx_q33) hB_q33 hx_q33) hB_q33 hx_q33) hB_q33 hx_q33) (by decide)
  have hk : zK T17 x0 = 11 := E17.2.1.trans hk016
  have hk017 := hk
  have hL : x0 ∈ zL T17 := E17.1
  have L_q33 : q33 ∈ zL T17 := by rw [eT17]; simp [zQ, zI, zK, zN, zA, zR, zL, zsQ, zsI, zsR, zNew, zu2, va_up, hd_q33_q36, hd_q33_q36.symm, hx_q33, hx_q33.symm, hx_q36, hx_q36.symm]
  have K_q33 : zK T17 q33 = 7 := by rw [eT17]; simp [zQ, zI, zK, zN, zA, zR, zL, zsQ, zsI, zsR, zNew, zu2, va_up, hd_q33_q36, hd_q33_q36.symm, hx_q33, hx_q33.symm, hx_q36, hx_q36.symm]
  have N_q33 : zN T17 q33 = 0 := by rw [eT17]; simp [zQ, zI, zK, zN, zA, zR, zL, zsQ, zsI, zsR, zNew, zu2, va_up, hd_q33_q36, hd_q33_q36.symm, hx_q33, hx_q33.symm, hx_q36, hx_q36.symm]
  have L_q36 : q36 ∈ zL T17 := by rw [eT17]; simp [zQ, zI, zK, zN, zA, zR, zL, zsQ, zsI, zsR, zNew, zu2, va_up, hd_q33_q36, hd_q33_q36.symm, hx_q33, hx_q33.symm, hx_q36, hx_q36.symm]
  have K_q36 : zK T17 q36 = 14 := by rw [eT17]; simp [zQ, zI, zK, zN, zA, zR, zL, zsQ, zsI, zsR, zNew, zu2, va_up, hd_q33_q36, hd_q33_q36.symm, hx_q33, hx_q33.symm, hx_q36, hx_q36.symm]
  have N_q36 : zN T17 q36 = 160 := by rw [eT17]; simp [zQ, zI, zK, zN, zA, zR, zL, zsQ, zsI, zsR, zNew, zu2, va_up, hd_q33_q36, hd_q33_q36.symm, hx_q33, hx_q33.symm, hx_q36, hx_q36.symm]
  have Z_q33 : zL T17 = zL T16 ++ [q33, q36] := by rw [eT17]; simp [zQ, zI, zK, zN, zA, zR, zL, zsQ, zsI, zsR, zNew, zu2, va_up, hd_q33_q36, hd_q33_q36.symm, hx_q33, hx_q33.symm, hx_q36, hx_q36.symm]
  have Y_3 : zR T17 q1 3 = some q33 := by rw [eT17]; simp [zQ, zI, zK, zN, zA, zR, zL, zsQ, zsI, zsR, zNew, zu2, va_up, hd_q33_q36, hd_q33_q36.symm, hx_q33, hx_q33.symm, hx_q36, hx_q36.symm]
  have Y7_3 : zQ T17 700 q33 = some q36 := by rw [eT17]; simp [zQ, zI, zK, zN, zA, zR, zL, zsQ, zsI, zsR, zNew, zu2, va_up, hd_q33_q36, hd_q33_q36.symm, hx_q33, hx_q33.symm, hx_q36, hx_q36.symm]
  have Y1_3 : zI T17 701 q33 = 0 := by rw [eT17]; simp [zQ, zI, zK, zN, zA, zR, zL, zsQ, zsI, zsR, zNew, zu2, va_up, hd_q33_q36, hd_q33_q36.symm, hx_q33, hx_q33.symm, hx_q36, hx_q36.symm]
  have Y2_3 : zI T17 702 q33 = (-1) := by rw [eT17]; simp [zQ, zI, zK, zN, zA, zR, zL, zsQ, zsI, zsR, zNew, zu2, va_up, hd_q33_q36, hd_q33_q36.symm, hx_q33, hx_q33.symm, hx_q36, hx_q36.symm]
  have Y3_3 : zI T17 703 q33 = (-1) := by rw [eT17]; simp [zQ, zI, zK, zN, zA, zR, zL, zsQ, zsI, zsR, zNew, zu2, va_up, hd_q33_q36, hd_q33_q36.symm, hx_q33, hx_q33.symm, hx_q36, hx_q36.symm]
  have hL_prev := hL
  have hKy : zK T17 q1 = 15 := (E17.2.2.2.2.2 q1 hLy hyx).2.1.trans hKy
  have hNy : zN T17 q1 = 8 := (E17.2.2.2.2.2 q1 hLy hyx).2.2.1.trans hNy
  have hLy : q1 ∈ zL T17 := (E17.2.2.2.2.2 q1 hLy hyx).1
  have hPy : zQ T17 1100 x0 = some q1 := (E17.2.2.1 1100 (by decide)).trans hPy
  refine lv_iinc (v := 4) (lv' := [(1, .int 4), (0, .ref x0)]) hx hb_ dX11_init_131 hl (k := 0) rfl (by decide) (by decide) rfl (fun ls hl => ?_)
  refine lv_goto (tgt := 112) hx hb_ dX11_init_134 (by decide) ?_
  refine lv_iload_n hx hb_ dX11_init_112 rfl (lv_at hl 0 rfl) ?_
  refine lv_bipush (v := 8) hx hb_ dX11_init_113 (by decide) ?_
  refine lv_icmp_ge (tgt := 137) hx hb_ dX11_init_115 (by decide) (fun c_115 => absurd c_115 (by decide)) (fun _ => ?_)
  refine lv_aload_n hx hb_ dX11_init_118 rfl (lv_at hl 1 rfl) ?_
  refine z_get (k := 11) (i := 0) (j := 1100) (v := .ref q1) (ref := "FoldedInHalf") (C := RX11) (T := TX11) (N := 13) hcf hK_ hw hin11 hL hk rfl (by decide) (by decide) rfl rfl (congrArg va_rf hPy) (List.mem_of_getElem? (i := 5) rfl) (fun _ h_ => h_) dX11_init_119 ?_
  refine lv_iload_n hx hb_ dX11_init_122 rfl (lv_at hl 0 rfl) ?_
  refine z_new (k := 7) tyX7 hcf hK_ hw hA hin7 tyX7_ok (List.mem_of_getElem? (i := 4) rfl) (List.mem_of_getElem? (i := 26) rfl) (List.mem_of_getElem? (i := 27) rfl) rfl (by decide) zdf7 (Nat.le_of_ble_eq_true rfl) (Nat.le_of_ble_eq_true rfl) dX11_init_123 (fun q37 H_ hq_q37 hw => ?_)
  have hne_x0_q37 : x0 ≠ q37 := fun e_ => hq_q37 (e_ ▸ hL)
  have hk : zK (zNew T17 q37 7 0) x0 = 11 := (va_up_ne _ _ hne_x0_q37).trans hk
  have hL : x0 ∈ zL (zNew T17 q37 7 0) := List.mem_append_left _ hL
  have hL_q37 : q37 ∈ zL (zNew T17 q37 7 0) := zNew_m
  have hk_q37 : zK (zNew T17 q37 7 0) q37 = 7 := zNew_K
  have hn_q37 : zN (zNew T17 q37 7 0) q37 = 0 := zNew_N
  refine lv_dup hx hb_ dX11_init_126 rfl ?_
  refine z_kv hw hA (va_runIN (As := []) (rest := [.ref q37, .int 4, .ref q1]) hcf (c_X7_init l cD cy _ (zNew T17 q37 7 0) q37 hL_q37 hk_q37) ⟨va_cnB 0 hts gX11_init_X7_init_n64 rfl rfl rfl (nw_M_FoldedInHalf_64 hE) (hts (.initialized RX7) (by decide +kernel)) (by decide +kernel) ⟨Nat.le_of_ble_eq_true rfl, Nat.le_of_ble_eq_true rfl⟩, rfl, hts (.instanceMethod yX7_init) (by decide +kernel)⟩ (z_preS hK_ hE hw) rfl rfl hl.1 rfl (lv_room (Nat.le_of_ble_eq_true rfl)) dX11_init_127 ⟨Nat.le_of_ble_eq_true rfl, Nat.le_of_ble_eq_true rfl⟩) (fun S39 H_ locs_ hp hw => ?_)
  obtain ⟨q40, hq_q40, rfl⟩ := hp
  have hne_x0_q40 : x0 ≠ q40 := fun e_ => hq_q40 (e_ ▸ hL)
  have hk : zK (zNew (zNew T17 q37 7 0) q40 14 160) x0 = 11 := (va_up_ne _ _ hne_x0_q40).trans hk
  have hL : x0 ∈ zL (zNew (zNew T17 q37 7 0) q40 14 160) := List.mem_append_left _ hL
  refine z_past (n := 8) hcf hK_ hw hLy hKy hNy hL_q37 hk_q37 (by decide) dX11_init_130 (fun H_ locs_ hw => ?_)
  have hB_q37 := hq_q37
  have hx_q37 : q37 ≠ x0 := fun e_ => hB_q37 (e_.symm ▸ hL_prev)
  have hy_q37 : q37 ≠ q1 := fun e_ => hB_q37 (e_.symm ▸ hLy)
  have hd_q37_q40 : q37 ≠ q40 := fun e_ => hq_q40 (by rw [← e_]; simp [zL_I, zL_Q, zNew_L])
  have hB_q40 : q40 ∉ zL T17 := fun h_ => hq_q40 (by simp [zL_I, zL_Q, zNew_L, h_])
  have hx_q40 : q40 ≠ x0 := fun e_ => hB_q40 (e_.symm ▸ hL_prev)
  have hy_q40 : q40 ≠ q1 := fun e_ => hB_q40 (e_.symm ▸ hLy)
  obtain ⟨T18, eT18⟩ : ∃ z_, z_ = (zsR (zsI (zsI (zsI (zsQ (zNew (zNew T17 q37 7 0) q40 14 160) 700 q37 (some q40)) 701 q37 0) 702 q37 (-1)) 703 q37 (-1)) q1 (va_up (zR (zsI (zsI (zsI (zsQ (zNew (zNew T17 q37 7 0) q40 14 160) 700 q37 (some q40)) 701 q37 0) 702 q37 (-1)) 703 q37 (-1)) q1) (4 : Int32).toNatClampNeg (some q37))) := ⟨_, rfl⟩
  rw [← eT18] at hw
  have E18 : zGE 2000 2000 4 x0 q1 T17 T18 := by rw [eT18]; exact zGE_Ry (zGE_I (zGE_I (zGE_I (zGE_Q (zGE_new (zGE_new (zGE_rf hL_prev) hq_q37 (Or.inr hy_q37)) hq_q40 (Or.inr hy_q40)) hB_q37 hx_q37) hB_q37 hx_q37) hB_q37 hx_q37) hB_q37 hx_q37) (by decide)
  have hk : zK T18 x0 = 11 := E18.2.1.trans hk017
  have hk018 := hk
  have hL : x0 ∈ zL T18 := E18.1
  have L_q37 : q37 ∈ zL T18 := by rw [eT18]; simp [zQ, zI, zK, zN, zA, zR, zL, zsQ, zsI, zsR, zNew, zu2, va_up, hd_q37_q40, hd_q37_q40.symm, hx_q37, hx_q37.symm, hx_q40, hx_q40.symm]
  have K_q37 : zK T18 q37 = 7 := by rw [eT18]; simp [zQ, zI, zK, zN, zA, zR, zL, zsQ, zsI, zsR, zNew, zu2, va_up, hd_q37_q40, hd_q37_q40.symm, hx_q37, hx_q37.symm, hx_q40, hx_q40.symm]
  have N_q37 : zN T18 q37 = 0 := by rw [eT18]; simp [zQ, zI, zK, zN, zA, zR, zL, zsQ, zsI, zsR, zNew, zu2, va_up, hd_q37_q40, hd_q37_q40.symm, hx_q37, hx_q37.symm, hx_q40, hx_q40.symm]
  have L_q40 : q40 ∈ zL T18 := by rw [eT18]; simp [zQ, zI, zK, zN, zA, zR, zL, zsQ, zsI, zsR, zNew, zu2, va_up, hd_q37_q40, hd_q37_q40.symm, hx_q37, hx_q37.symm, hx_q40, hx_q40.symm]
  have K_q40 : zK T18 q40 = 14 := by rw [eT18]; simp [zQ, zI, zK, zN, zA, zR, zL, zsQ, zsI, zsR, zNew, zu2, va_up, hd_q37_q40, hd_q37_q40.symm, hx_q37, hx_q37.symm, hx_q40, hx_q40.symm]
  have N_q40 : zN T18 q40 = 160 := by rw [eT18]; simp [zQ, zI, zK, zN, zA, zR, zL, zsQ, zsI, zsR, zNew, zu2, va_up, hd_q37_q40, hd_q37_q40.symm, hx_q37, hx_q37.symm, hx_q40, hx_q40.symm]
  have Z_q37 : zL T18 = zL T17 ++ [q37, q40] := by rw [eT18]; simp [zQ, zI, zK, zN, zA, zR, zL, zsQ, zsI, zsR, zNew, zu2, va_up, hd_q37_q40, hd_q37_q40.symm, hx_q37, hx_q37.symm, hx_q40, hx_q40.symm]
  have Y_4 : zR T18 q1 4 = some q37 := by rw [eT18]; simp [zQ, zI, zK, zN, zA, zR, zL, zsQ, zsI, zsR, zNew, zu2, va_up, hd_q37_q40, hd_q37_q40.symm, hx_q37, hx_q37.symm, hx_q40, hx_q40.symm]
  have Y7_4 : zQ T18 700 q37 = some q40 := by rw [eT18]; simp [zQ, zI, zK, zN, zA, zR, zL, zsQ, zsI, zsR, zNew, zu2, va_up, hd_q37_q40, hd_q37_q40.symm, hx_q37, hx_q37.symm, hx_q40, hx_q40.symm]
  have Y1_4 : zI T18 701 q37 = 0 := by rw [eT18]; simp [zQ, zI, zK, zN, zA, zR, zL, zsQ, zsI, zsR, zNew, zu2, va_up, hd_q37_q40, hd_q37_q40.symm, hx_q37, hx_q37.symm, hx_q40, hx_q40.symm]
  have Y2_4 : zI T18 702 q37 = (-1) := by rw [eT18]; simp [zQ, zI, zK, zN, zA, zR, zL, zsQ, zsI, zsR, zNew, zu2, va_up, hd_q37_q40, hd_q37_q40.symm, hx_q37, hx_q37.symm, hx_q40, hx_q40.symm]
  have Y3_4 : zI T18 703 q37 = (-1) := by rw [eT18]; simp [zQ, zI, zK, zN, zA, zR, zL, zsQ, zsI, zsR, zNew, zu2, va_up, hd_q37_q40, hd_q37_q40.symm, hx_q37, hx_q37.symm, hx_q40, hx_q40.symm]
  have hL_prev := hL
  have hKy : zK T18 q1 = 15 := (E18.2.2.2.2.2 q1 hLy hyx).2.1.trans hKy
  have hNy : zN T18 q1 = 8 := (E18.2.2.2.2.2 q1 hLy hyx).2.2.1.trans hNy
  have hLy : q1 ∈ zL T18 := (E18.2.2.2.2.2 q1 hLy hyx).1
  have hPy : zQ T18 1100 x0 = some q1 := (E18.2.2.1 1100 (by decide)).trans hPy
  refine lv_iinc (v := 5) (lv' := [(1, .int 5), (0, .ref x0)]) hx hb_ dX11_init_131 hl (k := 0) rfl (by decide) (by decide) rfl (fun ls hl => ?_)
  refine lv_goto (tgt := 112) hx hb_ dX11_init_134 (by decide) ?_
  refine lv_iload_n hx hb_ dX11_init_112 rfl (lv_at hl 0 rfl) ?_
  refine lv_bipush (v := 8) hx hb_ dX11_init_113 (by decide) ?_
  refine lv_icmp_ge (tgt := 137) hx hb_ dX11_init_115 (by decide) (fun c_115 => absurd c_115 (by decide)) (fun _ => ?_)
  refine lv_aload_n hx hb_ dX11_init_118 rfl (lv_at hl 1 rfl) ?_
  refine z_get (k := 11) (i := 0) (j := 1100) (v := .ref q1) (ref := "FoldedInHalf") (C := RX11) (T := TX11) (N := 13) hcf hK_ hw hin11 hL hk rfl (by decide) (by decide) rfl rfl (congrArg va_rf hPy) (List.mem_of_getElem? (i := 5) rfl) (fun _ h_ => h_) dX11_init_119 ?_
  refine lv_iload_n hx hb_ dX11_init_122 rfl (lv_at hl 0 rfl) ?_
  refine z_new (k := 7) tyX7 hcf hK_ hw hA hin7 tyX7_ok (List.mem_of_getElem? (i := 4) rfl) (List.mem_of_getElem? (i := 26) rfl) (List.mem_of_getElem? (i := 27) rfl) rfl (by decide) zdf7 (Nat.le_of_ble_eq_true rfl) (Nat.le_of_ble_eq_true rfl) dX11_init_123 (fun q41 H_ hq_q41 hw => ?_)
  have hne_x0_q41 : x0 ≠ q41 := fun e_ => hq_q41 (e_ ▸ hL)
  have hk : zK (zNew T18 q41 7 0) x0 = 11 := (va_up_ne _ _ hne_x0_q41).trans hk
  have hL : x0 ∈ zL (zNew T18 q41 7 0) := List.mem_append_left _ hL
  have hL_q41 : q41 ∈ zL (zNew T18 q41 7 0) := zNew_m
  have hk_q41 : zK (zNew T18 q41 7 0) q41 = 7 := zNew_K
  have hn_q41 : zN (zNew T18 q41 7 0) q41 = 0 := zNew_N
  refine lv_dup hx hb_ dX11_init_126 rfl ?_
  refine z_kv hw hA (va_runIN (As := []) (rest := [.ref q41, .int 5, .ref q1]) hcf (c_X7_init l cD cy _ (zNew T18 q41 7 0) q41 hL_q41 hk_q41) ⟨va_cnB 0 hts gX11_init_X7_init_n64 rfl rfl rfl (nw_M_FoldedInHalf_64 hE) (hts (.initialized RX7) (by decide +kernel)) (by decide +kernel) ⟨Nat.le_of_ble_eq_true rfl, Nat.le_of_ble_eq_true rfl⟩, rfl, hts (.instanceMethod yX7_init) (by decide +kernel)⟩ (z_preS hK_ hE hw) rfl rfl hl.1 rfl (lv_room (Nat.le_of_ble_eq_true rfl)) dX11_init_127 ⟨Nat.le_of_ble_eq_true rfl, Nat.le_of_ble_eq_true rfl⟩) (fun S43 H_ locs_ hp hw => ?_)
  obtain ⟨q44, hq_q44, rfl⟩ := hp
  have hne_x0_q44 : x0 ≠ q44 := fun e_ => hq_q44 (e_ ▸ hL)
  have hk : zK (zNew (zNew T18 q41 7 0) q44 14 160) x0 = 11 := (va_up_ne _ _ hne_x0_q44).trans hk
  have hL : x0 ∈ zL (zNew (zNew T18 q41 7 0) q44 14 160) := List.mem_append_left _ hL
  refine z_past (n := 8) hcf hK_ hw hLy hKy hNy hL_q41 hk_q41 (by decide) dX11_init_130 (fun H_ locs_ hw => ?_)
  have hB_q41 := hq_q41
  have hx_q41 : q41 ≠ x0 := fun e_ => hB_q41 (e_.symm ▸ hL_prev)
  have hy_q41 : q41 ≠ q1 := fun e_ => hB_q41 (e_.symm ▸ hLy)
  have hd_q41_q44 : q41 ≠ q44 := fun e_ => hq_q44 (by rw [← e_]; simp [zL_I, zL_Q, zNew_L])
  have hB_q44 : q44 ∉ zL T18 := fun h_ => hq_q44 (by simp [zL_I, zL_Q, zNew_L, h_])
  have hx_q44 : q44 ≠ x0 := fun e_ => hB_q44 (e_.symm ▸ hL_prev)
  have hy_q44 : q44 ≠ q1 := fun e_ => hB_q44 (e_.symm ▸ hLy)
  obtain ⟨T19, eT19⟩ : ∃ z_, z_ = (zsR (zsI (zsI (zsI (zsQ (zNew (zNew T18 q41 7 0) q44 14 160) 700 q41 (some q44)) 701 q41 0) 702 q41 (-1)) 703 q41 (-1)) q1 (va_up (zR (zsI (zsI (zsI (zsQ (zNew (zNew T18 q41 7 0) q44 14 160) 700 q41 (some q44)) 701 q41 0) 702 q41 (-1)) 703 q41 (-1)) q1) (5 : Int32).toNatClampNeg (some q41))) := ⟨_, rfl⟩
  rw [← eT19] at hw
  have E19 : zGE 2000 2000 5 x0 q1 T18 T19 := by rw [eT19]; exact zGE_Ry (zGE_I (zGE_I (zGE_I (zGE_Q (zGE_new (zGE_new (zGE_rf hL_prev) hq_q41 (Or.inr hy_q41)) hq_q44 (Or.inr hy_q44)) hB_q41 hx_q41) hB_q41 hx_q41) hB_q41 hx_q41) hB_q41 hx_q41) (by decide)
  have hk : zK T19 x0 = 11 := E19.2.1.trans hk018
  have hk019 := hk
  have hL : x0 ∈ zL T19 := E19.1
  have L_q41 : q41 ∈ zL T19 := by rw [eT19]; simp [zQ, zI, zK, zN, zA, zR, zL, zsQ, zsI, zsR, zNew, zu2, va_up, hd_q41_q44, hd_q41_q44.symm, hx_q41, hx_q41.symm, hx_q44, hx_q44.symm]
  have K_q41 : zK T19 q41 = 7 := by rw [eT19]; simp [zQ, zI, zK, zN, zA, zR, zL, zsQ, zsI, zsR, zNew, zu2, va_up, hd_q41_q44, hd_q41_q44.symm, hx_q41, hx_q41.symm, hx_q44, hx_q44.symm]
  have N_q41 : zN T19 q41 = 0 := by rw [eT19]; simp [zQ, zI, zK, zN, zA, zR, zL, zsQ, zsI, zsR, zNew, zu2, va_up, hd_q41_q44, hd_q41_q44.symm, hx_q41, hx_q41.symm, hx_q44, hx_q44.symm]
  have L_q44 : q44 ∈ zL T19 := by rw [eT19]; simp [zQ, zI, zK, zN, zA, zR, zL, zsQ, zsI, zsR, zNew, zu2, va_up, hd_q41_q44, hd_q41_q44.symm, hx_q41, hx_q41.symm, hx_q44, hx_q44.symm]
  have K_q44 : zK T19 q44 = 14 := by rw [eT19]; simp [zQ, zI, zK, zN, zA, zR, zL, zsQ, zsI, zsR, zNew, zu2, va_up, hd_q41_q44, hd_q41_q44.symm, hx_q41, hx_q41.symm, hx_q44, hx_q44.symm]
  have N_q44 : zN T19 q44 = 160 := by rw [eT19]; simp [zQ, zI, zK, zN, zA, zR, zL, zsQ, zsI, zsR, zNew, zu2, va_up, hd_q41_q44, hd_q41_q44.symm, hx_q41, hx_q41.symm, hx_q44, hx_q44.symm]
  have Z_q41 : zL T19 = zL T18 ++ [q41, q44] := by rw [eT19]; simp [zQ, zI, zK, zN, zA, zR, zL, zsQ, zsI, zsR, zNew, zu2, va_up, hd_q41_q44, hd_q41_q44.symm, hx_q41, hx_q41.symm, hx_q44, hx_q44.symm]
  have Y_5 : zR T19 q1 5 = some q41 := by rw [eT19]; simp [zQ, zI, zK, zN, zA, zR, zL, zsQ, zsI, zsR, zNew, zu2, va_up, hd_q41_q44, hd_q41_q44.symm, hx_q41, hx_q41.symm, hx_q44, hx_q44.symm]
  have Y7_5 : zQ T19 700 q41 = some q44 := by rw [eT19]; simp [zQ, zI, zK, zN, zA, zR, zL, zsQ, zsI, zsR, zNew, zu2, va_up, hd_q41_q44, hd_q41_q44.symm, hx_q41, hx_q41.symm, hx_q44, hx_q44.symm]
  have Y1_5 : zI T19 701 q41 = 0 := by rw [eT19]; simp [zQ, zI, zK, zN, zA, zR, zL, zsQ, zsI, zsR, zNew, zu2, va_up, hd_q41_q44, hd_q41_q44.symm, hx_q41, hx_q41.symm, hx_q44, hx_q44.symm]
  have Y2_5 : zI T19 702 q41 = (-1) := by rw [eT19]; simp [zQ, zI, zK, zN, zA, zR, zL, zsQ, zsI, zsR, zNew, zu2, va_up, hd_q41_q44, hd_q41_q44.symm, hx_q41, hx_q41.symm, hx_q44, hx_q44.symm]
  have Y3_5 : zI T19 703 q41 = (-1) := by rw [eT19]; simp [zQ, zI, zK, zN, zA, zR, zL, zsQ, zsI, zsR, zNew, zu2, va_up, hd_q41_q44, hd_q41_q44.symm, hx_q41, hx_q41.symm, hx_q44, hx_q44.symm]
  have hL_prev := hL
  have hKy : zK T19 q1 = 15 := (E19.2.2.2.2.2 q1 hLy hyx).2.1.trans hKy
  have hNy : zN T19 q1 = 8 := (E19.2.2.2.2.2 q1 hLy hyx).2.2.1.trans hNy
  have hLy : q1 ∈ zL T19 := (E19.2.2.2.2.2 q1 hLy hyx).1
  have hPy : zQ T19 1100 x0 = some q1 := (E19.2.2.1 1100 (by decide)).trans hPy
  refine lv_iinc (v := 6) (lv' := [(1, .int 6), (0, .ref x0)]) hx hb_ dX11_init_131 hl (k := 0) rfl (by decide) (by decide) rfl (fun ls hl => ?_)
  refine lv_goto (tgt := 112) hx hb_ dX11_init_134 (by decide) ?_
  refine lv_iload_n hx hb_ dX11_init_112 rfl (lv_at hl 0 rfl) ?_
  refine lv_bipush (v := 8) hx hb_ dX11_init_113 (by decide) ?_
  refine lv_icmp_ge (tgt := 137) hx hb_ dX11_init_115 (by decide) (fun c_115 => absurd c_115 (by decide)) (fun _ => ?_)
  refine lv_aload_n hx hb_ dX11_init_118 rfl (lv_at hl 1 rfl) ?_
  refine z_get (k := 11) (i := 0) (j := 1100) (v := .ref q1) (ref := "FoldedInHalf") (C := RX11) (T := TX11) (N := 13) hcf hK_ hw hin11 hL hk rfl (by decide) (by decide) rfl rfl (congrArg va_rf hPy) (List.mem_of_getElem? (i := 5) rfl) (fun _ h_ => h_) dX11_init_119 ?_
  refine lv_iload_n hx hb_ dX11_init_122 rfl (lv_at hl 0 rfl) ?_
  refine z_new (k := 7) tyX7 hcf hK_ hw hA hin7 tyX7_ok (List.mem_of_getElem? (i := 4) rfl) (List.mem_of_getElem? (i := 26) rfl) (List.mem_of_getElem? (i := 27) rfl) rfl (by decide) zdf7 (Nat.le_of_ble_eq_true rfl) (Nat.le_of_ble_eq_true rfl) dX11_init_123 (fun q45 H_ hq_q45 hw => ?_)
  have hne_x0_q45 : x0 ≠ q45 := fun e_ => hq_q45 (e_ ▸ hL)
  have hk : zK (zNew T19 q45 7 0) x0 = 11 := (va_up_ne _ _ hne_x0_q45).trans hk
  have hL : x0 ∈ zL (zNew T19 q45 7 0) := List.mem_append_left _ hL
  have hL_q45 : q45 ∈ zL (zNew T19 q45 7 0) := zNew_m
  have hk_q45 : zK (zNew T19 q45 7 0) q45 = 7 := zNew_K
  have hn_q45 : zN (zNew T19 q45 7 0) q45 = 0 := zNew_N
  refine lv_dup hx hb_ dX11_init_126 rfl ?_
  refine z_kv hw hA (va_runIN (As := []) (rest := [.ref q45, .int 6, .ref q1]) hcf (c_X7_init l cD cy _ (zNew T19 q45 7 0) q45 hL_q45 hk_q45) ⟨va_cnB 0 hts gX11_init_X7_init_n64 rfl rfl rfl (nw_M_FoldedInHalf_64 hE) (hts (.initialized RX7) (by decide +kernel)) (by decide +kernel) ⟨Nat.le_of_ble_eq_true rfl, Nat.le_of_ble_eq_true rfl⟩, rfl, hts (.instanceMethod yX7_init) (by decide +kernel)⟩ (z_preS hK_ hE hw) rfl rfl hl.1 rfl (lv_room (Nat.le_of_ble_eq_true rfl)) dX11_init_127 ⟨Nat.le_of_ble_eq_true rfl, Nat.le_of_ble_eq_true rfl⟩) (fun S47 H_ locs_ hp hw => ?_)
  obtain ⟨q48, hq_q48, rfl⟩ := hp
  have hne_x0_q48 : x0 ≠ q48 := fun e_ => hq_q48 (e_ ▸ hL)
  have hk : zK (zNew (zNew T19 q45 7 0) q48 14 160) x0 = 11 := (va_up_ne _ _ hne_x0_q48).trans hk
  have hL : x0 ∈ zL (zNew (zNew T19 q45 7 0) q48 14 160) := List.mem_append_left _ hL
  refine z_past (n := 8) hcf hK_ hw hLy hKy hNy hL_q45 hk_q45 (by decide) dX11_init_130 (fun H_ locs_ hw => ?_)
  have hB_q45 := hq_q45
  have hx_q45 : q45 ≠ x0 := fun e_ => hB_q45 (e_.symm ▸ hL_prev)
  have hy_q45 : q45 ≠ q1 := fun e_ => hB_q45 (e_.symm ▸ hLy)
  have hd_q45_q48 : q45 ≠ q48 := fun e_ => hq_q48 (by rw [← e_]; simp [zL_I, zL_Q, zNew_L])
  have hB_q48 : q48 ∉ zL T19 := fun h_ => hq_q48 (by simp [zL_I, zL_Q, zNew_L, h_])
  have hx_q48 : q48 ≠ x0 := fun e_ => hB_q48 (e_.symm ▸ hL_prev)
  have hy_q48 : q48 ≠ q1 := fun e_ => hB_q48 (e_.symm ▸ hLy)
  obtain ⟨T20, eT20⟩ : ∃ z_, z_ = (zsR (zsI (zsI (zsI (zsQ (zNew (zNew T19 q45 7 0) q48 14 160) 700 q45 (some q48)) 701 q45 0) 702 q45 (-1)) 703 q45 (-1)) q1 (va_up (zR (zsI (zsI (zsI (zsQ (zNew (zNew T19 q45 7 0) q48 14 160) 700 q45 (some q48)) 701 q45 0) 702 q45 (-1)) 703 q45 (-1)) q1) (6 : Int32).toNatClampNeg (some q45))) := ⟨_, rfl⟩
  rw [← eT20] at hw
  have E20 : zGE 2000 2000 6 x0 q1 T19 T20 := by rw [eT20]; exact zGE_Ry (zGE_I (zGE_I (zGE_I (zGE_Q (zGE_new (zGE_new (zGE_rf hL_prev) hq_q45 (Or.inr hy_q45)) hq_q48 (Or.inr hy_q48)) hB_q45 hx_q45) hB_q45 hx_q45) hB_q45 hx_q45) hB_q45 hx_q45) (by decide)
  have hk : zK T20 x0 = 11 := E20.2.1.trans hk019
  have hk020 := hk
  have hL : x0 ∈ zL T20 := E20.1
  have L_q45 : q45 ∈ zL T20 := by rw [eT20]; simp [zQ, zI, zK, zN, zA, zR, zL, zsQ, zsI, zsR, zNew, zu2, va_up, hd_q45_q48, hd_q45_q48.symm, hx_q45, hx_q45.symm, hx_q48, hx_q48.symm]
  have K_q45 : zK T20 q45 = 7 := by rw [eT20]; simp [zQ, zI, zK, zN, zA, zR, zL, zsQ, zsI, zsR, zNew, zu2, va_up, hd_q45_q48, hd_q45_q48.symm, hx_q45, hx_q45.symm, hx_q48, hx_q48.symm]
  have N_q45 : zN T20 q45 = 0 := by rw [eT20]; simp [zQ, zI, zK, zN, zA, zR, zL, zsQ, zsI, zsR, zNew, zu2, va_up, hd_q45_q48, hd_q45_q48.symm, hx_q45, hx_q45.symm, hx_q48, hx_q48.symm]
  have L_q48 : q48 ∈ zL T20 := by rw [eT20]; simp [zQ, zI, zK, zN, zA, zR, zL, zsQ, zsI, zsR, zNew, zu2, va_up, hd_q45_q48, hd_q45_q48.symm, hx_q45, hx_q45.symm, hx_q48, hx_q48.symm]
  have K_q48 : zK T20 q48 = 14 := by rw [eT20]; simp [zQ, zI, zK, zN, zA, zR, zL, zsQ, zsI, zsR, zNew, zu2, va_up, hd_q45_q48, hd_q45_q48.symm, hx_q45, hx_q45.symm, hx_q48, hx_q48.symm]
  have N_q48 : zN T20 q48 = 160 := by rw [eT20]; simp [zQ, zI, zK, zN, zA, zR, zL, zsQ, zsI, zsR, zNew, zu2, va_up, hd_q45_q48, hd_q45_q48.symm, hx_q45, hx_q45.symm, hx_q48, hx_q48.symm]
  have Z_q45 : zL T20 = zL T19 ++ [q45, q48] := by rw [eT20]; simp [zQ, zI, zK, zN, zA, zR, zL, zsQ, zsI, zsR, zNew, zu2, va_up, hd_q45_q48, hd_q45_q48.symm, hx_q45, hx_q45.symm, hx_q48, hx_q48.symm]
  have Y_6 : zR T20 q1 6 = some q45 := by rw [eT20]; simp [zQ, zI, zK, zN, zA, zR, zL, zsQ, zsI, zsR, zNew, zu2, va_up, hd_q45_q48, hd_q45_q48.symm, hx_q45, hx_q45.symm, hx_q48, hx_q48.symm]
  have Y7_6 : zQ T20 700 q45 = some q48 := by rw [eT20]; simp [zQ, zI, zK, zN, zA, zR, zL, zsQ, zsI, zsR, zNew, zu2, va_up, hd_q45_q48, hd_q45_q48.symm, hx_q45, hx_q45.symm, hx_q48, hx_q48.symm]
  have Y1_6 : zI T20 701 q45 = 0 := by rw [eT20]; simp [zQ, zI, zK, zN, zA, zR, zL, zsQ, zsI, zsR, zNew, zu2, va_up, hd_q45_q48, hd_q45_q48.symm, hx_q45, hx_q45.symm, hx_q48, hx_q48.symm]
  have Y2_6 : zI T20 702 q45 = (-1) := by rw [eT20]; simp [zQ, zI, zK, zN, zA, zR, zL, zsQ, zsI, zsR, zNew, zu2, va_up, hd_q45_q48, hd_q45_q48.symm, hx_q45, hx_q45.symm, hx_q48, hx_q48.symm]
  have Y3_6 : zI T20 703 q45 = (-1) := by rw [eT20]; simp [zQ, zI, zK, zN, zA, zR, zL, zsQ, zsI, zsR, zNew, zu2, va_up, hd_q45_q48, hd_q45_q48.symm, hx_q45, hx_q45.symm, hx_q48, hx_q48.symm]
  have hL_prev := hL
  have hKy : zK T20 q1 = 15 := (E20.2.2.2.2.2 q1 hLy hyx).2.1.trans hKy
  have hNy : zN T20 q1 = 8 := (E20.2.2.2.2.2 q1 hLy hyx).2.2.1.trans hNy
  have hLy : q1 ∈ zL T20 := (E20.2.2.2.2.2 q1 hLy hyx).1
  have hPy : zQ T20 1100 x0 = some q1 := (E20.2.2.1 1100 (by decide)).trans hPy
  refine lv_iinc (v := 7) (lv' := [(1, .int 7), (0, .ref x0)]) hx hb_ dX11_init_131 hl (k := 0) rfl (by decide) (by decide) rfl (fun ls hl => ?_)
  refine lv_goto (tgt := 112) hx hb_ dX11_init_134 (by decide) ?_
  refine lv_iload_n hx hb_ dX11_init_112 rfl (lv_at hl 0 rfl) ?_
  refine lv_bipush (v := 8) hx hb_ dX11_init_113 (by decide) ?_
  refine lv_icmp_ge (tgt := 137) hx hb_ dX11_init_115 (by decide) (fun c_115 => absurd c_115 (by decide)) (fun _ => ?_)
  refine lv_aload_n hx hb_ dX11_init_118 rfl (lv_at hl 1 rfl) ?_
  refine z_get (k := 11) (i := 0) (j := 1100) (v := .ref q1) (ref := "FoldedInHalf") (C := RX11) (T := TX11) (N := 13) hcf hK_ hw hin11 hL hk rfl (by decide) (by decide) rfl rfl (congrArg va_rf hPy) (List.mem_of_getElem? (i := 5) rfl) (fun _ h_ => h_) dX11_init_119 ?_
  refine lv_iload_n hx hb_ dX11_init_122 rfl (lv_at hl 0 rfl) ?_
  refine z_new (k := 7) tyX7 hcf hK_ hw hA hin7 tyX7_ok (List.mem_of_getElem? (i := 4) rfl) (List.mem_of_getElem? (i := 26) rfl) (List.mem_of_getElem? (i := 27) rfl) rfl (by decide) zdf7 (Nat.le_of_ble_eq_true rfl) (Nat.le_of_ble_eq_true rfl) dX11_init_123 (fun q49 H_ hq_q49 hw => ?_)
  have hne_x0_q49 : x0 ≠ q49 := fun e_ => hq_q49 (e_ ▸ hL)
  have hk : zK (zNew T20 q49 7 0) x0 = 11 := (va_up_ne _ _ hne_x0_q49).trans hk
  have hL : x0 ∈ zL (zNew T20 q49 7 0) := List.mem_append_left _ hL
  have hL_q49 : q49 ∈ zL (zNew T20 q49 7 0) := zNew_m
  have hk_q49 : zK (zNew T20 q49 7 0) q49 = 7 := zNew_K
  have hn_q49 : zN (zNew T20 q49 7 0) q49 = 0 := zNew_N
  refine lv_dup hx hb_ dX11_init_126 rfl ?_
  refine z_kv hw hA (va_runIN (As := []) (rest := [.ref q49, .int 7, .ref q1]) hcf (c_X7_init l cD cy _ (zNew T20 q49 7 0) q49 hL_q49 hk_q49) ⟨va_cnB 0 hts gX11_init_X7_init_n64 rfl rfl rfl (nw_M_FoldedInHalf_64 hE) (hts (.initialized RX7) (by decide +kernel)) (by decide +kernel) ⟨Nat.le_of_ble_eq_true rfl, Nat.le_of_ble_eq_true rfl⟩, rfl, hts (.instanceMethod yX7_init) (by decide +kernel)⟩ (z_preS hK_ hE hw) rfl rfl hl.1 rfl (lv_room (Nat.le_of_ble_eq_true rfl)) dX11_init_127 ⟨Nat.le_of_ble_eq_true rfl, Nat.le_of_ble_eq_true rfl⟩) (fun S51 H_ locs_ hp hw => ?_)
  obtain ⟨q52, hq_q52, rfl⟩ := hp
  have hne_x0_q52 : x0 ≠ q52 := fun e_ => hq_q52 (e_ ▸ hL)
  have hk : zK (zNew (zNew T20 q49 7 0) q52 14 160) x0 = 11 := (va_up_ne _ _ hne_x0_q52).trans hk
  have hL : x0 ∈ zL (zNew (zNew T20 q49 7 0) q52 14 160) := List.mem_append_left _ hL
  refine z_past (n := 8) hcf hK_ hw hLy hKy hNy hL_q49 hk_q49 (by decide) dX11_init_130 (fun H_ locs_ hw => ?_)
  have hB_q49 := hq_q49
  have hx_q49 : q49 ≠ x0 := fun e_ => hB_q49 (e_.symm ▸ hL_prev)
  have hy_q49 : q49 ≠ q1 := fun e_ => hB_q49 (e_.symm ▸ hLy)
  have hd_q49_q52 : q49 ≠ q52 := fun e_ => hq_q52 (by rw [← e_]; simp [zL_I, zL_Q, zNew_L])
  have hB_q52 : q52 ∉ zL T20 := fun h_ => hq_q52 (by simp [zL_I, zL_Q, zNew_L, h_])
  have hx_q52 : q52 ≠ x0 := fun e_ => hB_q52 (e_.symm ▸ hL_prev)
  have hy_q52 : q52 ≠ q1 := fun e_ => hB_q52 (e_.symm ▸ hLy)
  obtain ⟨T21, eT21⟩ : ∃ z_, z_ = (zsR (zsI (zsI (zsI (zsQ (zNew (zNew T20 q49 7 0) q52 14 160) 700 q49 (some q52)) 701 q49 0) 702 q49 (-1)) 703 q49 (-1)) q1 (va_up (zR (zsI (zsI (zsI (zsQ (zNew (zNew T20 q49 7 0) q52 14 160) 700 q49 (some q52)) 701 q49 0) 702 q49 (-1)) 703 q49 (-1)) q1) (7 : Int32).toNatClampNeg (some q49))) := ⟨_, rfl⟩
  rw [← eT21] at hw
  have E21 : zGE 2000 2000 7 x0 q1 T20 T21 := by rw [eT21]; exact zGE_Ry (zGE_I (zGE_I (zGE_I (zGE_Q (zGE_new (zGE_new (zGE_rf hL_prev) hq_q49 (Or.inr hy_q49)) hq_q52 (Or.inr hy_q52)) hB_q49 hx_q49) hB_q49 hx_q49) hB_q49 hx_q49) hB_q49 hx_q49) (by decide)
  have hk : zK T21 x0 = 11 := E21.2.1.trans hk020
  have hk021 := hk
  have hL : x0 ∈ zL T21 := E21.1
  have L_q49 : q49 ∈ zL T21 := by rw [eT21]; simp [zQ, zI, zK, zN, zA, zR, zL, zsQ, zsI, zsR, zNew, zu2, va_up, hd_q49_q52, hd_q49_q52.symm, hx_q49, hx_q49.symm, hx_q52, hx_q52.symm]
  have K_q49 : zK T21 q49 = 7 := by rw [eT21]; simp [zQ, zI, zK, zN, zA, zR, zL, zsQ, zsI, zsR, zNew, zu2, va_up, hd_q49_q52, hd_q49_q52.symm, hx_q49, hx_q49.symm, hx_q52, hx_q52.symm]
  have N_q49 : zN T21 q49 = 0 := by rw [eT21]; simp [zQ, zI, zK, zN, zA, zR, zL, zsQ, zsI, zsR, zNew, zu2, va_up, hd_q49_q52, hd_q49_q52.symm, hx_q49, hx_q49.symm, hx_q52, hx_q52.symm]
  have L_q52 : q52 ∈ zL T21 := by rw [eT21]; simp [zQ, zI, zK, zN, zA, zR, zL, zsQ, zsI, zsR, zNew, zu2, va_up, hd_q49_q52, hd_q49_q52.symm, hx_q49, hx_q49.symm, hx_q52, hx_q52.symm]
  have K_q52 : zK T21 q52 = 14 := by rw [eT21]; simp [zQ, zI, zK, zN, zA, zR, zL, zsQ, zsI, zsR, zNew, zu2, va_up, hd_q49_q52, hd_q49_q52.symm, hx_q49, hx_q49.symm, hx_q52, hx_q52.symm]
  have N_q52 : zN T21 q52 = 160 := by rw [eT21]; simp [zQ, zI, zK, zN, zA, zR, zL, zsQ, zsI, zsR, zNew, zu2, va_up, hd_q49_q52, hd_q49_q52.symm, hx_q49, hx_q49.symm, hx_q52, hx_q52.symm]
  have Z_q49 : zL T21 = zL T20 ++ [q49, q52] := by rw [eT21]; simp [zQ, zI, zK, zN, zA, zR, zL, zsQ, zsI, zsR, zNew, zu2, va_up, hd_q49_q52, hd_q49_q52.symm, hx_q49, hx_q49.symm, hx_q52, hx_q52.symm]
  have Y_7 : zR T21 q1 7 = some q49 := by rw [eT21]; simp [zQ, zI, zK, zN, zA, zR, zL, zsQ, zsI, zsR, zNew, zu2, va_up, hd_q49_q52, hd_q49_q52.symm, hx_q49, hx_q49.symm, hx_q52, hx_q52.symm]
  have Y7_7 : zQ T21 700 q49 = some q52 := by rw [eT21]; simp [zQ, zI, zK, zN, zA, zR, zL, zsQ, zsI, zsR, zNew, zu2, va_up, hd_q49_q52, hd_q49_q52.symm, hx_q49, hx_q49.symm, hx_q52, hx_q52.symm]
  have Y1_7 : zI T21 701 q49 = 0 := by rw [eT21]; simp [zQ, zI, zK, zN, zA, zR, zL, zsQ, zsI, zsR, zNew, zu2, va_up, hd_q49_q52, hd_q49_q52.symm, hx_q49, hx_q49.symm, hx_q52, hx_q52.symm]
  have Y2_7 : zI T21 702 q49 = (-1) := by rw [eT21]; simp [zQ, zI, zK, zN, zA, zR, zL, zsQ, zsI, zsR, zNew, zu2, va_up, hd_q49_q52, hd_q49_q52.symm, hx_q49, hx_q49.symm, hx_q52, hx_q52.symm]
  have Y3_7 : zI T21 703 q49 = (-1) := by rw [eT21]; simp [zQ, zI, zK, zN, zA, zR, zL, zsQ, zsI, zsR, zNew, zu2, va_up, hd_q49_q52, hd_q49_q52.symm, hx_q49, hx_q49.symm, hx_q52, hx_q52.symm]
  have hL_prev := hL
  have hKy : zK T21 q1 = 15 := (E21.2.2.2.2.2 q1 hLy hyx).2.1.trans hKy
  have hNy : zN T21 q1 = 8 := (E21.2.2.2.2.2 q1 hLy hyx).2.2.1.trans hNy
  have hLy : q1 ∈ zL T21 := (E21.2.2.2.2.2 q1 hLy hyx).1
  have hPy : zQ T21 1100 x0 = some q1 := (E21.2.2.1 1100 (by decide)).trans hPy
  refine lv_iinc (v := 8) (lv' := [(1, .int 8), (0, .ref x0)]) hx hb_ dX11_init_131 hl (k := 0) rfl (by decide) (by decide) rfl (fun ls hl => ?_)
  refine lv_goto (tgt := 112) hx hb_ dX11_init_134 (by decide) ?_
  refine lv_iload_n hx hb_ dX11_init_112 rfl (lv_at hl 0 rfl) ?_
  refine lv_bipush (v := 8) hx hb_ dX11_init_113 (by decide) ?_
  refine lv_icmp_ge (tgt := 137) hx hb_ dX11_init_115 (by decide) (fun _ => ?_) (fun c_115 => absurd c_115 (by decide))
  have F21 := zGE_rf (m := 3000) (mi := 3000) (ny := 8) (y := q1) hL
  have F20 : zGE 2000 2000 7 x0 q1 T20 T21 := zGE_tr E21 F21 (by decide) (by decide) (by decide)
  have F19 : zGE 2000 2000 6 x0 q1 T19 T21 := zGE_tr E20 F20 (by decide) (by decide) (by decide)
  have F18 : zGE 2000 2000 5 x0 q1 T18 T21 := zGE_tr E19 F19 (by decide) (by decide) (by decide)
  have F17 : zGE 2000 2000 4 x0 q1 T17 T21 := zGE_tr E18 F18 (by decide) (by decide) (by decide)
  have F16 : zGE 2000 2000 3 x0 q1 T16 T21 := zGE_tr E17 F17 (by decide) (by decide) (by decide)
  have F15 : zGE 2000 2000 2 x0 q1 T15 T21 := zGE_tr E16 F16 (by decide) (by decide) (by decide)
  have F14 : zGE 2000 2000 1 x0 q1 T14 T21 := zGE_tr E15 F15 (by decide) (by decide) (by decide)
  have F13 : zGE 2000 2000 0 x0 q1 T13 T21 := zGE_tr E14 F14 (by decide) (by decide) (by decide)
  have F12 : zGE 1112 1112 0 x0 q1 T12 T21 := zGE_tr E13 F13 (by decide) (by decide) (by decide)
  have F11 : zGE 1111 1111 0 x0 q1 T11 T21 := zGE_tr E12 F12 (by decide) (by decide) (by decide)
  have F10 : zGE 1110 1110 0 x0 q1 T10 T21 := zGE_tr E11 F11 (by decide) (by decide) (by decide)
  have F9 : zGE 1109 1109 0 x0 q1 T9 T21 := zGE_tr E10 F10 (by decide) (by decide) (by decide)
  have F8 : zGE 1108 1108 0 x0 q1 T8 T21 := zGE_tr E9 F9 (by decide) (by decide) (by decide)
  have F7 : zGE 1107 1107 0 x0 q1 T7 T21 := zGE_tr E8 F8 (by decide) (by decide) (by decide)
  have F6 : zGE 1106 1106 0 x0 q1 T6 T21 := zGE_tr E7 F7 (by decide) (by decide) (by decide)
  have F5 : zGE 1105 1105 0 x0 q1 T5 T21 := zGE_tr E6 F6 (by decide) (by decide) (by decide)
  have F4 : zGE 1104 1104 0 x0 q1 T4 T21 := zGE_tr E5 F5 (by decide) (by decide) (by decide)
  have F3 : zGE 1103 1103 0 x0 q1 T3 T21 := zGE_tr E4 F4 (by decide) (by decide) (by decide)
  have F2 : zGE 1102 1102 0 x0 q1 T2 T21 := zGE_tr E3 F3 (by decide) (by decide) (by decide)
  have F1 : zGE 1101 1101 0 x0 q1 T1 T21 := zGE_tr E2 F2 (by decide) (by decide) (by decide)
  have G_q1 := F1.2.2.2.2.2 q1 L_q1 hx_q1
  have G_q2 := F2.2.2.2.2.2 q2 L_q2 hx_q2
  have G_q3 := F3.2.2.2.2.2 q3 L_q3 hx_q3
  have G_q4 := F4.2.2.2.2.2 q4 L_q4 hx_q4
  have G_q5 := F5.2.2.2.2.2 q5 L_q5 hx_q5
  have G_q6 := F6.2.2.2.2.2 q6 L_q6 hx_q6
  have G_q7 := F7.2.2.2.2.2 q7 L_q7 hx_q7
  have G_q8 := F8.2.2.2.2.2 q8 L_q8 hx_q8
  have G_q9 := F9.2.2.2.2.2 q9 L_q9 hx_q9
  have G_q12 := F9.2.2.2.2.2 q12 L_q12 hx_q12
  have G_q13 := F10.2.2.2.2.2 q13 L_q13 hx_q13
  have G_q16 := F10.2.2.2.2.2 q16 L_q16 hx_q16
  have G_q17 := F10.2.2.2.2.2 q17 L_q17 hx_q17
  have G_q18 := F10.2.2.2.2.2 q18 L_q18 hx_q18
  have G_q19 := F10.2.2.2.2.2 q19 L_q19 hx_q19
  have G_q20 := F10.2.2.2.2.2 q20 L_q20 hx_q20
  have G_q21 := F14.2.2.2.2.2 q21 L_q21 hx_q21
  have G_q24 := F14.2.2.2.2.2 q24 L_q24 hx_q24
  have G_q25 := F15.2.2.2.2.2 q25 L_q25 hx_q25
  have G_q28 := F15.2.2.2.2.2 q28 L_q28 hx_q28
  have G_q29 := F16.2.2.2.2.2 q29 L_q29 hx_q29
  have G_q32 := F16.2.2.2.2.2 q32 L_q32 hx_q32
  have G_q33 := F17.2.2.2.2.2 q33 L_q33 hx_q33
  have G_q36 := F17.2.2.2.2.2 q36 L_q36 hx_q36
  have G_q37 := F18.2.2.2.2.2 q37 L_q37 hx_q37
  have G_q40 := F18.2.2.2.2.2 q40 L_q40 hx_q40
  have G_q41 := F19.2.2.2.2.2 q41 L_q41 hx_q41
  have G_q44 := F19.2.2.2.2.2 q44 L_q44 hx_q44
  have G_q45 := F20.2.2.2.2.2 q45 L_q45 hx_q45
  have G_q48 := F20.2.2.2.2.2 q48 L_q48 hx_q48
  have G_q49 := F21.2.2.2.2.2 q49 L_q49 hx_q49
  have G_q52 := F21.2.2.2.2.2 q52 L_q52 hx_q52
  have hZ : zL T21 = [x0, q1, q2, q3, q4, q5, q6, q7, q8, q9, q12, q13, q16, q17, q18, q19, q20, q21, q24, q25, q28, q29, q32, q33, q36, q37, q40, q41, q44, q45, q48, q49, q52] := by rw [Z_q49, Z_q45, Z_q41, Z_q37, Z_q33, Z_q29, Z_q25, Z_q21, show zL T13 = zL T12 by rw [eT13]; rfl, show zL T12 = zL T11 by rw [eT12]; rfl, show zL T11 = zL T10 by rw [eT11]; rfl, Z_q13, Z_q9, Z_q8, Z_q7, Z_q6, Z_q5, Z_q4, Z_q3, Z_q2, Z_q1, hS0]; rfl
  obtain ⟨r_, hr0, hr1, hr2, hr3, hr4, hr5, hr6, hr7, hr8, hr9, hr10, hr11, hr12, hr13, hr14, hr15, hr16, hr17, hr18, hr19, hr20, hr21, hr22, hr23, hr24, hr25, hr26, hr27, hr28, hr29, hr30, hr31, hr32, hri⟩ : ∃ r_ : Nat → Nat, r_ 0 = x0 ∧ r_ 1 = q1 ∧ r_ 2 = q2 ∧ r_ 3 = q3 ∧ r_ 4 = q4 ∧ r_ 5 = q5 ∧ r_ 6 = q6 ∧ r_ 7 = q7 ∧ r_ 8 = q8 ∧ r_ 9 = q9 ∧ r_ 10 = q13 ∧ r_ 11 = q12 ∧ r_ 12 = q16 ∧ r_ 13 = q17 ∧ r_ 14 = q18 ∧ r_ 15 = q19 ∧ r_ 16 = q20 ∧ r_ 17 = q21 ∧ r_ 18 = q25 ∧ r_ 19 = q29 ∧ r_ 20 = q33 ∧ r_ 21 = q37 ∧ r_ 22 = q41 ∧ r_ 23 = q45 ∧ r_ 24 = q49 ∧ r_ 25 = q24 ∧ r_ 26 = q28 ∧ r_ 27 = q32 ∧ r_ 28 = q36 ∧ r_ 29 = q40 ∧ r_ 30 = q44 ∧ r_ 31 = q48 ∧ r_ 32 = q52 ∧ (∀ i_ j_, i_ < 33 → j_ < 33 → r_ i_ = r_ j_ → i_ = j_) := ⟨fun i_ => [x0, q1, q2, q3, q4, q5, q6, q7, q8, q9, q12, q13, q16, q17, q18, q19, q20, q21, q24, q25, q28, q29, q32, q33, q36, q37, q40, q41, q44, q45, q48, q49, q52].getD ([0, 1, 2, 3, 4, 5, 6, 7, 8, 9, 11, 10, 12, 13, 14, 15, 16, 17, 19, 21, 23, 25, 27, 29, 31, 18, 20, 22, 24, 26, 28, 30, 32].getD i_ 0) 0, rfl, rfl, rfl, rfl, rfl, rfl, rfl, rfl, rfl, rfl, rfl, rfl, rfl, rfl, rfl, rfl, rfl, rfl, rfl, rfl, rfl, rfl, rfl, rfl, rfl, rfl, rfl, rfl, rfl, rfl, rfl, rfl, rfl, zr_inj2 hw.2.1 hZ [0, 1, 2, 3, 4, 5, 6, 7, 8, 9, 11, 10, 12, 13, 14, 15, 16, 17, 19, 21, 23, 25, 27, 29, 31, 18, 20, 22, 24, 26, 28, 30, 32] (by decide +kernel) (by decide +kernel)⟩
  have C0 : r_ 0 ∈ zL T21 ∧ zK T21 (r_ 0) = cKD 0 ∧ (12 < cKD 0 → zN T21 (r_ 0) = cLN 0) := by rw [hr0]; exact ⟨hL, hk, fun n_ => absurd n_ (by decide)⟩
  have C1 : r_ 1 ∈ zL T21 ∧ zK T21 (r_ 1) = cKD 1 ∧ (12 < cKD 1 → zN T21 (r_ 1) = cLN 1) := by rw [hr1]; exact ⟨G_q1.1, G_q1.2.1.trans K_q1, fun _ => G_q1.2.2.1.trans N_q1⟩
  have C2 : r_ 2 ∈ zL T21 ∧ zK T21 (r_ 2) = cKD 2 ∧ (12 < cKD 2 → zN T21 (r_ 2) = cLN 2) := by rw [hr2]; exact ⟨G_q2.1, G_q2.2.1.trans K_q2, fun _ => G_q2.2.2.1.trans N_q2⟩
  have C3 : r_ 3 ∈ zL T21 ∧ zK T21 (r_ 3) = cKD 3 ∧ (12 < cKD 3 → zN T21 (r_ 3) = cLN 3) := by rw [hr3]; exact ⟨G_q3.1, G_q3.2.1.trans K_q3, fun _ => G_q3.2.2.1.trans N_q3⟩
  have C4 : r_ 4 ∈ zL T21 ∧ zK T21 (r_ 4) = cKD 4 ∧ (12 < cKD 4 → zN T21 (r_ 4) = cLN 4) := by rw [hr4]; exact ⟨G_q4.1, G_q4.2.1.trans K_q4, fun _ => G_q4.2.2.1.trans N_q4⟩
  have C5 : r_ 5 ∈ zL T21 ∧ zK T21 (r_ 5) = cKD 5 ∧ (12 < cKD 5 → zN T21 (r_ 5) = cLN 5) := by rw [hr5]; exact ⟨G_q5.1, G_q5.2.1.trans K_q5, fun _ => G_q5.2.2.1.trans N_q5⟩
  have C6 : r_ 6 ∈ zL T21 ∧ zK T21 (r_ 6) = cKD 6 ∧ (12 < cKD 6 → zN T21 (r_ 6) = cLN 6) := by rw [hr6]; exact ⟨G_q6.1, G_q6.2.1.trans K_q6, fun _ => G_q6.2.2.1.trans N_q6⟩
  have C7 : r_ 7 ∈ zL T21 ∧ zK T21 (r_ 7) = cKD 7 ∧ (12 < cKD 7 → zN T21 (r_ 7) = cLN 7) := by rw [hr7]; exact ⟨G_q7.1, G_q7.2.1.trans K_q7, fun _ => G_q7.2.2.1.trans N_q7⟩
  have C8 : r_ 8 ∈ zL T21 ∧ zK T21 (r_ 8) = cKD 8 ∧ (12 < cKD 8 → zN T21 (r_ 8) = cLN 8) := by rw [hr8]; exact ⟨G_q8.1, G_q8.2.1.trans K_q8, fun _ => G_q8.2.2.1.trans N_q8⟩
  have C9 : r_ 9 ∈ zL T21 ∧ zK T21 (r_ 9) = cKD 9 ∧ (12 < cKD 9 → zN T21 (r_ 9) = cLN 9) := by rw [hr9]; exact ⟨G_q9.1, G_q9.2.1.trans K_q9, fun _ => G_q9.2.2.1.trans N_q9⟩
  have C10 : r_ 10 ∈ zL T21 ∧ zK T21 (r_ 10) = cKD 10 ∧ (12 < cKD 10 → zN T21 (r_ 10) = cLN 10) := by rw [hr10]; exact ⟨G_q13.1, G_q13.2.1.trans K_q13, fun _ => G_q13.2.2.1.trans N_q13⟩
  have C11 : r_ 11 ∈ zL T21 ∧ zK T21 (r_ 11) = cKD 11 ∧ (12 < cKD 11 → zN T21 (r_ 11) = cLN 11) := by rw [hr11]; exact ⟨G_q12.1, G_q12.2.1.trans K_q12, fun _ => G_q12.2.2.1.trans N_q12⟩
  have C12 : r_ 12 ∈ zL T21 ∧ zK T21 (r_ 12) = cKD 12 ∧ (12 < cKD 12 → zN T21 (r_ 12) = cLN 12) := by rw [hr12]; exact ⟨G_q16.1, G_q16.2.1.trans K_q16, fun _ => G_q16.2.2.1.trans N_q16⟩
  have C13 : r_ 13 ∈ zL T21 ∧ zK T21 (r_ 13) = cKD 13 ∧ (12 < cKD 13 → zN T21 (r_ 13) = cLN 13) := by rw [hr13]; exact ⟨G_q17.1, G_q17.2.1.trans K_q17, fun _ => G_q17.2.2.1.trans N_q17⟩
  have C14 : r_ 14 ∈ zL T21 ∧ zK T21 (r_ 14) = cKD 14 ∧ (12 < cKD 14 → zN T21 (r_ 14) = cLN 14) := by rw [hr14]; exact ⟨G_q18.1, G_q18.2.1.trans K_q18, fun _ => G_q18.2.2.1.trans N_q18⟩
  have C15 : r_ 15 ∈ zL T21 ∧ zK T21 (r_ 15) = cKD 15 ∧ (12 < cKD 15 → zN T21 (r_ 15) = cLN 15) := by rw [hr15]; exact ⟨G_q19.1, G_q19.2.1.trans K_q19, fun _ => G_q19.2.2.1.trans N_q19⟩
  have C16 : r_ 16 ∈ zL T21 ∧ zK T21 (r_ 16) = cKD 16 ∧ (12 < cKD 16 → zN T21 (r_ 16) = cLN 16) := by rw [hr16]; exact ⟨G_q20.1, G_q20.2.1.trans K_q20, fun _ => G_q20.2.2.1.trans N_q20⟩
  have C17 : r_ 17 ∈ zL T21 ∧ zK T21 (r_ 17) = cKD 17 ∧ (12 < cKD 17 → zN T21 (r_ 17) = cLN 17) := by rw [hr17]; exact ⟨G_q21.1, G_q21.2.1.trans K_q21, fun _ => G_q21.2.2.1.trans N_q21⟩
  have C18 : r_ 18 ∈ zL T21 ∧ zK T21 (r_ 18) = cKD 18 ∧ (12 < cKD 18 → zN T21 (r_ 18) = cLN 18) := by rw [hr18]; exact ⟨G_q25.1, G_q25.2.1.trans K_q25, fun _ => G_q25.2.2.1.trans N_q25⟩
  have C19 : r_ 19 ∈ zL T21 ∧ zK T21 (r_ 19) = cKD 19 ∧ (12 < cKD 19 → zN T21 (r_ 19) = cLN 19) := by rw [hr19]; exact ⟨G_q29.1, G_q29.2.1.trans K_q29, fun _ => G_q29.2.2.1.trans N_q29⟩
  have C20 : r_ 20 ∈ zL T21 ∧ zK T21 (r_ 20) = cKD 20 ∧ (12 < cKD 20 → zN T21 (r_ 20) = cLN 20) := by rw [hr20]; exact ⟨G_q33.1, G_q33.2.1.trans K_q33, fun _ => G_q33.2.2.1.trans N_q33⟩
  have C21 : r_ 21 ∈ zL T21 ∧ zK T21 (r_ 21) = cKD 21 ∧ (12 < cKD 21 → zN T21 (r_ 21) = cLN 21) := by rw [hr21]; exact ⟨G_q37.1, G_q37.2.1.trans K_q37, fun _ => G_q37.2.2.1.trans N_q37⟩
  have C22 : r_ 22 ∈ zL T21 ∧ zK T21 (r_ 22) = cKD 22 ∧ (12 < cKD 22 → zN T21 (r_ 22) = cLN 22) := by rw [hr22]; exact ⟨G_q41.1, G_q41.2.1.trans K_q41, fun _ => G_q41.2.2.1.trans N_q41⟩
  have C23 : r_ 23 ∈ zL T21 ∧ zK T21 (r_ 23) = cKD 23 ∧ (12 < cKD 23 → zN T21 (r_ 23) = cLN 23) := by rw [hr23]; exact ⟨G_q45.1, G_q45.2.1.trans K_q45, fun _ => G_q45.2.2.1.trans N_q45⟩
  have C24 : r_ 24 ∈ zL T21 ∧ zK T21 (r_ 24) = cKD 24 ∧ (12 < cKD 24 → zN T21 (r_ 24) = cLN 24) := by rw [hr24]; exact ⟨G_q49.1, G_q49.2.1.trans K_q49, fun _ => G_q49.2.2.1.trans N_q49⟩
  have C25 : r_ 25 ∈ zL T21 ∧ zK T21 (r_ 25) = cKD 25 ∧ (12 < cKD 25 → zN T21 (r_ 25) = cLN 25) := by rw [hr25]; exact ⟨G_q24.1, G_q24.2.1.trans K_q24, fun _ => G_q24.2.2.1.trans N_q24⟩
  have C26 : r_ 26 ∈ zL T21 ∧ zK T21 (r_ 26) = cKD 26 ∧ (12 < cKD 26 → zN T21 (r_ 26) = cLN 26) := by rw [hr26]; exact ⟨G_q28.1, G_q28.2.1.trans K_q28, fun _ => G_q28.2.2.1.trans N_q28⟩
  have C27 : r_ 27 ∈ zL T21 ∧ zK T21 (r_ 27) = cKD 27 ∧ (12 < cKD 27 → zN T21 (r_ 27) = cLN 27) := by rw [hr27]; exact ⟨G_q32.1, G_q32.2.1.trans K_q32, fun _ => G_q32.2.2.1.trans N_q32⟩
  have C28 : r_ 28 ∈ zL T21 ∧ zK T21 (r_ 28) = cKD 28 ∧ (12 < cKD 28 → zN T21 (r_ 28) = cLN 28) := by rw [hr28]; exact ⟨G_q36.1, G_q36.2.1.trans K_q36, fun _ => G_q36.2.2.1.trans N_q36⟩
  have C29 : r_ 29 ∈ zL T21 ∧ zK T21 (r_ 29) = cKD 29 ∧ (12 < cKD 29 → zN T21 (r_ 29) = cLN 29) := by rw [hr29]; exact ⟨G_q40.1, G_q40.2.1.trans K_q40, fun _ => G_q40.2.2.1.trans N_q40⟩
  have C30 : r_ 30 ∈ zL T21 ∧ zK T21 (r_ 30) = cKD 30 ∧ (12 < cKD 30 → zN T21 (r_ 30) = cLN 30) := by rw [hr30]; exact ⟨G_q44.1, G_q44.2.1.trans K_q44, fun _ => G_q44.2.2.1.trans N_q44⟩
  have C31 : r_ 31 ∈ zL T21 ∧ zK T21 (r_ 31) = cKD 31 ∧ (12 < cKD 31 → zN T21 (r_ 31) = cLN 31) := by rw [hr31]; exact ⟨G_q48.1, G_q48.2.1.trans K_q48, fun _ => G_q48.2.2.1.trans N_q48⟩
  have C32 : r_ 32 ∈ zL T21 ∧ zK T21 (r_ 32) = cKD 32 ∧ (12 < cKD 32 → zN T21 (r_ 32) = cLN 32) := by rw [hr32]; exact ⟨G_q52.1, G_q52.2.1.trans K_q52, fun _ => G_q52.2.2.1.trans N_q52⟩
  have h2 : ∀ i_, i_ < 33 → r_ i_ ∈ zL T21 ∧ zK T21 (r_ i_) = cKD i_ ∧ (12 < cKD i_ → zN T21 (r_ i_) = cLN i_) := fun i_ hi_ => by
    rcases (show i_ = 0 ∨ i_ = 1 ∨ i_ = 2 ∨ i_ = 3 ∨ i_ = 4 ∨ i_ = 5 ∨ i_ = 6 ∨ i_ = 7 ∨ i_ = 8 ∨ i_ = 9 ∨ i_ = 10 ∨ i_ = 11 ∨ i_ = 12 ∨ i_ = 13 ∨ i_ = 14 ∨ i_ = 15 ∨ i_ = 16 ∨ i_ = 17 ∨ i_ = 18 ∨ i_ = 19 ∨ i_ = 20 ∨ i_ = 21 ∨ i_ = 22 ∨ i_ = 23 ∨ i_ = 24 ∨ i_ = 25 ∨ i_ = 26 ∨ i_ = 27 ∨ i_ = 28 ∨ i_ = 29 ∨ i_ = 30 ∨ i_ = 31 ∨ i_ = 32 by omega) with rfl | rfl | rfl | rfl | rfl | rfl | rfl | rfl | rfl | rfl | rfl | rfl | rfl | rfl | rfl | rfl | rfl | rfl | rfl | rfl | rfl | rfl | rfl | rfl | rfl | rfl | rfl | rfl | rfl | rfl | rfl | rfl | rfl
    · exact C0
    · exact C1
    · exact C2
    · exact C3
    · exact C4
    · exact C5
    · exact C6
    · exact C7
    · exact C8
    · exact C9
    · exact C10
    · exact C11
    · exact C12
    · exact C13
    · exact C14
    · exact C15
    · exact C16
    · exact C17
    · exact C18
    · exact C19
    · exact C20
    · exact C21
    · exact C22
    · exact C23
    · exact C24
    · exact C25
    · exact C26
    · exact C27
    · exact C28
    · exact C29
    · exact C30
    · exact C31
    · exact C32
  have D0 : zQ T21 1100 (r_ 0) = some (r_ 1) := (by rw [hr0, hr1]; exact (F1.2.2.1 1100 (by decide)).trans P_q1)
  have D1 : zQ T21 1101 (r_ 0) = some (r_ 2) := (by rw [hr0, hr2]; exact (F2.2.2.1 1101 (by decide)).trans P_q2)
  have D2 : zQ T21 1102 (r_ 0) = some (r_ 3) := (by rw [hr0, hr3]; exact (F3.2.2.1 1102 (by decide)).trans P_q3)
  have D3 : zQ T21 1103 (r_ 0) = some (r_ 4) := (by rw [hr0, hr4]; exact (F4.2.2.1 1103 (by decide)).trans P_q4)
  have D4 : zQ T21 1104 (r_ 0) = some (r_ 5) := (by rw [hr0, hr5]; exact (F5.2.2.1 1104 (by decide)).trans P_q5)
  have D5 : zQ T21 1105 (r_ 0) = some (r_ 6) := (by rw [hr0, hr6]; exact (F6.2.2.1 1105 (by decide)).trans P_q6)
  have D6 : zQ T21 1106 (r_ 0) = some (r_ 7) := (by rw [hr0, hr7]; exact (F7.2.2.1 1106 (by decide)).trans P_q7)
  have D7 : zQ T21 1107 (r_ 0) = some (r_ 8) := (by rw [hr0, hr8]; exact (F8.2.2.1 1107 (by decide)).trans P_q8)
  have D8 : zQ T21 1108 (r_ 0) = some (r_ 9) := (by rw [hr0, hr9]; exact (F9.2.2.1 1108 (by decide)).trans P_q9)
  have D9 : zQ T21 1109 (r_ 0) = some (r_ 10) := (by rw [hr0, hr10]; exact (F10.2.2.1 1109 (by decide)).trans P_q13)
  have D10 : zQ T21 500 (r_ 9) = some (r_ 11) := (by rw [hr9, hr11]; exact (G_q9.2.2.2.2.1 500).trans X_500)
  have D11 : zQ T21 300 (r_ 10) = some (r_ 12) := (by rw [hr10, hr12]; exact (G_q13.2.2.2.2.1 300).trans X_300)
  have D12 : zQ T21 301 (r_ 10) = some (r_ 13) := (by rw [hr10, hr13]; exact (G_q13.2.2.2.2.1 301).trans X_301)
  have D13 : zQ T21 302 (r_ 10) = some (r_ 14) := (by rw [hr10, hr14]; exact (G_q13.2.2.2.2.1 302).trans X_302)
  have D14 : zQ T21 303 (r_ 10) = some (r_ 15) := (by rw [hr10, hr15]; exact (G_q13.2.2.2.2.1 303).trans X_303)
  have D15 : zQ T21 304 (r_ 10) = some (r_ 16) := (by rw [hr10, hr16]; exact (G_q13.2.2.2.2.1 304).trans X_304)
  have h3 : ∀ k_, k_ < 16 → ∀ t_, cPT[k_]? = some t_ → zQ T21 t_.1 (r_ t_.2.1) = some (r_ t_.2.2) := fun k_ hk t_ ht => by
    rcases (show k_ = 0 ∨ k_ = 1 ∨ k_ = 2 ∨ k_ = 3 ∨ k_ = 4 ∨ k_ = 5 ∨ k_ = 6 ∨ k_ = 7 ∨ k_ = 8 ∨ k_ = 9 ∨ k_ = 10 ∨ k_ = 11 ∨ k_ = 12 ∨ k_ = 13 ∨ k_ = 14 ∨ k_ = 15 by omega) with rfl | rfl | rfl | rfl | rfl | rfl | rfl | rfl | rfl | rfl | rfl | rfl | rfl | rfl | rfl | rfl <;> cases ht
    · exact D0
    · exact D1
    · exact D2
    · exact D3
    · exact D4
    · exact D5
    · exact D6
    · exact D7
    · exact D8
    · exact D9
    · exact D10
    · exact D11
    · exact D12
    · exact D13
    · exact D14
    · exact D15
  have U0 : zR T21 (r_ 1) 0 = some (r_ 17) ∧ zQ T21 700 (r_ 17) = some (r_ 25) := by rw [hr1, hr17, hr25]; exact ⟨(F14.2.2.2.2.1 0 (by decide)).trans Y_0, (G_q21.2.2.2.2.1 700).trans Y7_0⟩
  have W0 : zI T21 701 (r_ 17) = 0 ∧ zI T21 702 (r_ 17) = -1 ∧ zI T21 703 (r_ 17) = -1 := by rw [hr17]; exact ⟨(G_q21.2.2.2.1 701).trans Y1_0, (G_q21.2.2.2.1 702).trans Y2_0, (G_q21.2.2.2.1 703).trans Y3_0⟩
  have U1 : zR T21 (r_ 1) 1 = some (r_ 18) ∧ zQ T21 700 (r_ 18) = some (r_ 26) := by rw [hr1, hr18, hr26]; exact ⟨(F15.2.2.2.2.1 1 (by decide)).trans Y_1, (G_q25.2.2.2.2.1 700).trans Y7_1⟩
  have W1 : zI T21 701 (r_ 18) = 0 ∧ zI T21 702 (r_ 18) = -1 ∧ zI T21 703 (r_ 18) = -1 := by rw [hr18]; exact ⟨(G_q25.2.2.2.1 701).trans Y1_1, (G_q25.2.2.2.1 702).trans Y2_1, (G_q25.2.2.2.1 703).trans Y3_1⟩
  have U2 : zR T21 (r_ 1) 2 = some (r_ 19) ∧ zQ T21 700 (r_ 19) = some (r_ 27) := by rw [hr1, hr19, hr27]; exact ⟨(F16.2.2.2.2.1 2 (by decide)).trans Y_2, (G_q29.2.2.2.2.1 700).trans Y7_2⟩
  have W2 : zI T21 701 (r_ 19) = 0 ∧ zI T21 702 (r_ 19) = -1 ∧ zI T21 703 (r_ 19) = -1 := by rw [hr19]; exact ⟨(G_q29.2.2.2.1 701).trans Y1_2, (G_q29.2.2.2.1 702).trans Y2_2, (G_q29.2.2.2.1 703).trans Y3_2⟩
  have U3 : zR T21 (r_ 1) 3 = some (r_ 20) ∧ zQ T21 700 (r_ 20) = some (r_ 28) := by rw [hr1, hr20, hr28]; exact ⟨(F17.2.2.2.2.1 3 (by decide)).trans Y_3, (G_q33.2.2.2.2.1 700).trans Y7_3⟩
  have W3 : zI T21 701 (r_ 20) = 0 ∧ zI T21 702 (r_ 20) = -1 ∧ zI T21 703 (r_ 20) = -1 := by rw [hr20]; exact ⟨(G_q33.2.2.2.1 701).trans Y1_3, (G_q33.2.2.2.1 702).trans Y2_3, (G_q33.2.2.2.1 703).trans Y3_3⟩
  have U4 : zR T21 (r_ 1) 4 = some (r_ 21) ∧ zQ T21 700 (r_ 21) = some (r_ 29) := by rw [hr1, hr21, hr29]; exact ⟨(F18.2.2.2.2.1 4 (by decide)).trans Y_4, (G_q37.2.2.2.2.1 700).trans Y7_4⟩
  have W4 : zI T21 701 (r_ 21) = 0 ∧ zI T21 702 (r_ 21) = -1 ∧ zI T21 703 (r_ 21) = -1 := by rw [hr21]; exact ⟨(G_q37.2.2.2.1 701).trans Y1_4, (G_q37.2.2.2.1 702).trans Y2_4, (G_q37.2.2.2.1 703).trans Y3_4⟩
  have U5 : zR T21 (r_ 1) 5 = some (r_ 22) ∧ zQ T21 700 (r_ 22) = some (r_ 30) := by rw [hr1, hr22, hr30]; exact ⟨(F19.2.2.2.2.1 5 (by decide)).trans Y_5, (G_q41.2.2.2.2.1 700).trans Y7_5⟩
  have W5 : zI T21 701 (r_ 22) = 0 ∧ zI T21 702 (r_ 22) = -1 ∧ zI T21 703 (r_ 22) = -1 := by rw [hr22]; exact ⟨(G_q41.2.2.2.1 701).trans Y1_5, (G_q41.2.2.2.1 702).trans Y2_5, (G_q41.2.2.2.1 703).trans Y3_5⟩
  have U6 : zR T21 (r_ 1) 6 = some (r_ 23) ∧ zQ T21 700 (r_ 23) = some (r_ 31) := by rw [hr1, hr23, hr31]; exact ⟨(F20.2.2.2.2.1 6 (by decide)).trans Y_6, (G_q45.2.2.2.2.1 700).trans Y7_6⟩
  have W6 : zI T21 701 (r_ 23) = 0 ∧ zI T21 702 (r_ 23) = -1 ∧ zI T21 703 (r_ 23) = -1 := by rw [hr23]; exact ⟨(G_q45.2.2.2.1 701).trans Y1_6, (G_q45.2.2.2.1 702).trans Y2_6, (G_q45.2.2.2.1 703).trans Y3_6⟩
  have U7 : zR T21 (r_ 1) 7 = some (r_ 24) ∧ zQ T21 700 (r_ 24) = some (r_ 32) := by rw [hr1, hr24, hr32]; exact ⟨(F21.2.2.2.2.1 7 (by decide)).trans Y_7, (G_q49.2.2.2.2.1 700).trans Y7_7⟩
  have W7 : zI T21 701 (r_ 24) = 0 ∧ zI T21 702 (r_ 24) = -1 ∧ zI T21 703 (r_ 24) = -1 := by rw [hr24]; exact ⟨(G_q49.2.2.2.1 701).trans Y1_7, (G_q49.2.2.2.1 702).trans Y2_7, (G_q49.2.2.2.1 703).trans Y3_7⟩
  have h4 : ∀ j_, j_ < 8 → zR T21 (r_ 1) j_ = some (r_ (17 + j_)) ∧ zQ T21 700 (r_ (17 + j_)) = some (r_ (25 + j_)) := fun j_ hj => by
    rcases (show j_ = 0 ∨ j_ = 1 ∨ j_ = 2 ∨ j_ = 3 ∨ j_ = 4 ∨ j_ = 5 ∨ j_ = 6 ∨ j_ = 7 by omega) with rfl | rfl | rfl | rfl | rfl | rfl | rfl | rfl
    · exact U0
    · exact U1
    · exact U2
    · exact U3
    · exact U4
    · exact U5
    · exact U6
    · exact U7
  have h5 : ∀ j_, j_ < 8 → zI T21 701 (r_ (17 + j_)) = 0 ∧ zI T21 702 (r_ (17 + j_)) = -1 ∧ zI T21 703 (r_ (17 + j_)) = -1 := fun j_ hj => by
    rcases (show j_ = 0 ∨ j_ = 1 ∨ j_ = 2 ∨ j_ = 3 ∨ j_ = 4 ∨ j_ = 5 ∨ j_ = 6 ∨ j_ = 7 by omega) with rfl | rfl | rfl | rfl | rfl | rfl | rfl | rfl
    · exact W0
    · exact W1
    · exact W2
    · exact W3
    · exact W4
    · exact W5
    · exact W6
    · exact W7
  exact z_vret hcf hr hlk hw (⟨r_, hr0, ⟨hri, h2, h3, h4⟩, (by rw [hr0]; exact (F11.2.2.2.1 1110 (by decide)).trans V_10), (by rw [hr0]; exact (F12.2.2.2.1 1111 (by decide)).trans V_11), (by rw [hr0]; exact (F13.2.2.2.1 1112 (by decide)).trans V_12), h5, (by rw [hr9]; exact (G_q9.2.2.2.1 503).trans X_503), (by rw [hr10]; exact (G_q13.2.2.2.1 305).trans X_305), (fun i_ => by rw [hr14, G_q18.2.2.2.2.2.1, X_A]), (fun i_ => by rw [hr4, G_q4.2.2.2.2.2.1, X_R]), (fun i_ => by rw [hr2, G_q2.2.2.2.2.2.2.2 hy_q2, X_S])⟩) dX11_init_137
