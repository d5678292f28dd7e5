theorem zdf3 : ∀ j, j < 7 → defaultValue (tyX3 j) = vp_V ((z_ft 3).map z_d) j := fun j hj => by rcases (show j = 0 ∨ j = 1 ∨ j = 2 ∨ j = 3 ∨ j = 4 ∨ j = 5 ∨ j = 6 by omega) with rfl | rfl | rfl | rfl | rfl | rfl | rfl <;> rfl
theorem zdf5 : ∀ j, j < 7 → defaultValue (tyX5 j) = vp_V ((z_ft 5).map z_d) j := fun j hj => by rcases (show j = 0 ∨ j = 1 ∨ j = 2 ∨ j = 3 ∨ j = 4 ∨ j = 5 ∨ j = 6 by omega) with rfl | rfl | rfl | rfl | rfl | rfl | rfl <;> rfl
theorem zdf7 : ∀ j, j < 4 → defaultValue (tyX7 j) = vp_V ((z_ft 7).map z_d) j := fun j hj => by rcases (show j = 0 ∨ j = 1 ∨ j = 2 ∨ j = 3 by omega) with rfl | rfl | rfl | rfl <;> rfl
theorem zdf11 : ∀ j, j < 13 → defaultValue (tyX11 j) = vp_V ((z_ft 11).map z_d) j := fun j hj => by rcases (show j = 0 ∨ j = 1 ∨ j = 2 ∨ j = 3 ∨ j = 4 ∨ j = 5 ∨ j = 6 ∨ j = 7 ∨ j = 8 ∨ j = 9 ∨ j = 10 ∨ j = 11 ∨ j = 12 by omega) with rfl | rfl | rfl | rfl | rfl | rfl | rfl | rfl | rfl | rfl | rfl | rfl | rfl <;> rfl
theorem zdf12 : ∀ j, j < 56 → defaultValue (tyX12 j) = vp_V ((z_ft 12).map z_d) j := fun j hj => by rcases (show j = 0 ∨ j = 1 ∨ j = 2 ∨ j = 3 ∨ j = 4 ∨ j = 5 ∨ j = 6 ∨ j = 7 ∨ j = 8 ∨ j = 9 ∨ j = 10 ∨ j = 11 ∨ j = 12 ∨ j = 13 ∨ j = 14 ∨ j = 15 ∨ j = 16 ∨ j = 17 ∨ j = 18 ∨ j = 19 ∨ j = 20 ∨ j = 21 ∨ j = 22 ∨ j = 23 ∨ j = 24 ∨ j = 25 ∨ j = 26 ∨ j = 27 ∨ j = 28 ∨ j = 29 ∨ j = 30 ∨ j = 31 ∨ j = 32 ∨ j = 33 ∨ j = 34 ∨ j = 35 ∨ j = 36 ∨ j = 37 ∨ j = 38 ∨ j = 39 ∨ j = 40 ∨ j = 41 ∨ j = 42 ∨ j = 43 ∨ j = 44 ∨ j = 45 ∨ j = 46 ∨ j = 47 ∨ j = 48 ∨ j = 49 ∨ j = 50 ∨ j = 51 ∨ j = 52 ∨ j = 53 ∨ j = 54 ∨ j = 55 by omega) with rfl | rfl | rfl | rfl | rfl | rfl | rfl | rfl | rfl | rfl | rfl | rfl | rfl | rfl | rfl | rfl | rfl | rfl | rfl | rfl | rfl | rfl | rfl | rfl | rfl | rfl | rfl | rfl | rfl | rfl | rfl | rfl | rfl | rfl | rfl | rfl | rfl | rfl | rfl | rfl | rfl | rfl | rfl | rfl | rfl | rfl | rfl | rfl | rfl | rfl | rfl | rfl | rfl | rfl | rfl | rfl <;> rfl
set_option maxHeartbeats 4000000 in
set_option maxRecDepth 100000 in
theorem c_X7_init (l : Launch) (cD : va_G) (cy : Nat → ClassId) (sz_ : Nat) (S_ : zS) (a0_ : Nat) (hL : a0_ ∈ zL S_) (hk : zK S_ a0_ = 7) : Met l yX7_init wsX7_init ({ frames := 1, cells := 1, slots := 160, locals := 20 } : Room) (va_Pc [.ref a0_] (zPre cD cy S_ sz_)) (va_Qv (fun (S1 : zS) => ∃ q_, q_ ∉ zL S_ ∧ S1 = (zsI (zsI (zsI (zsQ (zNew S_ q_ 14 160) 700 a0_ (some q_)) 701 a0_ 0) 702 a0_ (-1)) 703 a0_ (-1))) (zPost cD cy (zAd cy S_ sz_)) (zAd cy S_ sz_)) 1 160 (zAd cy S_ sz_) := by
  refine z_ofW (cc := cX7_init) (maxL := 1) (ret := none) (own := RX7) (QQ := fun A_ => va_Qv (fun (S1 : zS) => ∃ q_, q_ ∉ zL S_ ∧ S1 = (zsI (zsI (zsI (zsQ (zNew S_ q_ 14 160) 700 a0_ (some q_)) 701 a0_ 0) 702 a0_ (-1)) 703 a0_ (-1))) (zPost cD cy A_) A_) (by decide) rfl rfl (Nat.le_of_ble_eq_true rfl) ?_
  intro p_ e_ s_ m_ args_ below_ meth_ c_ A_ ls hcf hr hlk hnm hK_ hE hw hA hl
  obtain ⟨hx, hb_, hml, hown, hts⟩ := id hcf
  have hin7 : ∀ w_ ∈ wsX70, w_ ∈ wsX7_init := fun w_ h_ => (List.mem_cons_of_mem _ (List.mem_append_right _ h_))
  have hl : lv_has ls 1 [(0, .ref a0_)] := hl
  refine lv_aload_n hx hb_ dX7_init_0 rfl (lv_at hl 0 rfl) ?_
  refine W.objInit hx hb_ hown (hts (.methodLink RX7 3 objectInit) (by decide +kernel)) (hts (.instanceMethod objectInit) (by decide +kernel)) (hts (.code objectInit ⟨#[0xb1]⟩ 1 none) (by decide +kernel)) rfl (by rw [hml]; exact hl.1) rfl dX7_init_1 (Nat.le_of_ble_eq_true rfl) (Nat.le_of_ble_eq_true rfl) ?_
  refine W.eq (g2 := F0 m_ 4 ls []) rfl ?_
  refine lv_aload_n hx hb_ dX7_init_4 rfl (lv_at hl 0 rfl) ?_
  refine lv_sipush (v := 160) hx hb_ dX7_init_5 (by decide) ?_
  refine z_newl (N' := 160) hcf hK_ hw hA (List.mem_of_getElem? (i := 4) rfl) (by decide) (by decide) (by decide) (Nat.le_of_ble_eq_true rfl) (Nat.le_of_ble_eq_true rfl) dX7_init_8 (fun q1 H_ hq_q1 hw => ?_)
  have hne_a0_q1 : a0_ ≠ q1 := fun e_ => hq_q1 (e_ ▸ hL)
  have hk : zK (zNew S_ q1 14 160) a0_ = 7 := (va_up_ne _ _ hne_a0_q1).trans hk
  have hL : a0_ ∈ zL (zNew S_ q1 14 160) := List.mem_append_left _ hL
  have hL_q1 : q1 ∈ zL (zNew S_ q1 14 160) := zNew_m
  have hk_q1 : zK (zNew S_ q1 14 160) q1 = 14 := zNew_K
  have hn_q1 : zN (zNew S_ q1 14 160) q1 = 160 := zNew_N
  refine z_putQF (k := 7) (i := 0) (j := 700) (x := (some q1)) (v := .ref q1) (ty := (.array .long)) (ref := "FoldedInHalf$Shelf") (C := RX7) (T := TX7) (N := 4) tyX7 hcf hK_ hw hin7 tyX7_ok nmX7 hL hk rfl (by decide) (by decide) rfl rfl (List.mem_of_getElem? (i := 5) rfl) (fun _ h_ => h_) rfl hnm rfl rfl (by decide +kernel) rfl rfl dX7_init_10 (fun H_ locs_ hw => ?_)
  obtain ⟨T1, eT1⟩ : ∃ zz, zz = (zsQ (zNew S_ q1 14 160) 700 a0_ (some q1)) := ⟨_, rfl⟩
  rw [← eT1] at hw
  have hL : a0_ ∈ zL T1 := by rw [eT1]; exact hL
  have hk : zK T1 a0_ = 7 := by rw [eT1]; exact hk
  refine lv_aload_n hx hb_ dX7_init_13 rfl (lv_at hl 0 rfl) ?_
  refine lv_iconst (v := 0) hx hb_ dX7_init_14 (by decide) ?_
  refine z_putI (k := 7) (i := 1) (j := 701) (x := 0) (v := .int 0) (ty := .int) (ref := "FoldedInHalf$Shelf") (C := RX7) (T := TX7) (N := 4) tyX7 hcf hK_ hw hin7 tyX7_ok nmX7 hL hk rfl (by decide) (by decide) rfl rfl (List.mem_of_getElem? (i := 6) rfl) (fun _ h_ => h_) rfl rfl (by decide +kernel) rfl rfl dX7_init_15 (fun H_ locs_ hw => ?_)
  obtain ⟨T2, eT2⟩ : ∃ zz, zz = (zsI T1 701 a0_ 0) := ⟨_, rfl⟩
  rw [← eT2] at hw
  have hL : a0_ ∈ zL T2 := by rw [eT2]; exact hL
  have hk : zK T2 a0_ = 7 := by rw [eT2]; exact hk
  refine lv_aload_n hx hb_ dX7_init_18 rfl (lv_at hl 0 rfl) ?_
  refine lv_iconst (v := (-1)) hx hb_ dX7_init_19 (by decide) ?_
  refine z_putI (k := 7) (i := 2) (j := 702) (x := (-1)) (v := .int (-1)) (ty := .int) (ref := "FoldedInHalf$Shelf") (C := RX7) (T := TX7) (N := 4) tyX7 hcf hK_ hw hin7 tyX7_ok nmX7 hL hk rfl (by decide) (by decide) rfl rfl (List.mem_of_getElem? (i := 7) rfl) (fun _ h_ => h_) rfl rfl (by decide +kernel) rfl rfl dX7_init_20 (fun H_ locs_ hw => ?_)
  obtain ⟨T3, eT3⟩ : ∃ zz, zz = (zsI T2 702 a0_ (-1)) := ⟨_, rfl⟩
  rw [← eT3] at hw
  have hL : a0_ ∈ zL T3 := by rw [eT3]; exact hL
  have hk : zK T3 a0_ = 7 := by rw [eT3]; exact hk
  refine lv_aload_n hx hb_ dX7_init_23 rfl (lv_at hl 0 rfl) ?_
  refine lv_iconst (v := (-1)) hx hb_ dX7_init_24 (by decide) ?_
  refine z_putI (k := 7) (i := 3) (j := 703) (x := (-1)) (v := .int (-1)) (ty := .int) (ref := "FoldedInHalf$Shelf") (C := RX7) (T := TX7) (N := 4) tyX7 hcf hK_ hw hin7 tyX7_ok nmX7 hL hk rfl (by decide) (by decide) rfl rfl (List.mem_of_getElem? (i := 8) rfl) (fun _ h_ => h_) rfl rfl (by decide +kernel) rfl rfl dX7_init_25 (fun H_ locs_ hw => ?_)
  obtain ⟨T4, eT4⟩ : ∃ zz, zz = (zsI T3 703 a0_ (-1)) := ⟨_, rfl⟩
  rw [← eT4] at hw
  have hL : a0_ ∈ zL T4 := by rw [eT4]; exact hL
  have hk : zK T4 a0_ = 7 := by rw [eT4]; exact hk
  exact z_vret hcf hr hlk hw (⟨q1, hq_q1, by rw [eT4, eT3, eT2, eT1]⟩) dX7_init_28

set_option maxHeartbeats 4000000 in
set_option maxRecDepth 100000 in
theorem c_X5_init (l : Launch) (cD : va_G) (cy : Nat → ClassId) (sz_ : Nat) (S_ : zS) (a0_ : Nat) (hL : a0_ ∈ zL S_) (hk : zK S_ a0_ = 5) : Met l yX5_init wsX5_init ({ frames := 1, cells := 1, slots := 8, locals := 20 } : Room) (va_Pc [.ref a0_] (zPre cD cy S_ sz_)) (va_Qv (fun (S1 : zS) => ∃ q_, q_ ∉ zL S_ ∧ S1 = (zsI (zsI (zsQ (zsI (zsI (zsI (zsQ (zNew S_ q_ 16 8) 500 a0_ (some q_)) 501 a0_ 0) 502 a0_ 0) 503 a0_ (-1)) 504 a0_ none) 505 a0_ 0) 506 a0_ 0)) (zPost cD cy (zAd cy S_ sz_)) (zAd cy S_ sz_)) 1 8 (zAd cy S_ sz_) := by
  refine z_ofW (cc := cX5_init) (maxL := 1) (ret := none) (own := RX5) (QQ := fun A_ => va_Qv (fun (S1 : zS) => ∃ q_, q_ ∉ zL S_ ∧ S1 = (zsI (zsI (zsQ (zsI (zsI (zsI (zsQ (zNew S_ q_ 16 8) 500 a0_ (some q_)) 501 a0_ 0) 502 a0_ 0) 503 a0_ (-1)) 504 a0_ none) 505 a0_ 0) 506 a0_ 0)) (zPost cD cy A_) A_) (by decide) rfl rfl (Nat.le_of_ble_eq_true rfl) ?_
  intro p_ e_ s_ m_ args_ below_ meth_ c_ A_ ls hcf hr hlk hnm hK_ hE hw hA hl
  obtain ⟨hx, hb_, hml, hown, hts⟩ := id hcf
  have hin5 : ∀ w_ ∈ wsX50, w_ ∈ wsX5_init := fun w_ h_ => (List.mem_cons_of_mem _ (List.mem_append_right _ h_))
  have hl : lv_has ls 1 [(0, .ref a0_)] := hl
  refine lv_aload_n hx hb_ dX5_init_0 rfl (lv_at hl 0 rfl) ?_
  refine W.objInit hx hb_ hown (hts (.methodLink RX5 3 objectInit) (by decide +kernel)) (hts (.instanceMethod objectInit) (by decide +kernel)) (hts (.code objectInit ⟨#[0xb1]⟩ 1 none) (by decide +kernel)) rfl (by rw [hml]; exact hl.1) rfl dX5_init_1 (Nat.le_of_ble_eq_true rfl) (Nat.le_of_ble_eq_true rfl) ?_
  refine W.eq (g2 := F0 m_ 4 ls []) rfl ?_
  refine lv_aload_n hx hb_ dX5_init_4 rfl (lv_at hl 0 rfl) ?_
  refine lv_bipush (v := 8) hx hb_ dX5_init_5 (by decide) ?_
  refine z_newq (N' := 8) hcf hK_ hE hw hA (List.mem_of_getElem? (i := 4) rfl) (by decide) (by decide) (by decide) (Nat.le_of_ble_eq_true rfl) (Nat.le_of_ble_eq_true rfl) dX5_init_7 (fun q1 H_ hq_q1 hw => ?_)
  have hne_a0_q1 : a0_ ≠ q1 := fun e_ => hq_q1 (e_ ▸ hL)
  have hk : zK (zNew S_ q1 16 8) a0_ = 5 := (va_up_ne _ _ hne_a0_q1).trans hk
  have hL : a0_ ∈ zL (zNew S_ q1 16 8) := List.mem_append_left _ hL
  have hL_q1 : q1 ∈ zL (zNew S_ q1 16 8) := zNew_m
  have hk_q1 : zK (zNew S_ q1 16 8) q1 = 16 := zNew_K
  have hn_q1 : zN (zNew S_ q1 16 8) q1 = 8 := zNew_N
  refine z_putQF (k := 5) (i := 0) (j := 500) (x := (some q1)) (v := .ref q1) (ty := (.array (.object "FoldedInHalf$Strip"))) (ref := "FoldedInHalf$Reader") (C := RX5) (T := TX5) (N := 7) tyX5 hcf hK_ hw hin5 tyX5_ok nmX5 hL hk rfl (by decide) (by decide) rfl rfl (List.mem_of_getElem? (i := 5) rfl) (fun _ h_ => h_) rfl hnm rfl rfl (by decide +kernel) rfl rfl dX5_init_10 (fun H_ locs_ hw => ?_)
  obtain ⟨T1, eT1⟩ : ∃ zz, zz = (zsQ (zNew S_ q1 16 8) 500 a0_ (some q1)) := ⟨_, rfl⟩
  rw [← eT1] at hw
  have hL : a0_ ∈ zL T1 := by rw [eT1]; exact hL
  have hk : zK T1 a0_ = 5 := by rw [eT1]; exact hk
  refine lv_aload_n hx hb_ dX5_init_13 rfl (lv_at hl 0 rfl) ?_
  refine lv_iconst (v := 0) hx hb_ dX5_init_14 (by decide) ?_
  refine z_putI (k := 5) (i := 1) (j := 501) (x := 0) (v := .int 0) (ty := .int) (ref := "FoldedInHalf$Reader") (C := RX5) (T := TX5) (N := 7) tyX5 hcf hK_ hw hin5 tyX5_ok nmX5 hL hk rfl (by decide) (by decide) rfl rfl (List.mem_of_getElem? (i := 6) rfl) (fun _ h_ => h_) rfl rfl (by decide +kernel) rfl rfl dX5_init_15 (fun H_ locs_ hw => ?_)
  obtain ⟨T2, eT2⟩ : ∃ zz, zz = (zsI T1 501 a0_ 0) := ⟨_, rfl⟩
  rw [← eT2] at hw
  have hL : a0_ ∈ zL T2 := by rw [eT2]; exact hL
  have hk : zK T2 a0_ = 5 := by rw [eT2]; exact hk
  refine lv_aload_n hx hb_ dX5_init_18 rfl (lv_at hl 0 rfl) ?_
  refine lv_iconst (v := 0) hx hb_ dX5_init_19 (by decide) ?_
  refine z_putI (k := 5) (i := 2) (j := 502) (x := 0) (v := .int 0) (ty := .int) (ref := "FoldedInHalf$Reader") (C := RX5) (T := TX5) (N := 7) tyX5 hcf hK_ hw hin5 tyX5_ok nmX5 hL hk rfl (by decide) (by decide) rfl rfl (List.mem_of_getElem? (i := 7) rfl) (fun _ h_ => h_) rfl rfl (by decide +kernel) rfl rfl dX5_init_20 (fun H_ locs_ hw => ?_)
  obtain ⟨T3, eT3⟩ : ∃ zz, zz = (zsI T2 502 a0_ 0) := ⟨_, rfl⟩
  rw [← eT3] at hw
  have hL : a0_ ∈ zL T3 := by rw [eT3]; exact hL
  have hk : zK T3 a0_ = 5 := by rw [eT3]; exact hk
  refine lv_aload_n hx hb_ dX5_init_23 rfl (lv_at hl 0 rfl) ?_
  refine lv_iconst (v := (-1)) hx hb_ dX5_init_24 (by decide) ?_
  refine z_putI (k := 5) (i := 3) (j := 503) (x := (-1)) (v := .int (-1)) (ty := .int) (ref := "FoldedInHalf$Reader") (C := RX5) (T := TX5) (N := 7) tyX5 hcf hK_ hw hin5 tyX5_ok nmX5 hL hk rfl (by decide) (by decide) rfl rfl (List.mem_of_getElem? (i := 8) rfl) (fun _ h_ => h_) rfl rfl (by decide +kernel) rfl rfl dX5_init_25 (fun H_ locs_ hw => ?_)
  obtain ⟨T4, eT4⟩ : ∃ zz, zz = (zsI T3 503 a0_ (-1)) := ⟨_, rfl⟩
  rw [← eT4] at hw
  have hL : a0_ ∈ zL T4 := by rw [eT4]; exact hL
  have hk : zK T4 a0_ = 5 := by rw [eT4]; exact hk
  refine lv_aload_n hx hb_ dX5_init_28 rfl (lv_at hl 0 rfl) ?_
  refine lv_null hx hb_ dX5_init_29 ?_
  refine z_putQ (k := 5) (i := 4) (j := 504) (x := none) (v := .null) (ty := (.object "FoldedInHalf$Shelf")) (ref := "FoldedInHalf$Reader") (C := RX5) (T := TX5) (N := 7) tyX5 hcf hK_ hw hin5 tyX5_ok nmX5 hL hk rfl (by decide) (by decide) rfl rfl (List.mem_of_getElem? (i := 9) rfl) (fun _ h_ => h_) rfl rfl (by decide +kernel) rfl rfl dX5_init_30 (fun H_ locs_ hw => ?_)
  obtain ⟨T5, eT5⟩ : ∃ zz, zz = (zsQ T4 504 a0_ none) := ⟨_, rfl⟩
  rw [← eT5] at hw
  have hL : a0_ ∈ zL T5 := by rw [eT5]; exact hL
  have hk : zK T5 a0_ = 5 := by rw [eT5]; exact hk
  refine lv_aload_n hx hb_ dX5_init_33 rfl (lv_at hl 0 rfl) ?_
  refine lv_iconst (v := 0) hx hb_ dX5_init_34 (by decide) ?_
  refine z_putI (k := 5) (i := 5) (j := 505) (x := 0) (v := .int 0) (ty := .int) (ref := "FoldedInHalf$Reader") (C := RX5) (T := TX5) (N := 7) tyX5 hcf hK_ hw hin5 tyX5_ok nmX5 hL hk rfl (by decide) (by decide) rfl rfl (List.mem_of_getElem? (i := 10) rfl) (fun _ h_ => h_) rfl rfl (by decide +kernel) rfl rfl dX5_init_35 (fun H_ locs_ hw => ?_)
  obtain ⟨T6, eT6⟩ : ∃ zz, zz = (zsI T5 505 a0_ 0) := ⟨_, rfl⟩
  rw [← eT6] at hw
  have hL : a0_ ∈ zL T6 := by rw [eT6]; exact hL
  have hk : zK T6 a0_ = 5 := by rw [eT6]; exact hk
  refine lv_aload_n hx hb_ dX5_init_38 rfl (lv_at hl 0 rfl) ?_
  refine lv_iconst (v := 0) hx hb_ dX5_init_39 (by decide) ?_
  refine z_putI (k := 5) (i := 6) (j := 506) (x := 0) (v := .int 0) (ty := .int) (ref := "FoldedInHalf$Reader") (C := RX5) (T := TX5) (N := 7) tyX5 hcf hK_ hw hin5 tyX5_ok nmX5 hL hk rfl (by decide) (by decide) rfl rfl (List.mem_of_getElem? (i := 11) rfl) (fun _ h_ => h_) rfl rfl (by decide +kernel) rfl rfl dX5_init_40 (fun H_ locs_ hw => ?_)
  obtain ⟨T7, eT7⟩ : ∃ zz, zz = (zsI T6 506 a0_ 0) := ⟨_, rfl⟩
  rw [← eT7] at hw
  have hL : a0_ ∈ zL T7 := by rw [eT7]; exact hL
  have hk : zK T7 a0_ = 5 := by rw [eT7]; exact hk
  exact z_vret hcf hr hlk hw (⟨q1, hq_q1, by rw [eT7, eT6, eT5, eT4, eT3, eT2, eT1]⟩) dX5_init_43

set_option maxHeartbeats 4000000 in
set_option maxRecDepth 100000 in
theorem c_X3_init (l : Launch) (cD : va_G) (cy : Nat → ClassId) (sz_ : Nat) (S_ : zS) (a0_ : Nat) (hL : a0_ ∈ zL S_) (hk : zK S_ a0_ = 3) : Met l yX3_init wsX3_init ({ frames := 1, cells := 5, slots := 2134, locals := 20 } : Room) (va_Pc [.ref a0_] (zPre cD cy S_ sz_)) (va_Qv (fun (S1 : zS) => ∃ q0 q1 q2 q3 q4, (q0 ∉ zL S_ ∧ q1 ∉ zL (zsQ (zNew S_ q0 13 2100) 300 a0_ (some q0)) ∧ q2 ∉ zL (zsQ (zNew (zsQ (zNew S_ q0 13 2100) 300 a0_ (some q0)) q1 13 9) 301 a0_ (some q1)) ∧ q3 ∉ zL (zsQ (zNew (zsQ (zNew (zsQ (zNew S_ q0 13 2100) 300 a0_ (some q0)) q1 13 9) 301 a0_ (some q1)) q2 13 9) 302 a0_ (some q2)) ∧ q4 ∉ zL (zsQ (zNew (zsQ (zNew (zsQ (zNew (zsQ (zNew S_ q0 13 2100) 300 a0_ (some q0)) q1 13 9) 301 a0_ (some q1)) q2 13 9) 302 a0_ (some q2)) q3 13 8) 303 a0_ (some q3))) ∧ S1 = (zsI (zsI (zsQ (zNew (zsQ (zNew (zsQ (zNew (zsQ (zNew (zsQ (zNew S_ q0 13 2100) 300 a0_ (some q0)) q1 13 9) 301 a0_ (some q1)) q2 13 9) 302 a0_ (some q2)) q3 13 8) 303 a0_ (some q3)) q4 13 8) 304 a0_ (some q4)) 305 a0_ 0) 306 a0_ 0)) (zPost cD cy (zAd cy S_ sz_)) (zAd cy S_ sz_)) 5 2134 (zAd cy S_ sz_) := by
  refine z_ofW (cc := cX3_init) (maxL := 1) (ret := none) (own := RX3) (QQ := fun A_ => va_Qv (fun (S1 : zS) => ∃ q0 q1 q2 q3 q4, (q0 ∉ zL S_ ∧ q1 ∉ zL (zsQ (zNew S_ q0 13 2100) 300 a0_ (some q0)) ∧ q2 ∉ zL (zsQ (zNew (zsQ (zNew S_ q0 13 2100) 300 a0_ (some q0)) q1 13 9) 301 a0_ (some q1)) ∧ q3 ∉ zL (zsQ (zNew (zsQ (zNew (zsQ (zNew S_ q0 13 2100) 300 a0_ (some q0)) q1 13 9) 301 a0_ (some q1)) q2 13 9) 302 a0_ (some q2)) ∧ q4 ∉ zL (zsQ (zNew (zsQ (zNew (zsQ (zNew (zsQ (zNew S_ q0 13 2100) 300 a0_ (some q0)) q1 13 9) 301 a0_ (some q1)) q2 13 9) 302 a0_ (some q2)) q3 13 8) 303 a0_ (some q3))) ∧ S1 = (zsI (zsI (zsQ (zNew (zsQ (zNew (zsQ (zNew (zsQ (zNew (zsQ (zNew S_ q0 13 2100) 300 a0_ (some q0)) q1 13 9) 301 a0_ (some q1)) q2 13 9) 302 a0_ (some q2)) q3 13 8) 303 a0_ (some q3)) q4 13 8) 304 a0_ (some q4)) 305 a0_ 0) 306 a0_ 0)) (zPost cD cy A_) A_) (by decide) rfl rfl (Nat.le_of_ble_eq_true rfl) ?_
  intro p_ e_ s_ m_ args_ below_ meth_ c_ A_ ls hcf hr hlk hnm hK_ hE hw hA hl
  obtain ⟨hx, hb_, hml, hown, hts⟩ := id hcf
  have hin3 : ∀ w_ ∈ wsX30, w_ ∈ wsX3_init := fun w_ h_ => (List.mem_cons_of_mem _ (List.mem_append_right _ h_))
  have hl : lv_has ls 1 [(0, .ref a0_)] := hl
  refine lv_aload_n hx hb_ dX3_init_0 rfl (lv_at hl 0 rfl) ?_
  refine W.objInit hx hb_ hown (hts (.methodLink RX3 3 objectInit) (by decide +kernel)) (hts (.instanceMethod objectInit) (by decide +kernel)) (hts (.code objectInit ⟨#[0xb1]⟩ 1 none) (by decide +kernel)) rfl (by rw [hml]; exact hl.1) rfl dX3_init_1 (Nat.le_of_ble_eq_true rfl) (Nat.le_of_ble_eq_true rfl) ?_
  refine W.eq (g2 := F0 m_ 4 ls []) rfl ?_
  refine lv_aload_n hx hb_ dX3_init_4 rfl (lv_at hl 0 rfl) ?_
  refine lv_sipush (v := 2100) hx hb_ dX3_init_5 (by decide) ?_
  refine z_newi (N' := 2100) hcf hK_ hw hA (List.mem_of_getElem? (i := 4) rfl) (by decide) (by decide) (by decide) (Nat.le_of_ble_eq_true rfl) (Nat.le_of_ble_eq_true rfl) dX3_init_8 (fun q1 H_ hq_q1 hw => ?_)
  have hne_a0_q1 : a0_ ≠ q1 := fun e_ => hq_q1 (e_ ▸ hL)
  have hk : zK (zNew S_ q1 13 2100) a0_ = 3 := (va_up_ne _ _ hne_a0_q1).trans hk
  have hL : a0_ ∈ zL (zNew S_ q1 13 2100) := List.mem_append_left _ hL
  have hL_q1 : q1 ∈ zL (zNew S_ q1 13 2100) := zNew_m
  have hk_q1 : zK (zNew S_ q1 13 2100) q1 = 13 := zNew_K
  have hn_q1 : zN (zNew S_ q1 13 2100) q1 = 2100 := zNew_N
  refine z_putQF (k := 3) (i := 0) (j := 300) (x := (some q1)) (v := .ref q1) (ty := (.array .int)) (ref := "FoldedInHalf$Leaves") (C := RX3) (T := TX3) (N := 7) tyX3 hcf hK_ hw hin3 tyX3_ok nmX3 hL hk rfl (by decide) (by decide) rfl rfl (List.mem_of_getElem? (i := 5) rfl) (fun _ h_ => h_) rfl hnm rfl rfl (by decide +kernel) rfl rfl dX3_init_10 (fun H_ locs_ hw => ?_)
  obtain ⟨T1, eT1⟩ : ∃ zz, zz = (zsQ (zNew S_ q1 13 2100) 300 a0_ (some q1)) := ⟨_, rfl⟩
  rw [← eT1] at hw
  have hL : a0_ ∈ zL T1 := by rw [eT1]; exact hL
  have hk : zK T1 a0_ = 3 := by rw [eT1]; exact hk
  refine lv_aload_n hx hb_ dX3_init_13 rfl (lv_at hl 0 rfl) ?_
  refine lv_bipush (v := 9) hx hb_ dX3_init_14 (by decide) ?_
  refine z_newi (N' := 9) hcf hK_ hw hA (List.mem_of_getElem? (i := 4) rfl) (by decide) (by decide) (by decide) (Nat.le_of_ble_eq_true rfl) (Nat.le_of_ble_eq_true rfl) dX3_init_16 (fun q2 H_ hq_q2 hw => ?_)
  have hne_a0_q2 : a0_ ≠ q2 := fun e_ => hq_q2 (e_ ▸ hL)
  have hk : zK (zNew T1 q2 13 9) a0_ = 3 := (va_up_ne _ _ hne_a0_q2).trans hk
  have hL : a0_ ∈ zL (zNew T1 q2 13 9) := List.mem_append_left _ hL
  have hL_q2 : q2 ∈ zL (zNew T1 q2 13 9) := zNew_m
  have hk_q2 : zK (zNew T1 q2 13 9) q2 = 13 := zNew_K
  have hn_q2 : zN (zNew T1 q2 13 9) q2 = 9 := zNew_N
  refine z_putQF (k := 3) (i := 1) (j := 301) (x := (some q2)) (v := .ref q2) (ty := (.array .int)) (ref := "FoldedInHalf$Leaves") (C := RX3) (T := TX3) (N := 7) tyX3 hcf hK_ hw hin3 tyX3_ok nmX3 hL hk rfl (by decide) (by decide) rfl rfl (List.mem_of_getElem? (i := 6) rfl) (fun _ h_ => h_) rfl hnm rfl rfl (by decide +kernel) rfl rfl dX3_init_18 (fun H_ locs_ hw => ?_)
  obtain ⟨T2, eT2⟩ : ∃ zz, zz = (zsQ (zNew T1 q2 13 9) 301 a0_ (some q2)) := ⟨_, rfl⟩
  rw [← eT2] at hw
  have hL : a0_ ∈ zL T2 := by rw [eT2]; exact hL
  have hk : zK T2 a0_ = 3 := by rw [eT2]; exact hk
  refine lv_aload_n hx hb_ dX3_init_21 rfl (lv_at hl 0 rfl) ?_
  refine lv_bipush (v := 9) hx hb_ dX3_init_22 (by decide) ?_
  refine z_newi (N' := 9) hcf hK_ hw hA (List.mem_of_getElem? (i := 4) rfl) (by decide) (by decide) (by decide) (Nat.le_of_ble_eq_true rfl) (Nat.le_of_ble_eq_true rfl) dX3_init_24 (fun q3 H_ hq_q3 hw => ?_)
  have hne_a0_q3 : a0_ ≠ q3 := fun e_ => hq_q3 (e_ ▸ hL)
  have hk : zK (zNew T2 q3 13 9) a0_ = 3 := (va_up_ne _ _ hne_a0_q3).trans hk
  have hL : a0_ ∈ zL (zNew T2 q3 13 9) := List.mem_append_left _ hL
  have hL_q3 : q3 ∈ zL (zNew T2 q3 13 9) := zNew_m
  have hk_q3 : zK (zNew T2 q3 13 9) q3 = 13 := zNew_K
  have hn_q3 : zN (zNew T2 q3 13 9) q3 = 9 := zNew_N
  refine z_putQF (k := 3) (i := 2) (j := 302) (x := (some q3)) (v := .ref q3) (ty := (.array .int)) (ref := "FoldedInHalf$Leaves") (C := RX3) (T := TX3) (N := 7) tyX3 hcf hK_ hw hin3 tyX3_ok nmX3 hL hk rfl (by decide) (by decide) rfl rfl (List.mem_of_getElem? (i := 7) rfl) (fun _ h_ => h_) rfl hnm rfl rfl (by decide +kernel) rfl rfl dX3_init_26 (fun H_ locs_ hw => ?_)
  obtain ⟨T3, eT3⟩ : ∃ zz, zz = (zsQ (zNew T2 q3 13 9) 302 a0_ (some q3)) := ⟨_, rfl⟩
  rw [← eT3] at hw
  have hL : a0_ ∈ zL T3 := by rw [eT3]; exact hL
  have hk : zK T3 a0_ = 3 := by rw [eT3]; exact hk
  refine lv_aload_n hx hb_ dX3_init_29 rfl (lv_at hl 0 rfl) ?_
  refine lv_bipush (v := 8) hx hb_ dX3_init_30 (by decide) ?_
  refine z_newi (N' := 8) hcf hK_ hw hA (List.mem_of_getElem? (i := 4) rfl) (by decide) (by decide) (by decide) (Nat.le_of_ble_eq_true rfl) (Nat.le_of_ble_eq_true rfl) dX3_init_32 (fun q4 H_ hq_q4 hw => ?_)
  have hne_a0_q4 : a0_ ≠ q4 := fun e_ => hq_q4 (e_ ▸ hL)
  have hk : zK (zNew T3 q4 13 8) a0_ = 3 := (va_up_ne _ _ hne_a0_q4).trans hk
  have hL : a0_ ∈ zL (zNew T3 q4 13 8) := List.mem_append_left _ hL
  have hL_q4 : q4 ∈ zL (zNew T3 q4 13 8) := zNew_m
  have hk_q4 : zK (zNew T3 q4 13 8) q4 = 13 := zNew_K
  have hn_q4 : zN (zNew T3 q4 13 8) q4 = 8 := zNew_N
  refine z_putQF (k := 3) (i := 3) (j := 303) (x := (some q4)) (v := .ref q4) (ty := (.array .int)) (ref := "FoldedInHalf$Leaves") (C := RX3) (T := TX3) (N := 7) tyX3 hcf hK_ hw hin3 tyX3_ok nmX3 hL hk rfl (by decide) (by decide) rfl rfl (List.mem_of_getElem? (i := 8) rfl) (fun _ h_ => h_) rfl hnm rfl rfl (by decide +kernel) rfl rfl dX3_init_34 (fun H_ locs_ hw => ?_)
  obtain ⟨T4, eT4⟩ : ∃ zz, zz = (zsQ (zNew T3 q4 13 8) 303 a0_ (some q4)) := ⟨_, rfl⟩
  rw [← eT4] at hw
  have hL : a0_ ∈ zL T4 := by rw [eT4]; exact hL
  have hk : zK T4 a0_ = 3 := by rw [eT4]; exact hk
  refine lv_aload_n hx hb_ dX3_init_37 rfl (lv_at hl 0 rfl) ?_
  refine lv_bipush (v := 8) hx hb_ dX3_init_38 (by decide) ?_
  refine z_newi (N' := 8) hcf hK_ hw hA (List.mem_of_getElem? (i := 4) rfl) (by decide) (by decide) (by decide) (Nat.le_of_ble_eq_true rfl) (Nat.le_of_ble_eq_true rfl) dX3_init_40 (fun q5 H_ hq_q5 hw => ?_)
  have hne_a0_q5 : a0_ ≠ q5 := fun e_ => hq_q5 (e_ ▸ hL)
  have hk : zK (zNew T4 q5 13 8) a0_ = 3 := (va_up_ne _ _ hne_a0_q5).trans hk
  have hL : a0_ ∈ zL (zNew T4 q5 13 8) := List.mem_append_left _ hL
  have hL_q5 : q5 ∈ zL (zNew T4 q5 13 8) := zNew_m
  have hk_q5 : zK (zNew T4 q5 13 8) q5 = 13 := zNew_K
  have hn_q5 : zN (zNew T4 q5 13 8) q5 = 8 := zNew_N
  refine z_putQF (k := 3) (i := 4) (j := 304) (x := (some q5)) (v := .ref q5) (ty := (.array .int)) (ref := "FoldedInHalf$Leaves") (C := RX3) (T := TX3) (N := 7) tyX3 hcf hK_ hw hin3 tyX3_ok nmX3 hL hk rfl (by decide) (by decide) rfl rfl (List.mem_of_getElem? (i := 9) rfl) (fun _ h_ => h_) rfl hnm rfl rfl (by decide +kernel) rfl rfl dX3_init_42 (fun H_ locs_ hw => ?_)
  obtain ⟨T5, eT5⟩ : ∃ zz, zz = (zsQ (zNew T4 q5 13 8) 304 a0_ (some q5)) := ⟨_, rfl⟩
  rw [← eT5] at hw
  have hL : a0_ ∈ zL T5 := by rw [eT5]; exact hL
  have hk : zK T5 a0_ = 3 := by rw [eT5]; exact hk
  refine lv_aload_n hx hb_ dX3_init_45 rfl (lv_at hl 0 rfl) ?_
  refine lv_iconst (v := 0) hx hb_ dX3_init_46 (by decide) ?_
  refine z_putI (k := 3) (i := 5) (j := 305) (x := 0) (v := .int 0) (ty := .int) (ref := "FoldedInHalf$Leaves") (C := RX3) (T := TX3) (N := 7) tyX3 hcf hK_ hw hin3 tyX3_ok nmX3 hL hk rfl (by decide) (by decide) rfl rfl (List.mem_of_getElem? (i := 10) rfl) (fun _ h_ => h_) rfl rfl (by decide +kernel) rfl rfl dX3_init_47 (fun H_ locs_ hw => ?_)
  obtain ⟨T6, eT6⟩ : ∃ zz, zz = (zsI T5 305 a0_ 0) := ⟨_, rfl⟩
  rw [← eT6] at hw
  have hL : a0_ ∈ zL T6 := by rw [eT6]; exact hL
  have hk : zK T6 a0_ = 3 := by rw [eT6]; exact hk
  refine lv_aload_n hx hb_ dX3_init_50 rfl (lv_at hl 0 rfl) ?_
  refine lv_iconst (v := 0) hx hb_ dX3_init_51 (by decide) ?_
  refine z_putI (k := 3) (i := 6) (j := 306) (x := 0) (v := .int 0) (ty := .int) (ref := "FoldedInHalf$Leaves") (C := RX3) (T := TX3) (N := 7) tyX3 hcf hK_ hw hin3 tyX3_ok nmX3 hL hk rfl (by decide) (by decide) rfl rfl (List.mem_of_getElem? (i := 11) rfl) (fun _ h_ => h_) rfl rfl (by decide +kernel) rfl rfl dX3_init_52 (fun H_ locs_ hw => ?_)
  obtain ⟨T7, eT7⟩ : ∃ zz, zz = (zsI T6 306 a0_ 0) := ⟨_, rfl⟩
  rw [← eT7] at hw
  have hL : a0_ ∈ zL T7 := by rw [eT7]; exact hL
  have hk : zK T7 a0_ = 3 := by rw [eT7]; exact hk
  exact z_vret hcf hr hlk hw (⟨q1, q2, q3, q4, q5, ⟨hq_q1, (by rw [eT1] at hq_q2; exact hq_q2), (by rw [eT2, eT1] at hq_q3; exact hq_q3), (by rw [eT3, eT2, eT1] at hq_q4; exact hq_q4), (by rw [eT4, eT3, eT2, eT1] at hq_q5; exact hq_q5)⟩, by rw [eT7, eT6, eT5, eT4, eT3, eT2, eT1]⟩) dX3_init_55

