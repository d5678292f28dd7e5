set_option maxHeartbeats 4000000 in
set_option maxRecDepth 100000 in
theorem c_X12_no (l : Launch) (cD : va_G) (cy : Nat → ClassId) (sz_ : Nat) (r_ : Nat → Nat) (S_ : zS) (hSh : ShM S_ r_) (b_ : Int32) (h1 : ¬ -b_ ≤ 0) (h2 : ¬ 8 ≤ -b_) : Met l yX12_no wsX12_no ({ frames := 0, cells := 0, slots := 0, locals := 0 } : Room) (va_Pc [.ref (r_ 0), .int b_] (zPre cD cy S_ sz_)) (va_Qi (fun (v_ : Int32) (S1 : zS) => v_ = b_ ∧ ∃ f_, S1 = zsA S_ (r_ 2) f_) (zPost cD cy (zAd cy S_ sz_)) (zAd cy S_ sz_)) 0 0 (zAd cy S_ sz_) := by
  refine z_ofW (cc := cX12_no) (maxL := 2) (ret := (some .int)) (own := RX12) (QQ := fun A_ => va_Qi (fun (v_ : Int32) (S1 : zS) => v_ = b_ ∧ ∃ f_, S1 = zsA S_ (r_ 2) f_) (zPost cD cy A_) A_) (by decide) rfl rfl (Nat.le_of_ble_eq_true rfl) ?_
  intro p_ e_ s_ m_ args_ below_ meth_ c_ A_ ls hcf hr hlk hnm hK_ hE hw hA hl
  obtain ⟨hx, hb_, hml, hown, hts⟩ := id hcf
  have hin12 : ∀ w_ ∈ wsX120, w_ ∈ wsX12_no := fun w_ h_ => (List.mem_cons_of_mem _ (List.mem_append_right _ h_))
  have hl : lv_has ls 2 [(0, .ref (r_ 0)), (1, .int b_)] := hl
  have hi_ : ∀ q_ : Int32, q_ = -b_ → vp_in q_ 8 := fun q_ e_ => by rw [e_]; exact zx_in (fun z_ => h1 (by rw [zx_lt] at z_; rw [zx_le]; omega)) h2 (by decide)
  refine lv_aload_n hx hb_ dX12_no_0 rfl (lv_at hl 0 rfl) ?_
  refine z_get (k := 12) (i := 2) (j := 1202) (v := .ref (r_ 2)) (ref := "FoldedInHalfModel") (C := RX12) (T := TX12) (N := 56) hcf hK_ hw hin12 (mL hSh 0) (mK hSh 0) rfl (by decide) (by decide) rfl rfl (congrArg va_rf (mP hSh 2)) (List.mem_of_getElem? (i := 1) rfl) (fun _ h_ => h_) dX12_no_1 ?_
  refine lv_iload_n hx hb_ dX12_no_4 rfl (lv_at hl 1 rfl) ?_
  refine lv_ineg hx hb_ dX12_no_5 ?_
  refine lv_topi (fun q_ eq => ?_)
  refine lv_dup2_11 hx hb_ dX12_no_6 rfl rfl ?_
  refine z_iald (n := 8) hcf hK_ hw (mL hSh 2) (mK hSh 2) (mN hSh 2) (hi_ q_ eq) dX12_no_7 ?_
  refine lv_iconst (v := 1) hx hb_ dX12_no_8 (by decide) ?_
  refine lv_iadd hx hb_ dX12_no_9 ?_
  refine z_iast (n := 8) hcf hK_ hw (mL hSh 2) (mK hSh 2) (mN hSh 2) (hi_ q_ eq) dX12_no_10 (fun H_ locs_ hw => ?_)
  refine lv_iload_n hx hb_ dX12_no_11 rfl (lv_at hl 1 rfl) ?_
  exact z_iret (ty := .int) (v := b_) hcf hr rfl hlk hw (⟨rfl, _, rfl⟩) dX12_no_12

set_option maxHeartbeats 4000000 in
set_option maxRecDepth 100000 in
theorem c_X12_noTen (l : Launch) (cD : va_G) (cy : Nat → ClassId) (sz_ : Nat) (r_ : Nat → Nat) (S_ : zS) (hSh : ShM S_ r_) (b_ : Int32) (h1 : ¬ -b_ ≤ 0) (h2 : ¬ 8 ≤ -b_) : Met l yX12_noTen wsX12_noTen ({ frames := 0, cells := 0, slots := 0, locals := 0 } : Room) (va_Pc [.ref (r_ 0), .int b_] (zPre cD cy S_ sz_)) (va_Qi (fun (v_ : Int32) (S1 : zS) => v_ = b_ - 10 ∧ ∃ f_, S1 = zsA S_ (r_ 2) f_) (zPost cD cy (zAd cy S_ sz_)) (zAd cy S_ sz_)) 0 0 (zAd cy S_ sz_) := by
  refine z_ofW (cc := cX12_noTen) (maxL := 2) (ret := (some .int)) (own := RX12) (QQ := fun A_ => va_Qi (fun (v_ : Int32) (S1 : zS) => v_ = b_ - 10 ∧ ∃ f_, S1 = zsA S_ (r_ 2) f_) (zPost cD cy A_) A_) (by decide) rfl rfl (Nat.le_of_ble_eq_true rfl) ?_
  intro p_ e_ s_ m_ args_ below_ meth_ c_ A_ ls hcf hr hlk hnm hK_ hE hw hA hl
  obtain ⟨hx, hb_, hml, hown, hts⟩ := id hcf
  have hin12 : ∀ w_ ∈ wsX120, w_ ∈ wsX12_noTen := fun w_ h_ => (List.mem_cons_of_mem _ (List.mem_append_right _ h_))
  have hl : lv_has ls 2 [(0, .ref (r_ 0)), (1, .int b_)] := hl
  have hi_ : ∀ q_ : Int32, q_ = -b_ → vp_in q_ 8 := fun q_ e_ => by rw [e_]; exact zx_in (fun z_ => h1 (by rw [zx_lt] at z_; rw [zx_le]; omega)) h2 (by decide)
  refine lv_aload_n hx hb_ dX12_noTen_0 rfl (lv_at hl 0 rfl) ?_
  refine z_get (k := 12) (i := 2) (j := 1202) (v := .ref (r_ 2)) (ref := "FoldedInHalfModel") (C := RX12) (T := TX12) (N := 56) hcf hK_ hw hin12 (mL hSh 0) (mK hSh 0) rfl (by decide) (by decide) rfl rfl (congrArg va_rf (mP hSh 2)) (List.mem_of_getElem? (i := 1) rfl) (fun _ h_ => h_) dX12_noTen_1 ?_
  refine lv_iload_n hx hb_ dX12_noTen_4 rfl (lv_at hl 1 rfl) ?_
  refine lv_ineg hx hb_ dX12_noTen_5 ?_
  refine lv_topi (fun q_ eq => ?_)
  refine lv_dup2_11 hx hb_ dX12_noTen_6 rfl rfl ?_
  refine z_iald (n := 8) hcf hK_ hw (mL hSh 2) (mK hSh 2) (mN hSh 2) (hi_ q_ eq) dX12_noTen_7 ?_
  refine lv_iconst (v := 1) hx hb_ dX12_noTen_8 (by decide) ?_
  refine lv_iadd hx hb_ dX12_noTen_9 ?_
  refine z_iast (n := 8) hcf hK_ hw (mL hSh 2) (mK hSh 2) (mN hSh 2) (hi_ q_ eq) dX12_noTen_10 (fun H_ locs_ hw => ?_)
  refine lv_iload_n hx hb_ dX12_noTen_11 rfl (lv_at hl 1 rfl) ?_
  refine lv_bipush (v := 10) hx hb_ dX12_noTen_12 (by decide) ?_
  refine lv_isub hx hb_ dX12_noTen_14 ?_
  exact z_iret (ty := .int) (v := (b_ - 10)) hcf hr rfl hlk hw (⟨rfl, _, rfl⟩) dX12_noTen_15

set_option maxHeartbeats 4000000 in
set_option maxRecDepth 100000 in
theorem c_X12_isShelf (l : Launch) (cD : va_G) (cy : Nat → ClassId) (sz_ : Nat) (r_ : Nat → Nat) (S_ : zS) (hSh : ShM S_ r_) (a_ : Int32) : Met l yX12_isShelf wsX12_isShelf ({ frames := 0, cells := 0, slots := 0, locals := 0 } : Room) (va_Pc [.ref (r_ 0), .int a_] (zPre cD cy S_ sz_)) (va_Qi (fun (v_ : Int32) (S1 : zS) => ((a_ < 0 ∨ 8 ≤ a_) ∧ v_ = 0 ∨ (¬ a_ < 0 ∧ ¬ 8 ≤ a_) ∧ v_ = 1) ∧ S_ = S1) (zPost cD cy (zAd cy S_ sz_)) (zAd cy S_ sz_)) 0 0 (zAd cy S_ sz_) := by
  refine z_ofW (cc := cX12_isShelf) (maxL := 2) (ret := (some .boolean)) (own := RX12) (QQ := fun A_ => va_Qi (fun (v_ : Int32) (S1 : zS) => ((a_ < 0 ∨ 8 ≤ a_) ∧ v_ = 0 ∨ (¬ a_ < 0 ∧ ¬ 8 ≤ a_) ∧ v_ = 1) ∧ S_ = S1) (zPost cD cy A_) A_) (by decide) rfl rfl (Nat.le_of_ble_eq_true rfl) ?_
  intro p_ e_ s_ m_ args_ below_ meth_ c_ A_ ls hcf hr hlk hnm hK_ hE hw hA hl
  obtain ⟨hx, hb_, hml, hown, hts⟩ := id hcf
  have hl : lv_has ls 2 [(0, .ref (r_ 0)), (1, .int a_)] := hl
  refine lv_iload_n hx hb_ dX12_isShelf_0 rfl (lv_at hl 1 rfl) ?_
  refine lv_if_lt (tgt := 14) hx hb_ dX12_isShelf_1 (by decide) (fun c_1 => ?_) (fun c_1 => ?_)
  · refine lv_iconst (v := 0) hx hb_ dX12_isShelf_14 (by decide) ?_
    exact z_iret (ty := .boolean) (v := 0) hcf hr rfl hlk hw (⟨Or.inl ⟨Or.inl c_1, rfl⟩, rfl⟩) dX12_isShelf_15
  · refine lv_iload_n hx hb_ dX12_isShelf_4 rfl (lv_at hl 1 rfl) ?_
    refine lv_bipush (v := 8) hx hb_ dX12_isShelf_5 (by decide) ?_
    refine lv_icmp_ge (tgt := 14) hx hb_ dX12_isShelf_7 (by decide) (fun c_7 => ?_) (fun c_7 => ?_)
    · refine lv_iconst (v := 0) hx hb_ dX12_isShelf_14 (by decide) ?_
      exact z_iret (ty := .boolean) (v := 0) hcf hr rfl hlk hw (⟨Or.inl ⟨Or.inr c_7, rfl⟩, rfl⟩) dX12_isShelf_15
    · refine lv_iconst (v := 1) hx hb_ dX12_isShelf_10 (by decide) ?_
      refine lv_goto (tgt := 15) hx hb_ dX12_isShelf_11 (by decide) ?_
      exact z_iret (ty := .boolean) (v := 1) hcf hr rfl hlk hw (⟨Or.inr ⟨⟨c_1, c_7⟩, rfl⟩, rfl⟩) dX12_isShelf_15

set_option maxHeartbeats 4000000 in
set_option maxRecDepth 100000 in
theorem c_X12_isStrip (l : Launch) (cD : va_G) (cy : Nat → ClassId) (sz_ : Nat) (r_ : Nat → Nat) (S_ : zS) (hSh : ShM S_ r_) (h0 : zI S_ 1200 (r_ 0) = 0) (t_ : Int32) : Met l yX12_isStrip wsX12_isStrip ({ frames := 0, cells := 0, slots := 0, locals := 0 } : Room) (va_Pc [.ref (r_ 0), .int t_] (zPre cD cy S_ sz_)) (va_Qi (fun (v_ : Int32) (S1 : zS) => v_ = 0 ∧ S_ = S1) (zPost cD cy (zAd cy S_ sz_)) (zAd cy S_ sz_)) 0 0 (zAd cy S_ sz_) := by
  refine z_ofW (cc := cX12_isStrip) (maxL := 2) (ret := (some .boolean)) (own := RX12) (QQ := fun A_ => va_Qi (fun (v_ : Int32) (S1 : zS) => v_ = 0 ∧ S_ = S1) (zPost cD cy A_) A_) (by decide) rfl rfl (Nat.le_of_ble_eq_true rfl) ?_
  intro p_ e_ s_ m_ args_ below_ meth_ c_ A_ ls hcf hr hlk hnm hK_ hE hw hA hl
  obtain ⟨hx, hb_, hml, hown, hts⟩ := id hcf
  have hin12 : ∀ w_ ∈ wsX120, w_ ∈ wsX12_isStrip := fun w_ h_ => (List.mem_cons_of_mem _ (List.mem_append_right _ h_))
  have hl : lv_has ls 2 [(0, .ref (r_ 0)), (1, .int t_)] := hl
  refine lv_iload_n hx hb_ dX12_isStrip_0 rfl (lv_at hl 1 rfl) ?_
  refine lv_if_lt (tgt := 16) hx hb_ dX12_isStrip_1 (by decide) (fun c_1 => ?_) (fun c_1 => ?_)
  · refine lv_iconst (v := 0) hx hb_ dX12_isStrip_16 (by decide) ?_
    exact z_iret (ty := .boolean) (v := 0) hcf hr rfl hlk hw (⟨rfl, rfl⟩) dX12_isStrip_17
  · refine lv_iload_n hx hb_ dX12_isStrip_4 rfl (lv_at hl 1 rfl) ?_
    refine lv_aload_n hx hb_ dX12_isStrip_5 rfl (lv_at hl 0 rfl) ?_
    refine z_get (k := 12) (i := 0) (j := 1200) (v := .int 0) (ref := "FoldedInHalfModel") (C := RX12) (T := TX12) (N := 56) hcf hK_ hw hin12 (mL hSh 0) (mK hSh 0) rfl (by decide) (by decide) rfl rfl (congrArg Value.int h0) (List.mem_of_getElem? (i := 1) rfl) (fun _ h_ => h_) dX12_isStrip_6 ?_
    refine lv_icmp_ge (tgt := 16) hx hb_ dX12_isStrip_9 (by decide) (fun c_9 => ?_) (fun c_9 => absurd (zx_nlt c_1) c_9)
    refine lv_iconst (v := 0) hx hb_ dX12_isStrip_16 (by decide) ?_
    exact z_iret (ty := .boolean) (v := 0) hcf hr rfl hlk hw (⟨rfl, rfl⟩) dX12_isStrip_17

set_option maxHeartbeats 4000000 in
set_option maxRecDepth 100000 in
theorem c_X12_wants (l : Launch) (cD : va_G) (cy : Nat → ClassId) (sz_ : Nat) (r_ : Nat → Nat) (S_ : zS) (hSh : ShM S_ r_) (hF : FrM S_ r_) (a_ : Int32) : Met l yX12_wants wsX12_wants ({ frames := 1, cells := 0, slots := 0, locals := 21 } : Room) (va_Pc [.ref (r_ 0), .int a_] (zPre cD cy S_ sz_)) (va_Qi (fun (v_ : Int32) (S1 : zS) => ((a_ < 0 ∨ 8 ≤ a_) ∧ v_ = -1 ∨ (¬ a_ < 0 ∧ ¬ 8 ≤ a_) ∧ v_ = -3) ∧ S_ = S1) (zPost cD cy (zAd cy S_ sz_)) (zAd cy S_ sz_)) 0 0 (zAd cy S_ sz_) := by
  refine z_ofW (cc := cX12_wants) (maxL := 2) (ret := (some .int)) (own := RX12) (QQ := fun A_ => va_Qi (fun (v_ : Int32) (S1 : zS) => ((a_ < 0 ∨ 8 ≤ a_) ∧ v_ = -1 ∨ (¬ a_ < 0 ∧ ¬ 8 ≤ a_) ∧ v_ = -3) ∧ S_ = S1) (zPost cD cy A_) A_) (by decide) rfl rfl (Nat.le_of_ble_eq_true rfl) ?_
  intro p_ e_ s_ m_ args_ below_ meth_ c_ A_ ls hcf hr hlk hnm hK_ hE hw hA hl
  obtain ⟨hx, hb_, hml, hown, hts⟩ := id hcf
  have hin12 : ∀ w_ ∈ wsX120, w_ ∈ wsX12_wants := fun w_ h_ => (List.mem_cons_of_mem _ (List.mem_append_right _ h_))
  have hl : lv_has ls 2 [(0, .ref (r_ 0)), (1, .int a_)] := hl
  refine lv_aload_n hx hb_ dX12_wants_0 rfl (lv_at hl 0 rfl) ?_
  refine lv_iload_n hx hb_ dX12_wants_1 rfl (lv_at hl 1 rfl) ?_
  refine z_ki hw hA (va_runV (As := [.int a_]) (rest := []) hcf (c_X12_isShelf l cD cy _ r_ S_ hSh a_) (cwV 1 hts gX12_wants_X12_isShelf rfl rfl rfl (by decide +kernel) ⟨Nat.le_of_ble_eq_true rfl, Nat.le_of_ble_eq_true rfl⟩) (z_preV (k := 12) hK_ hE hw (mL hSh 0) (mK hSh 0) (by decide) rfl) rfl rfl hl.1 rfl (lv_room (Nat.le_of_ble_eq_true rfl)) dX12_wants_2 ⟨Nat.le_of_ble_eq_true rfl, Nat.le_of_ble_eq_true rfl⟩) (fun v1 S2 H_ locs_ hp hw => ?_)
  obtain ⟨hp, rfl⟩ := hp
  rcases hp with ⟨hs3, rfl⟩ | ⟨⟨ha3, hb3⟩, rfl⟩
  · refine lv_if_ne (tgt := 12) hx hb_ dX12_wants_5 (by decide) (fun c_5 => absurd c_5 (by decide)) (fun _ => ?_)
    refine lv_iconst (v := (-1)) hx hb_ dX12_wants_8 (by decide) ?_
    refine lv_goto (tgt := 42) hx hb_ dX12_wants_9 (by decide) ?_
    exact z_iret (ty := .int) (v := (-1)) hcf hr rfl hlk hw (⟨Or.inl ⟨hs3, rfl⟩, rfl⟩) dX12_wants_42
  · refine lv_if_ne (tgt := 12) hx hb_ dX12_wants_5 (by decide) (fun _ => ?_) (fun c_5 => absurd c_5 (by decide))
    refine lv_aload_n hx hb_ dX12_wants_12 rfl (lv_at hl 0 rfl) ?_
    refine z_get (k := 12) (i := 7) (j := 1207) (v := .ref (r_ 7)) (ref := "FoldedInHalfModel") (C := RX12) (T := TX12) (N := 56) hcf hK_ hw hin12 (mL hSh 0) (mK hSh 0) rfl (by decide) (by decide) rfl rfl (congrArg va_rf (mP hSh 7)) (List.mem_of_getElem? (i := 1) rfl) (fun _ h_ => h_) dX12_wants_13 ?_
    refine lv_iload_n hx hb_ dX12_wants_16 rfl (lv_at hl 1 rfl) ?_
    refine z_iald (n := 8) hcf hK_ hw (mL hSh 7) (mK hSh 7) (mN hSh 7) (zx_in ha3 hb3 (by decide)) dX12_wants_17 ?_
    refine z_topi (y := 0) (hF.2.2.2.2.2.1 _) ?_
    refine lv_iconst (v := 2) hx hb_ dX12_wants_18 (by decide) ?_
    refine lv_icmp_ne (tgt := 27) hx hb_ dX12_wants_19 (by decide) (fun _ => ?_) (fun c_19 => absurd c_19 (by decide))
    refine lv_aload_n hx hb_ dX12_wants_27 rfl (lv_at hl 0 rfl) ?_
    refine z_get (k := 12) (i := 7) (j := 1207) (v := .ref (r_ 7)) (ref := "FoldedInHalfModel") (C := RX12) (T := TX12) (N := 56) hcf hK_ hw hin12 (mL hSh 0) (mK hSh 0) rfl (by decide) (by decide) rfl rfl (congrArg va_rf (mP hSh 7)) (List.mem_of_getElem? (i := 1) rfl) (fun _ h_ => h_) dX12_wants_28 ?_
    refine lv_iload_n hx hb_ dX12_wants_31 rfl (lv_at hl 1 rfl) ?_
    refine z_iald (n := 8) hcf hK_ hw (mL hSh 7) (mK hSh 7) (mN hSh 7) (zx_in ha3 hb3 (by decide)) dX12_wants_32 ?_
    refine z_topi (y := 0) (hF.2.2.2.2.2.1 _) ?_
    refine lv_if_ne (tgt := 41) hx hb_ dX12_wants_33 (by decide) (fun c_33 => absurd c_33 (by decide)) (fun _ => ?_)
    refine lv_bipush (v := (-3)) hx hb_ dX12_wants_36 (by decide) ?_
    refine lv_goto (tgt := 42) hx hb_ dX12_wants_38 (by decide) ?_
    exact z_iret (ty := .int) (v := (-3)) hcf hr rfl hlk hw (⟨Or.inr ⟨⟨ha3, hb3⟩, rfl⟩, rfl⟩) dX12_wants_42

set_option maxHeartbeats 4000000 in
set_option maxRecDepth 100000 in
theorem c_X12_bars (l : Launch) (cD : va_G) (cy : Nat → ClassId) (sz_ : Nat) (r_ : Nat → Nat) (S_ : zS) (hSh : ShM S_ r_) (hF : FrM S_ r_) (a_ n_ : Int32) : Met l yX12_bars wsX12_bars ({ frames := 2, cells := 0, slots := 0, locals := 42 } : Room) (va_Pc [.ref (r_ 0), .int a_, .int n_] (zPre cD cy S_ sz_)) (va_Qi (fun (v_ : Int32) (S1 : zS) => ((a_ < 0 ∨ 8 ≤ a_) ∧ v_ = -1 ∨ (¬ a_ < 0 ∧ ¬ 8 ≤ a_) ∧ v_ = -3) ∧ S_ = S1) (zPost cD cy (zAd cy S_ sz_)) (zAd cy S_ sz_)) 0 0 (zAd cy S_ sz_) := by
  refine z_ofW (cc := cX12_bars) (maxL := 4) (ret := (some .int)) (own := RX12) (QQ := fun A_ => va_Qi (fun (v_ : Int32) (S1 : zS) => ((a_ < 0 ∨ 8 ≤ a_) ∧ v_ = -1 ∨ (¬ a_ < 0 ∧ ¬ 8 ≤ a_) ∧ v_ = -3) ∧ S_ = S1) (zPost cD cy A_) A_) (by decide) rfl rfl (Nat.le_of_ble_eq_true rfl) ?_
  intro p_ e_ s_ m_ args_ below_ meth_ c_ A_ ls hcf hr hlk hnm hK_ hE hw hA hl
  obtain ⟨hx, hb_, hml, hown, hts⟩ := id hcf
  have hl : lv_has ls 4 [(0, .ref (r_ 0)), (1, .int a_), (2, .int n_)] := hl
  refine lv_aload_n hx hb_ dX12_bars_0 rfl (lv_at hl 0 rfl) ?_
  refine lv_iload_n hx hb_ dX12_bars_1 rfl (lv_at hl 1 rfl) ?_
  refine z_ki hw hA (va_runV (As := [.int a_]) (rest := []) hcf (c_X12_wants l cD cy _ r_ S_ hSh hF a_) (cwV 1 hts gX12_bars_X12_wants rfl rfl rfl (by decide +kernel) ⟨Nat.le_of_ble_eq_true rfl, Nat.le_of_ble_eq_true rfl⟩) (z_preV (k := 12) hK_ hE hw (mL hSh 0) (mK hSh 0) (by decide) rfl) rfl rfl hl.1 rfl (lv_room (Nat.le_of_ble_eq_true rfl)) dX12_bars_2 ⟨Nat.le_of_ble_eq_true rfl, Nat.le_of_ble_eq_true rfl⟩) (fun v1 S2 H_ locs_ hp hw => ?_)
  obtain ⟨hp, rfl⟩ := hp
  rcases hp with ⟨hs3, rfl⟩ | ⟨⟨ha3, hb3⟩, rfl⟩
  · refine lv_istore_n (lv' := [(3, .int (-1)), (0, .ref (r_ 0)), (1, .int a_), (2, .int n_)]) hx hb_ dX12_bars_5 rfl hl (by decide) rfl (fun ls hl => ?_)
    refine lv_iload_n hx hb_ dX12_bars_6 rfl (lv_at hl 0 rfl) ?_
    refine lv_if_eq (tgt := 12) hx hb_ dX12_bars_7 (by decide) (fun c_7 => absurd c_7 (by decide)) (fun _ => ?_)
    refine lv_iload_n hx hb_ dX12_bars_10 rfl (lv_at hl 0 rfl) ?_
    exact z_iret (ty := .int) (v := (-1)) hcf hr rfl hlk hw (⟨Or.inl ⟨hs3, rfl⟩, rfl⟩) dX12_bars_11
  · refine lv_istore_n (lv' := [(3, .int (-3)), (0, .ref (r_ 0)), (1, .int a_), (2, .int n_)]) hx hb_ dX12_bars_5 rfl hl (by decide) rfl (fun ls hl => ?_)
    refine lv_iload_n hx hb_ dX12_bars_6 rfl (lv_at hl 0 rfl) ?_
    refine lv_if_eq (tgt := 12) hx hb_ dX12_bars_7 (by decide) (fun c_7 => absurd c_7 (by decide)) (fun _ => ?_)
    refine lv_iload_n hx hb_ dX12_bars_10 rfl (lv_at hl 0 rfl) ?_
    exact z_iret (ty := .int) (v := (-3)) hcf hr rfl hlk hw (⟨Or.inr ⟨⟨ha3, hb3⟩, rfl⟩, rfl⟩) dX12_bars_11

set_option maxHeartbeats 4000000 in
set_option maxRecDepth 100000 in
theorem c_X12_walks (l : Launch) (cD : va_G) (cy : Nat → ClassId) (sz_ : Nat) (r_ : Nat → Nat) (S_ : zS) (hSh : ShM S_ r_) (hF : FrM S_ r_) (t_ n_ : Int32) : Met l yX12_walks wsX12_walks ({ frames := 1, cells := 0, slots := 0, locals := 21 } : Room) (va_Pc [.ref (r_ 0), .int t_, .int n_] (zPre cD cy S_ sz_)) (va_Qi (fun (v_ : Int32) (S1 : zS) => v_ = -1 ∧ S_ = S1) (zPost cD cy (zAd cy S_ sz_)) (zAd cy S_ sz_)) 0 0 (zAd cy S_ sz_) := by
  refine z_ofW (cc := cX12_walks) (maxL := 3) (ret := (some .int)) (own := RX12) (QQ := fun A_ => va_Qi (fun (v_ : Int32) (S1 : zS) => v_ = -1 ∧ S_ = S1) (zPost cD cy A_) A_) (by decide) rfl rfl (Nat.le_of_ble_eq_true rfl) ?_
  intro p_ e_ s_ m_ args_ below_ meth_ c_ A_ ls hcf hr hlk hnm hK_ hE hw hA hl
  obtain ⟨hx, hb_, hml, hown, hts⟩ := id hcf
  have hl : lv_has ls 3 [(0, .ref (r_ 0)), (1, .int t_), (2, .int n_)] := hl
  refine lv_aload_n hx hb_ dX12_walks_0 rfl (lv_at hl 0 rfl) ?_
  refine lv_iload_n hx hb_ dX12_walks_1 rfl (lv_at hl 1 rfl) ?_
  refine z_ki hw hA (va_runV (As := [.int t_]) (rest := []) hcf (c_X12_isStrip l cD cy _ r_ S_ hSh hF.1 t_) (cwV 1 hts gX12_walks_X12_isStrip rfl rfl rfl (by decide +kernel) ⟨Nat.le_of_ble_eq_true rfl, Nat.le_of_ble_eq_true rfl⟩) (z_preV (k := 12) hK_ hE hw (mL hSh 0) (mK hSh 0) (by decide) rfl) rfl rfl hl.1 rfl (lv_room (Nat.le_of_ble_eq_true rfl)) dX12_walks_2 ⟨Nat.le_of_ble_eq_true rfl, Nat.le_of_ble_eq_true rfl⟩) (fun v1 S2 H_ locs_ hp hw => ?_)
  obtain ⟨rfl, rfl⟩ := hp
  refine lv_if_ne (tgt := 10) hx hb_ dX12_walks_5 (by decide) (fun c_5 => absurd c_5 (by decide)) (fun _ => ?_)
  refine lv_iconst (v := (-1)) hx hb_ dX12_walks_8 (by decide) ?_
  exact z_iret (ty := .int) (v := (-1)) hcf hr rfl hlk hw (⟨rfl, rfl⟩) dX12_walks_9

set_option maxHeartbeats 4000000 in
set_option maxRecDepth 100000 in
theorem c_X12_all (l : Launch) (cD : va_G) (cy : Nat → ClassId) (sz_ : Nat) (r_ : Nat → Nat) (S_ : zS) (hSh : ShM S_ r_) (a0_ b0_ : Nat) (hLa : a0_ ∈ zL S_) (hka : zK S_ a0_ = 13) (hna : zN S_ a0_ = 25) (hLb : b0_ ∈ zL S_) (hkb : zK S_ b0_ = 14) (hnb : zN S_ b0_ = 8) : Met l yX12_all wsX12_all ({ frames := 0, cells := 0, slots := 0, locals := 0 } : Room) (va_Pc [.ref (r_ 0), .ref a0_, .ref b0_, .int 0] (zPre cD cy S_ sz_)) (va_Qv (fun (S1 : zS) => ∃ f_ g_, S1 = zsB (zsA S_ a0_ f_) b0_ g_) (zPost cD cy (zAd cy S_ sz_)) (zAd cy S_ sz_)) 0 0 (zAd cy S_ sz_) := by
  refine z_ofW (cc := cX12_all) (maxL := 5) (ret := none) (own := RX12) (QQ := fun A_ => va_Qv (fun (S1 : zS) => ∃ f_ g_, S1 = zsB (zsA S_ a0_ f_) b0_ g_) (zPost cD cy A_) A_) (by decide) rfl rfl (Nat.le_of_ble_eq_true rfl) ?_
  intro p_ e_ s_ m_ args_ below_ meth_ c_ A_ ls hcf hr hlk hnm hK_ hE hw hA hl
  obtain ⟨hx, hb_, hml, hown, hts⟩ := id hcf
  have hin12 : ∀ w_ ∈ wsX120, w_ ∈ wsX12_all := fun w_ h_ => (List.mem_cons_of_mem _ (List.mem_append_right _ h_))
  have hl : lv_has ls 5 [(0, .ref (r_ 0)), (1, .ref a0_), (2, .ref b0_), (3, .int 0)] := hl
  refine lv_iconst (v := 0) hx hb_ dX12_all_0 (by decide) ?_
  refine lv_istore (lv' := [(4, .int 0), (0, .ref (r_ 0)), (1, .ref a0_), (2, .ref b0_), (3, .int 0)]) hx hb_ dX12_all_1 hl (by decide) rfl (fun ls hl => ?_)
  have J_ : ∀ (n_ j_ : Nat) (i_ : Int32), i_ = nI j_ → j_ ≤ 8 → 8 < j_ + n_ → ∀ (f_ : Nat → Int32) (g_ : Nat → Int64) (H_ : Heap) (locs_ : List Loc), zPw cD cy A_ s_.heap (zsB (zsA S_ a0_ f_) b0_ g_) H_ locs_ → ∀ ls : Array Slot, lv_has ls 5 [(0, .ref (r_ 0)), (1, .ref a0_), (2, .ref b0_), (3, .int 0), (4, .int i_)] → W p_ l e_ ({ frames := 0, cells := 0, slots := 0, locals := 0 } : Room) s_ m_ args_ below_ meth_ c_ H_ locs_ 0 0 (MQ below_ (va_Qv (fun (S1 : zS) => ∃ f_ g_, S1 = zsB (zsA S_ a0_ f_) b0_ g_) (zPost cD cy A_) A_) args_ s_ 0 0 A_) (F0 m_ 3 ls []) := by
    intro n_
    induction n_ with
    | zero => intro j_ i_ _ _ h_; exact absurd h_ (by omega)
    | succ n_ ih_ =>
      intro j_ i_ ei hj hm_ f_ g_ H_ locs_ hw ls hl
      have eN_ : (8 : Int32) = nI 8 := by decide
      refine lv_iload hx hb_ dX12_all_3 (lv_at hl 4 rfl) ?_
      refine lv_bipush (v := 8) hx hb_ dX12_all_5 (by decide) ?_
      refine lv_icmp_ge (tgt := 123) hx hb_ dX12_all_7 (by decide) (fun c_7 => ?_) (fun c_7 => ?_)
      · refine lv_iload_n hx hb_ dX12_all_123 rfl (lv_at hl 3 rfl) ?_
        refine lv_if_eq (tgt := 138) hx hb_ dX12_all_124 (by decide) (fun _ => ?_) (fun c_124 => absurd c_124 (by decide))
        refine lv_aload_n hx hb_ dX12_all_138 rfl (lv_at hl 1 rfl) ?_
        refine lv_bipush (v := 24) hx hb_ dX12_all_139 (by decide) ?_
        refine lv_aload_n hx hb_ dX12_all_141 rfl (lv_at hl 0 rfl) ?_
        refine z_get (k := 12) (i := 0) (j := 1200) (v := .int (zI S_ 1200 (r_ 0))) (ref := "FoldedInHalfModel") (C := RX12) (T := TX12) (N := 56) hcf hK_ hw hin12 (mL hSh 0) (mK hSh 0) rfl (by decide) (by decide) rfl rfl rfl (List.mem_of_getElem? (i := 5) rfl) (fun _ h_ => h_) dX12_all_142 ?_
        refine z_iast (n := 25) hcf hK_ hw hLa hka hna (by unfold vp_in; decide) dX12_all_145 (fun H_ locs_ hw => ?_)
        obtain ⟨f1, ef1⟩ : ∃ zz, zz = (upd (zA (zsB (zsA S_ a0_ f_) b0_ g_) a0_) (24 : Int32).toNatClampNeg (zI S_ 1200 (r_ 0))) := ⟨_, rfl⟩
        rw [← ef1] at hw
        clear ef1
        rw [zsA_zsB, zsA_zsA] at hw
        exact z_vret hcf hr hlk hw (⟨_, g_, rfl⟩) dX12_all_146
      · have hlt : j_ < 8 := zn_lt ei eN_ (by omega) c_7
        refine lv_iload_n hx hb_ dX12_all_10 rfl (lv_at hl 3 rfl) ?_
        refine lv_if_eq (tgt := 67) hx hb_ dX12_all_11 (by decide) (fun _ => ?_) (fun c_11 => absurd c_11 (by decide))
        refine lv_aload_n hx hb_ dX12_all_67 rfl (lv_at hl 1 rfl) ?_
        refine lv_iload hx hb_ dX12_all_68 (lv_at hl 4 rfl) ?_
        refine lv_aload_n hx hb_ dX12_all_70 rfl (lv_at hl 0 rfl) ?_
        refine z_get (k := 12) (i := 3) (j := 1203) (v := .ref (r_ 3)) (ref := "FoldedInHalfModel") (C := RX12) (T := TX12) (N := 56) hcf hK_ hw hin12 (mL hSh 0) (mK hSh 0) rfl (by decide) (by decide) rfl rfl (congrArg va_rf (mP hSh 3)) (List.mem_of_getElem? (i := 1) rfl) (fun _ h_ => h_) dX12_all_71 ?_
        refine lv_iload hx hb_ dX12_all_74 (lv_at hl 4 rfl) ?_
        refine z_iald (n := 8) hcf hK_ hw (mL hSh 3) (mK hSh 3) (mN hSh 3) (by rw [ei]; exact vp_in_nI (by omega) (by decide)) dX12_all_76 ?_
        refine z_iast (n := 25) hcf hK_ hw hLa hka hna (by rw [ei]; exact vp_in_nI (by omega) (by decide)) dX12_all_77 (fun H_ locs_ hw => ?_)
        obtain ⟨f2, ef2⟩ : ∃ zz, zz = (upd (zA (zsB (zsA S_ a0_ f_) b0_ g_) a0_) (i_ : Int32).toNatClampNeg (zA (zsB (zsA S_ a0_ f_) b0_ g_) (r_ 3) (i_ : Int32).toNatClampNeg)) := ⟨_, rfl⟩
        rw [← ef2] at hw
        clear ef2
        rw [zsA_zsB, zsA_zsA] at hw
        refine lv_aload_n hx hb_ dX12_all_78 rfl (lv_at hl 1 rfl) ?_
        refine lv_bipush (v := 8) hx hb_ dX12_all_79 (by decide) ?_
        refine lv_iload hx hb_ dX12_all_81 (lv_at hl 4 rfl) ?_
        refine lv_iadd hx hb_ dX12_all_83 ?_
        refine lv_aload_n hx hb_ dX12_all_84 rfl (lv_at hl 0 rfl) ?_
        refine z_get (k := 12) (i := 4) (j := 1204) (v := .ref (r_ 4)) (ref := "FoldedInHalfModel") (C := RX12) (T := TX12) (N := 56) hcf hK_ hw hin12 (mL hSh 0) (mK hSh 0) rfl (by decide) (by decide) rfl rfl (congrArg va_rf (mP hSh 4)) (List.mem_of_getElem? (i := 2) rfl) (fun _ h_ => h_) dX12_all_85 ?_
        refine lv_iload hx hb_ dX12_all_88 (lv_at hl 4 rfl) ?_
        refine z_iald (n := 8) hcf hK_ hw (mL hSh 4) (mK hSh 4) (mN hSh 4) (by rw [ei]; exact vp_in_nI (by omega) (by decide)) dX12_all_90 ?_
        refine z_iast (n := 25) hcf hK_ hw hLa hka hna (by rw [ei, show (8 : Int32) + nI j_ = nI (8 + j_) from nI_add 8 j_]; exact vp_in_nI (by omega) (by decide)) dX12_all_91 (fun H_ locs_ hw => ?_)
        obtain ⟨f3_, ef3⟩ : ∃ zz, zz = (upd (zA (zsB (zsA S_ a0_ f2) b0_ g_) a0_) ((8 + i_) : Int32).toNatClampNeg (zA (zsB (zsA S_ a0_ f2) b0_ g_) (r_ 4) (i_ : Int32).toNatClampNeg)) := ⟨_, rfl⟩
        rw [← ef3] at hw
        clear ef3
        rw [zsA_zsB, zsA_zsA] at hw
        refine lv_aload_n hx hb_ dX12_all_92 rfl (lv_at hl 1 rfl) ?_
        refine lv_bipush (v := 16) hx hb_ dX12_all_93 (by decide) ?_
        refine lv_iload hx hb_ dX12_all_95 (lv_at hl 4 rfl) ?_
        refine lv_iadd hx hb_ dX12_all_97 ?_
        refine lv_aload_n hx hb_ dX12_all_98 rfl (lv_at hl 0 rfl) ?_
        refine z_get (k := 12) (i := 5) (j := 1205) (v := .ref (r_ 5)) (ref := "FoldedInHalfModel") (C := RX12) (T := TX12) (N := 56) hcf hK_ hw hin12 (mL hSh 0) (mK hSh 0) rfl (by decide) (by decide) rfl rfl (congrArg va_rf (mP hSh 5)) (List.mem_of_getElem? (i := 3) rfl) (fun _ h_ => h_) dX12_all_99 ?_
        refine lv_iload hx hb_ dX12_all_102 (lv_at hl 4 rfl) ?_
        refine z_iald (n := 8) hcf hK_ hw (mL hSh 5) (mK hSh 5) (mN hSh 5) (by rw [ei]; exact vp_in_nI (by omega) (by decide)) dX12_all_104 ?_
        refine z_iast (n := 25) hcf hK_ hw hLa hka hna (by rw [ei, show (16 : Int32) + nI j_ = nI (16 + j_) from nI_add 16 j_]; exact vp_in_nI (by omega) (by decide)) dX12_all_105 (fun H_ locs_ hw => ?_)
        obtain ⟨f4, ef4⟩ : ∃ zz, zz = (upd (zA (zsB (zsA S_ a0_ f3_) b0_ g_) a0_) ((16 + i_) : Int32).toNatClampNeg (zA (zsB (zsA S_ a0_ f3_) b0_ g_) (r_ 5) (i_ : Int32).toNatClampNeg)) := ⟨_, rfl⟩
        rw [← ef4] at hw
        clear ef4
        rw [zsA_zsB, zsA_zsA] at hw
        refine lv_aload_n hx hb_ dX12_all_106 rfl (lv_at hl 2 rfl) ?_
        refine lv_iload hx hb_ dX12_all_107 (lv_at hl 4 rfl) ?_
        refine lv_aload_n hx hb_ dX12_all_109 rfl (lv_at hl 0 rfl) ?_
        refine z_get (k := 12) (i := 6) (j := 1206) (v := .ref (r_ 6)) (ref := "FoldedInHalfModel") (C := RX12) (T := TX12) (N := 56) hcf hK_ hw hin12 (mL hSh 0) (mK hSh 0) rfl (by decide) (by decide) rfl rfl (congrArg va_rf (mP hSh 6)) (List.mem_of_getElem? (i := 4) rfl) (fun _ h_ => h_) dX12_all_110 ?_
        refine lv_iload hx hb_ dX12_all_113 (lv_at hl 4 rfl) ?_
        refine z_lald (n := 8) hcf hK_ hw (mL hSh 6) (mK hSh 6) (mN hSh 6) (by rw [ei]; exact vp_in_nI (by omega) (by decide)) dX12_all_115 ?_
        refine z_last (n := 8) hcf hK_ hw hLb hkb hnb (by rw [ei]; exact vp_in_nI (by omega) (by decide)) dX12_all_116 (fun H_ locs_ hw => ?_)
        obtain ⟨f5, ef5⟩ : ∃ zz, zz = (vp_updL (zB (zsB (zsA S_ a0_ f4) b0_ g_) b0_) (i_ : Int32).toNatClampNeg (zB (zsB (zsA S_ a0_ f4) b0_ g_) (r_ 6) (i_ : Int32).toNatClampNeg)) := ⟨_, rfl⟩
        rw [← ef5] at hw
        clear ef5
        rw [zsB_zsB] at hw
        obtain ⟨i2_, ei2⟩ : ∃ y_ : Int32, y_ = i_ + 1 := ⟨_, rfl⟩
        refine lv_iinc (v := i2_) (lv' := [(4, .int i2_), (0, .ref (r_ 0)), (1, .ref a0_), (2, .ref b0_), (3, .int 0)]) hx hb_ dX12_all_117 hl (k := 4) rfl (by rw [ei2]; rfl) (by decide) rfl (fun ls hl => ?_)
        refine lv_goto (tgt := 3) hx hb_ dX12_all_120 (by decide) ?_
        exact ih_ (j_ + 1) i2_ (by rw [ei2, ei]; exact nI_1 j_) hlt (by omega) _ _ _ _ hw ls (lv_sub hl [1, 2, 3, 4, 0] rfl)
  exact J_ 9 0 0 nI_0.symm (Nat.zero_le _) (by omega) (zA S_ a0_) (zB S_ b0_) _ _ (by rw [zsA_self, zsB_self]; exact hw) ls (lv_sub hl [1, 2, 3, 4, 0] rfl)
