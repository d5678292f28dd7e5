set_option maxHeartbeats 4000000 in
set_option maxRecDepth 100000 in
theorem c_J7_fill_d0a16 (l : Launch) (cD : va_G) (cy : Nat → ClassId) (sz_ : Nat) (S_ : zS) (a0_ n0_ : Nat) (x_ : Int64) (hL : a0_ ∈ zL S_) (hk : zK S_ a0_ = 14) (hn : zN S_ a0_ = n0_) (hn0 : n0_ < 2147483648)  : Met l yJ7_fill_d0a16 wsJ7_fill_d0a16 ({ frames := 0, cells := 0, slots := 0, locals := 0 } : Room) (va_Pc [.ref a0_, .long x_] (zPre cD cy S_ sz_)) (va_Qv (fun (S1 : zS) => ∃ f_, S1 = zsB S_ a0_ f_ ∧ (∀ k_, k_ < n0_ → f_ k_ = x_) ∧ (∀ k_, n0_ ≤ k_ → f_ k_ = zB S_ a0_ k_)) (zPost cD cy (zAd cy S_ sz_)) (zAd cy S_ sz_)) 0 0 (zAd cy S_ sz_) := by
  refine z_ofW (cc := cJ7_fill_d0a16) (maxL := 5) (ret := none) (own := RJ7) (QQ := fun A_ => va_Qv (fun (S1 : zS) => ∃ f_, S1 = zsB S_ a0_ f_ ∧ (∀ k_, k_ < n0_ → f_ k_ = x_) ∧ (∀ k_, n0_ ≤ k_ → f_ k_ = zB S_ a0_ k_)) (zPost cD cy A_) A_) (by decide) rfl rfl (Nat.le_of_ble_eq_true rfl) ?_
  intro p_ e_ s_ m_ args_ below_ meth_ c_ A_ ls hcf hr hlk hnm hK_ hE hw hA hl
  obtain ⟨hx, hb_, hml, hown, hts⟩ := id hcf
  have hl : lv_has ls 5 [(0, .ref a0_), (1, .long x_)] := hl
  obtain ⟨N_, eN_⟩ : ∃ N_ : Int32, N_ = nI n0_ := ⟨_, rfl⟩
  refine lv_iconst (v := 0) hx hb_ dJ7_fill_d0a16_0 (by decide) ?_
  refine lv_istore_n (lv' := [(3, .int 0), (0, .ref a0_), (1, .long x_)]) hx hb_ dJ7_fill_d0a16_1 rfl hl (by decide) rfl (fun ls hl => ?_)
  refine lv_aload_n hx hb_ dJ7_fill_d0a16_2 rfl (lv_at hl 1 rfl) ?_
  refine z_alen (n := n0_) (v := N_) hcf hK_ hw hL (Or.inr (Or.inl hk)) hn eN_.symm dJ7_fill_d0a16_3 ?_
  refine lv_istore (lv' := [(4, .int N_), (3, .int 0), (0, .ref a0_), (1, .long x_)]) hx hb_ dJ7_fill_d0a16_4 hl (by decide) rfl (fun ls hl => ?_)
  have J_ : ∀ (n_ j_ : Nat) (i_ : Int32), i_ = nI j_ → j_ ≤ n0_ → n0_ < j_ + n_ → ∀ (f_ : Nat → Int64), (∀ k_, k_ < j_ → f_ k_ = x_) → (∀ k_, j_ ≤ k_ → f_ k_ = zB S_ a0_ k_) → ∀ (H_ : Heap) (locs_ : List Loc), zPw cD cy A_ s_.heap (zsB S_ a0_ f_) H_ locs_ → ∀ ls : Array Slot, lv_has ls 5 [(0, .ref a0_), (1, .long x_), (3, .int i_), (4, .int N_)] → W p_ l e_ ({ frames := 0, cells := 0, slots := 0, locals := 0 } : Room) s_ m_ args_ below_ meth_ c_ H_ locs_ 0 0 (MQ below_ (va_Qv (fun (S1 : zS) => ∃ f_, S1 = zsB S_ a0_ f_ ∧ (∀ k_, k_ < n0_ → f_ k_ = x_) ∧ (∀ k_, n0_ ≤ k_ → f_ k_ = zB S_ a0_ k_)) (zPost cD cy A_) A_) args_ s_ 0 0 A_) (F0 m_ 6 ls []) := by
    intro n_
    induction n_ with
    | zero => intro j_ i_ _ _ h_; exact absurd h_ (by omega)
    | succ n_ ih_ =>
      intro j_ i_ ei hj hm_ f_ hf hg H_ locs_ hw ls hl
      have hk2 : zK (zsB S_ a0_ f_) a0_ = 14 := hk
      refine lv_iload_n hx hb_ dJ7_fill_d0a16_6 rfl (lv_at hl 2 rfl) ?_
      refine lv_iload hx hb_ dJ7_fill_d0a16_7 (lv_at hl 3 rfl) ?_
      refine lv_icmp_ge (tgt := 22) hx hb_ dJ7_fill_d0a16_9 (by decide) (fun c_9 => ?_) (fun c_9 => ?_)
      · exact z_vret hcf hr hlk hw (⟨f_, rfl, fun k_ h_ => hf k_ (by have := zn_ge ei eN_ hn0 c_9; omega), fun k_ h_ => hg k_ (by omega)⟩) dJ7_fill_d0a16_22
      · refine lv_aload_n hx hb_ dJ7_fill_d0a16_12 rfl (lv_at hl 0 rfl) ?_
        refine lv_iload_n hx hb_ dJ7_fill_d0a16_13 rfl (lv_at hl 2 rfl) ?_
        refine lv_lload_n hx hb_ dJ7_fill_d0a16_14 rfl (lv_at hl 1 rfl) ?_
        refine z_last (n := n0_) hcf hK_ hw hL hk2 hn (by rw [ei]; exact vp_in_nI (zn_lt ei eN_ (by omega) c_9) hn0) dJ7_fill_d0a16_15 (fun H_ locs_ hw => ?_)
        obtain ⟨i2_, ei2⟩ : ∃ y_ : Int32, y_ = i_ + 1 := ⟨_, rfl⟩
        refine lv_iinc (v := i2_) (lv' := [(3, .int i2_), (0, .ref a0_), (1, .long x_), (4, .int N_)]) hx hb_ dJ7_fill_d0a16_16 hl (k := 2) rfl (by rw [ei2]; rfl) (by decide) rfl (fun ls hl => ?_)
        refine lv_goto (tgt := 6) hx hb_ dJ7_fill_d0a16_19 (by decide) ?_
        rw [zsB_zsB, zB_zsB] at hw
        have hlt : j_ < n0_ := zn_lt ei eN_ (by omega) c_9
        refine ih_ (j_ + 1) i2_ (by rw [ei2, ei]; exact nI_1 j_) hlt (by omega) _ (fun k_ hk => ?_) (fun k_ hk => ?_) _ _ hw ls (lv_sub hl [1, 2, 0, 3] rfl)
        · by_cases e_ : k_ = j_
          · subst e_; simp [vp_updL, ei, nI_clamp (show k_ < 2 ^ 31 by omega)]
          · simp only [vp_updL, ei, nI_clamp (show j_ < 2 ^ 31 by omega), if_neg e_]; exact hf k_ (by omega)
        · have e_ : k_ ≠ j_ := by omega
          simp only [vp_updL, ei, nI_clamp (show j_ < 2 ^ 31 by omega), if_neg e_]; exact hg k_ (by omega)
  exact J_ (n0_ + 1) 0 0 nI_0.symm (Nat.zero_le _) (by omega) (zB S_ a0_) (fun k_ h_ => absurd h_ (Nat.not_lt_zero k_)) (fun k_ _ => rfl) _ _ (by rw [zsB_self]; exact hw) ls (lv_sub hl [2, 3, 1, 0] rfl)

set_option maxHeartbeats 4000000 in
set_option maxRecDepth 100000 in
theorem c_J7_fill_53178 (l : Launch) (cD : va_G) (cy : Nat → ClassId) (sz_ : Nat) (S_ : zS) (a0_ n0_ : Nat) (x_ : Int32) (hL : a0_ ∈ zL S_) (hk : zK S_ a0_ = 13) (hn : zN S_ a0_ = n0_) (hn0 : n0_ < 2147483648)  : Met l yJ7_fill_53178 wsJ7_fill_53178 ({ frames := 0, cells := 0, slots := 0, locals := 0 } : Room) (va_Pc [.ref a0_, .int x_] (zPre cD cy S_ sz_)) (va_Qv (fun (S1 : zS) => ∃ f_, S1 = zsA S_ a0_ f_ ∧ (∀ k_, k_ < n0_ → f_ k_ = x_) ∧ (∀ k_, n0_ ≤ k_ → f_ k_ = zA S_ a0_ k_)) (zPost cD cy (zAd cy S_ sz_)) (zAd cy S_ sz_)) 0 0 (zAd cy S_ sz_) := by
  refine z_ofW (cc := cJ7_fill_53178) (maxL := 4) (ret := none) (own := RJ7) (QQ := fun A_ => va_Qv (fun (S1 : zS) => ∃ f_, S1 = zsA S_ a0_ f_ ∧ (∀ k_, k_ < n0_ → f_ k_ = x_) ∧ (∀ k_, n0_ ≤ k_ → f_ k_ = zA S_ a0_ k_)) (zPost cD cy A_) A_) (by decide) rfl rfl (Nat.le_of_ble_eq_true rfl) ?_
  intro p_ e_ s_ m_ args_ below_ meth_ c_ A_ ls hcf hr hlk hnm hK_ hE hw hA hl
  obtain ⟨hx, hb_, hml, hown, hts⟩ := id hcf
  have hl : lv_has ls 4 [(0, .ref a0_), (1, .int x_)] := hl
  obtain ⟨N_, eN_⟩ : ∃ N_ : Int32, N_ = nI n0_ := ⟨_, rfl⟩
  refine lv_iconst (v := 0) hx hb_ dJ7_fill_53178_0 (by decide) ?_
  refine lv_istore_n (lv' := [(2, .int 0), (0, .ref a0_), (1, .int x_)]) hx hb_ dJ7_fill_53178_1 rfl hl (by decide) rfl (fun ls hl => ?_)
  refine lv_aload_n hx hb_ dJ7_fill_53178_2 rfl (lv_at hl 1 rfl) ?_
  refine z_alen (n := n0_) (v := N_) hcf hK_ hw hL (Or.inl hk) hn eN_.symm dJ7_fill_53178_3 ?_
  refine lv_istore_n (lv' := [(3, .int N_), (2, .int 0), (0, .ref a0_), (1, .int x_)]) hx hb_ dJ7_fill_53178_4 rfl hl (by decide) rfl (fun ls hl => ?_)
  have J_ : ∀ (n_ j_ : Nat) (i_ : Int32), i_ = nI j_ → j_ ≤ n0_ → n0_ < j_ + n_ → ∀ (f_ : Nat → Int32), (∀ k_, k_ < j_ → f_ k_ = x_) → (∀ k_, j_ ≤ k_ → f_ k_ = zA S_ a0_ k_) → ∀ (H_ : Heap) (locs_ : List Loc), zPw cD cy A_ s_.heap (zsA S_ a0_ f_) H_ locs_ → ∀ ls : Array Slot, lv_has ls 4 [(0, .ref a0_), (1, .int x_), (2, .int i_), (3, .int N_)] → W p_ l e_ ({ frames := 0, cells := 0, slots := 0, locals := 0 } : Room) s_ m_ args_ below_ meth_ c_ H_ locs_ 0 0 (MQ below_ (va_Qv (fun (S1 : zS) => ∃ f_, S1 = zsA S_ a0_ f_ ∧ (∀ k_, k_ < n0_ → f_ k_ = x_) ∧ (∀ k_, n0_ ≤ k_ → f_ k_ = zA S_ a0_ k_)) (zPost cD cy A_) A_) args_ s_ 0 0 A_) (F0 m_ 5 ls []) := by
    intro n_
    induction n_ with
    | zero => intro j_ i_ _ _ h_; exact absurd h_ (by omega)
    | succ n_ ih_ =>
      intro j_ i_ ei hj hm_ f_ hf hg H_ locs_ hw ls hl
      have hk2 : zK (zsA S_ a0_ f_) a0_ = 13 := hk
      refine lv_iload_n hx hb_ dJ7_fill_53178_5 rfl (lv_at hl 2 rfl) ?_
      refine lv_iload_n hx hb_ dJ7_fill_53178_6 rfl (lv_at hl 3 rfl) ?_
      refine lv_icmp_ge (tgt := 20) hx hb_ dJ7_fill_53178_7 (by decide) (fun c_7 => ?_) (fun c_7 => ?_)
      · exact z_vret hcf hr hlk hw (⟨f_, rfl, fun k_ h_ => hf k_ (by have := zn_ge ei eN_ hn0 c_7; omega), fun k_ h_ => hg k_ (by omega)⟩) dJ7_fill_53178_20
      · refine lv_aload_n hx hb_ dJ7_fill_53178_10 rfl (lv_at hl 0 rfl) ?_
        refine lv_iload_n hx hb_ dJ7_fill_53178_11 rfl (lv_at hl 2 rfl) ?_
        refine lv_iload_n hx hb_ dJ7_fill_53178_12 rfl (lv_at hl 1 rfl) ?_
        refine z_iast (n := n0_) hcf hK_ hw hL hk2 hn (by rw [ei]; exact vp_in_nI (zn_lt ei eN_ (by omega) c_7) hn0) dJ7_fill_53178_13 (fun H_ locs_ hw => ?_)
        obtain ⟨i2_, ei2⟩ : ∃ y_ : Int32, y_ = i_ + 1 := ⟨_, rfl⟩
        refine lv_iinc (v := i2_) (lv' := [(2, .int i2_), (0, .ref a0_), (1, .int x_), (3, .int N_)]) hx hb_ dJ7_fill_53178_14 hl (k := 2) rfl (by rw [ei2]; rfl) (by decide) rfl (fun ls hl => ?_)
        refine lv_goto (tgt := 5) hx hb_ dJ7_fill_53178_17 (by decide) ?_
        rw [zsA_zsA, zA_zsA] at hw
        have hlt : j_ < n0_ := zn_lt ei eN_ (by omega) c_7
        refine ih_ (j_ + 1) i2_ (by rw [ei2, ei]; exact nI_1 j_) hlt (by omega) _ (fun k_ hk => ?_) (fun k_ hk => ?_) _ _ hw ls (lv_sub hl [1, 2, 0, 3] rfl)
        · by_cases e_ : k_ = j_
          · subst e_; simp [upd, ei, nI_clamp (show k_ < 2 ^ 31 by omega)]
          · simp only [upd, ei, nI_clamp (show j_ < 2 ^ 31 by omega), if_neg e_]; exact hf k_ (by omega)
        · have e_ : k_ ≠ j_ := by omega
          simp only [upd, ei, nI_clamp (show j_ < 2 ^ 31 by omega), if_neg e_]; exact hg k_ (by omega)
  exact J_ (n0_ + 1) 0 0 nI_0.symm (Nat.zero_le _) (by omega) (zA S_ a0_) (fun k_ h_ => absurd h_ (Nat.not_lt_zero k_)) (fun k_ _ => rfl) _ _ (by rw [zsA_self]; exact hw) ls (lv_sub hl [2, 3, 1, 0] rfl)

set_option maxHeartbeats 4000000 in
set_option maxRecDepth 100000 in
/-- refuse(b_), b_ from -7 to -1: b_; a_ refusal more -/
theorem c_X11_refuse (l : Launch) (cD : va_G) (cy : Nat → ClassId) (sz_ : Nat) (r_ : Nat → Nat) (S_ : zS) (hSh : ShC S_ r_) (b_ : Int32) (h1 : ¬ -b_ ≤ 0) (h2 : ¬ 8 ≤ -b_) : Met l yX11_refuse wsX11_refuse ({ frames := 0, cells := 0, slots := 0, locals := 0 } : Room) (va_Pc [.ref (r_ 0), .int b_] (zPre cD cy S_ sz_)) (va_Qi (fun (v_ : Int32) (S1 : zS) => v_ = b_ ∧ ∃ f_, S1 = zsA S_ (r_ 4) f_) (zPost cD cy (zAd cy S_ sz_)) (zAd cy S_ sz_)) 0 0 (zAd cy S_ sz_) := by
  refine z_ofW (cc := cX11_refuse) (maxL := 3) (ret := (some .int)) (own := RX11) (QQ := fun A_ => va_Qi (fun (v_ : Int32) (S1 : zS) => v_ = b_ ∧ ∃ f_, S1 = zsA S_ (r_ 4) f_) (zPost cD cy A_) A_) (by decide) rfl rfl (Nat.le_of_ble_eq_true rfl) ?_
  intro p_ e_ s_ m_ args_ below_ meth_ c_ A_ ls hcf hr hlk hnm hK_ hE hw hA hl
  obtain ⟨hx, hb_, hml, hown, hts⟩ := id hcf
  have hin11 : ∀ w_ ∈ wsX110, w_ ∈ wsX11_refuse := fun w_ h_ => (List.mem_cons_of_mem _ (List.mem_append_right _ h_))
  have hl : lv_has ls 3 [(0, .ref (r_ 0)), (1, .int b_)] := hl
  have hi_ : ∀ q_ : Int32, q_ = -b_ → vp_in q_ 8 := fun q_ e_ => by rw [e_]; exact zx_in (fun z_ => h1 (by rw [zx_lt] at z_; rw [zx_le]; omega)) h2 (by decide)
  refine lv_iload_n hx hb_ dX11_refuse_0 rfl (lv_at hl 1 rfl) ?_
  refine lv_ineg hx hb_ dX11_refuse_1 ?_
  refine lv_topi (fun q_ eq => ?_)
  refine lv_istore_n (lv' := [(2, .int q_), (0, .ref (r_ 0)), (1, .int b_)]) hx hb_ dX11_refuse_2 rfl hl (by decide) rfl (fun ls hl => ?_)
  refine lv_iload_n hx hb_ dX11_refuse_3 rfl (lv_at hl 0 rfl) ?_
  refine lv_if_le (tgt := 26) hx hb_ dX11_refuse_4 (by decide) (fun c_4 => absurd c_4 ((by rw [eq]; exact h1))) (fun c_4 => ?_)
  refine lv_iload_n hx hb_ dX11_refuse_7 rfl (lv_at hl 0 rfl) ?_
  refine lv_aload_n hx hb_ dX11_refuse_8 rfl (lv_at hl 1 rfl) ?_
  refine z_get (k := 11) (i := 3) (j := 1103) (v := .ref (r_ 4)) (ref := "FoldedInHalf") (C := RX11) (T := TX11) (N := 13) hcf hK_ hw hin11 (cL hSh 0) (cK hSh 0) rfl (by decide) (by decide) rfl rfl (congrArg va_rf (cP hSh 3)) (List.mem_of_getElem? (i := 1) rfl) (fun _ h_ => h_) dX11_refuse_9 ?_
  refine z_alen (n := 8) (v := 8) hcf hK_ hw (cL hSh 4) (Or.inl (cK hSh 4)) (cN hSh 4) (by decide) dX11_refuse_12 ?_
  refine lv_icmp_ge (tgt := 26) hx hb_ dX11_refuse_13 (by decide) (fun c_13 => absurd c_13 ((by rw [eq]; exact h2))) (fun c_13 => ?_)
  refine lv_aload_n hx hb_ dX11_refuse_16 rfl (lv_at hl 1 rfl) ?_
  refine z_get (k := 11) (i := 3) (j := 1103) (v := .ref (r_ 4)) (ref := "FoldedInHalf") (C := RX11) (T := TX11) (N := 13) hcf hK_ hw hin11 (cL hSh 0) (cK hSh 0) rfl (by decide) (by decide) rfl rfl (congrArg va_rf (cP hSh 3)) (List.mem_of_getElem? (i := 1) rfl) (fun _ h_ => h_) dX11_refuse_17 ?_
  refine lv_iload_n hx hb_ dX11_refuse_20 rfl (lv_at hl 0 rfl) ?_
  refine lv_dup2_11 hx hb_ dX11_refuse_21 rfl rfl ?_
  refine z_iald (n := 8) hcf hK_ hw (cL hSh 4) (cK hSh 4) (cN hSh 4) (hi_ q_ eq) dX11_refuse_22 ?_
  refine lv_iconst (v := 1) hx hb_ dX11_refuse_23 (by decide) ?_
  refine lv_iadd hx hb_ dX11_refuse_24 ?_
  refine z_iast (n := 8) hcf hK_ hw (cL hSh 4) (cK hSh 4) (cN hSh 4) (hi_ q_ eq) dX11_refuse_25 (fun H_ locs_ hw => ?_)
  refine lv_iload_n hx hb_ dX11_refuse_26 rfl (lv_at hl 2 rfl) ?_
  exact z_iret (ty := .int) (v := b_) hcf hr rfl hlk hw (⟨rfl, _, rfl⟩) dX11_refuse_27

set_option maxHeartbeats 4000000 in
set_option maxRecDepth 100000 in
/-- refuseTens(b_): b_ less 10 -/
theorem c_X11_refuseTens (l : Launch) (cD : va_G) (cy : Nat → ClassId) (sz_ : Nat) (r_ : Nat → Nat) (S_ : zS) (hSh : ShC S_ r_) (b_ : Int32) (h1 : ¬ -b_ ≤ 0) (h2 : ¬ 8 ≤ -b_) : Met l yX11_refuseTens wsX11_refuseTens ({ frames := 1, cells := 0, slots := 0, locals := 22 } : Room) (va_Pc [.ref (r_ 0), .int b_] (zPre cD cy S_ sz_)) (va_Qi (fun (v_ : Int32) (S1 : zS) => v_ = b_ - 10 ∧ ∃ f_, S1 = zsA S_ (r_ 4) f_) (zPost cD cy (zAd cy S_ sz_)) (zAd cy S_ sz_)) 0 0 (zAd cy S_ sz_) := by
  refine z_ofW (cc := cX11_refuseTens) (maxL := 2) (ret := (some .int)) (own := RX11) (QQ := fun A_ => va_Qi (fun (v_ : Int32) (S1 : zS) => v_ = b_ - 10 ∧ ∃ f_, S1 = zsA S_ (r_ 4) f_) (zPost cD cy A_) A_) (by decide) rfl rfl (Nat.le_of_ble_eq_true rfl) ?_
  intro p_ e_ s_ m_ args_ below_ meth_ c_ A_ ls hcf hr hlk hnm hK_ hE hw hA hl
  obtain ⟨hx, hb_, hml, hown, hts⟩ := id hcf
  have hl : lv_has ls 2 [(0, .ref (r_ 0)), (1, .int b_)] := hl
  refine lv_aload_n hx hb_ dX11_refuseTens_0 rfl (lv_at hl 0 rfl) ?_
  refine lv_iload_n hx hb_ dX11_refuseTens_1 rfl (lv_at hl 1 rfl) ?_
  refine z_ki hw hA (va_runV (As := [.int b_]) (rest := []) hcf (c_X11_refuse l cD cy _ r_ S_ hSh b_ h1 h2) (cwV 1 hts gX11_refuseTens_X11_refuse rfl rfl rfl (by decide +kernel) ⟨Nat.le_of_ble_eq_true rfl, Nat.le_of_ble_eq_true rfl⟩) (z_preV (k := 11) hK_ hE hw (cL hSh 0) (cK hSh 0) (by decide) rfl) rfl rfl hl.1 rfl (lv_room (Nat.le_of_ble_eq_true rfl)) dX11_refuseTens_2 ⟨Nat.le_of_ble_eq_true rfl, Nat.le_of_ble_eq_true rfl⟩) (fun v1 S2 H_ locs_ hp hw => ?_)
  obtain ⟨hv, f3_, rfl⟩ := hp
  refine z_topi (y := b_) hv ?_
  refine lv_bipush (v := 10) hx hb_ dX11_refuseTens_5 (by decide) ?_
  refine lv_isub hx hb_ dX11_refuseTens_7 ?_
  exact z_iret (ty := .int) (v := (b_ - 10)) hcf hr rfl hlk hw (⟨rfl, _, rfl⟩) dX11_refuseTens_8

set_option maxHeartbeats 4000000 in
set_option maxRecDepth 100000 in
/-- shelfAt(s_) -/
theorem c_X11_shelfAt (l : Launch) (cD : va_G) (cy : Nat → ClassId) (sz_ : Nat) (r_ : Nat → Nat) (S_ : zS) (hSh : ShC S_ r_) (a_ : Int32) : Met l yX11_shelfAt wsX11_shelfAt ({ frames := 0, cells := 0, slots := 0, locals := 0 } : Room) (va_Pc [.ref (r_ 0), .int a_] (zPre cD cy S_ sz_)) (va_Qq (fun (v_ : Option Nat) (S1 : zS) => ((a_ < 0 ∨ 8 ≤ a_) ∧ v_ = none ∨ (¬ a_ < 0 ∧ ¬ 8 ≤ a_) ∧ ∃ j_, j_ < 8 ∧ a_.toNatClampNeg = j_ ∧ v_ = some (r_ (17 + j_))) ∧ S_ = S1) (zPost cD cy (zAd cy S_ sz_)) (zAd cy S_ sz_)) 0 0 (zAd cy S_ sz_) := by
  refine z_ofW (cc := cX11_shelfAt) (maxL := 2) (ret := (some (.object "FoldedInHalf$Shelf"))) (own := RX11) (QQ := fun A_ => va_Qq (fun (v_ : Option Nat) (S1 : zS) => ((a_ < 0 ∨ 8 ≤ a_) ∧ v_ = none ∨ (¬ a_ < 0 ∧ ¬ 8 ≤ a_) ∧ ∃ j_, j_ < 8 ∧ a_.toNatClampNeg = j_ ∧ v_ = some (r_ (17 + j_))) ∧ S_ = S1) (zPost cD cy A_) A_) (by decide) rfl rfl (Nat.le_of_ble_eq_true rfl) ?_
  intro p_ e_ s_ m_ args_ below_ meth_ c_ A_ ls hcf hr hlk hnm hK_ hE hw hA hl
  obtain ⟨hx, hb_, hml, hown, hts⟩ := id hcf
  have hin11 : ∀ w_ ∈ wsX110, w_ ∈ wsX11_shelfAt := fun w_ h_ => (List.mem_cons_of_mem _ (List.mem_append_right _ h_))
  have hl : lv_has ls 2 [(0, .ref (r_ 0)), (1, .int a_)] := hl
  refine lv_iload_n hx hb_ dX11_shelfAt_0 rfl (lv_at hl 1 rfl) ?_
  refine lv_if_lt (tgt := 19) hx hb_ dX11_shelfAt_1 (by decide) (fun c_1 => ?_) (fun c_1 => ?_)
  · refine lv_null hx hb_ dX11_shelfAt_19 ?_
    exact z_aret (v := none) hcf hr hlk hw (⟨Or.inl ⟨Or.inl c_1, rfl⟩, rfl⟩) dX11_shelfAt_20
  · refine lv_iload_n hx hb_ dX11_shelfAt_4 rfl (lv_at hl 1 rfl) ?_
    refine lv_bipush (v := 8) hx hb_ dX11_shelfAt_5 (by decide) ?_
    refine lv_icmp_ge (tgt := 19) hx hb_ dX11_shelfAt_7 (by decide) (fun c_7 => ?_) (fun c_7 => ?_)
    · refine lv_null hx hb_ dX11_shelfAt_19 ?_
      exact z_aret (v := none) hcf hr hlk hw (⟨Or.inl ⟨Or.inr c_7, rfl⟩, rfl⟩) dX11_shelfAt_20
    · refine lv_aload_n hx hb_ dX11_shelfAt_10 rfl (lv_at hl 0 rfl) ?_
      refine z_get (k := 11) (i := 0) (j := 1100) (v := .ref (r_ 1)) (ref := "FoldedInHalf") (C := RX11) (T := TX11) (N := 13) hcf hK_ hw hin11 (cL hSh 0) (cK hSh 0) rfl (by decide) (by decide) rfl rfl (congrArg va_rf (cP hSh 0)) (List.mem_of_getElem? (i := 1) rfl) (fun _ h_ => h_) dX11_shelfAt_11 ?_
      refine lv_iload_n hx hb_ dX11_shelfAt_14 rfl (lv_at hl 1 rfl) ?_
      refine z_pald (n := 8) (v := .ref (r_ (17 + a_.toNatClampNeg))) hcf hK_ hw (cL hSh 1) (cK hSh 1) (cN hSh 1) (zx_in c_1 c_7 (by decide)) (congrArg va_rf (cSh hSh _ (zx_nat c_1 c_7 (by decide)))) dX11_shelfAt_15 ?_
      refine lv_goto (tgt := 20) hx hb_ dX11_shelfAt_16 (by decide) ?_
      exact z_aret (v := some (r_ (17 + a_.toNatClampNeg))) hcf hr hlk hw (⟨Or.inr ⟨⟨c_1, c_7⟩, a_.toNatClampNeg, zx_nat c_1 c_7 (by decide), rfl, rfl⟩, rfl⟩) dX11_shelfAt_20

set_option maxHeartbeats 4000000 in
set_option maxRecDepth 100000 in
/-- stripAt(t_), no STRIP there -/
theorem c_X11_stripAt (l : Launch) (cD : va_G) (cy : Nat → ClassId) (sz_ : Nat) (r_ : Nat → Nat) (S_ : zS) (hSh : ShC S_ r_) (h0 : zI S_ 1110 (r_ 0) = 0) (t_ : Int32) : Met l yX11_stripAt wsX11_stripAt ({ frames := 0, cells := 0, slots := 0, locals := 0 } : Room) (va_Pc [.ref (r_ 0), .int t_] (zPre cD cy S_ sz_)) (va_Qq (fun (v_ : Option Nat) (S1 : zS) => v_ = none ∧ S_ = S1) (zPost cD cy (zAd cy S_ sz_)) (zAd cy S_ sz_)) 0 0 (zAd cy S_ sz_) := by
  refine z_ofW (cc := cX11_stripAt) (maxL := 2) (ret := (some (.object "FoldedInHalf$Strip"))) (own := RX11) (QQ := fun A_ => va_Qq (fun (v_ : Option Nat) (S1 : zS) => v_ = none ∧ S_ = S1) (zPost cD cy A_) A_) (by decide) rfl rfl (Nat.le_of_ble_eq_true rfl) ?_
  intro p_ e_ s_ m_ args_ below_ meth_ c_ A_ ls hcf hr hlk hnm hK_ hE hw hA hl
  obtain ⟨hx, hb_, hml, hown, hts⟩ := id hcf
  have hin11 : ∀ w_ ∈ wsX110, w_ ∈ wsX11_stripAt := fun w_ h_ => (List.mem_cons_of_mem _ (List.mem_append_right _ h_))
  have hl : lv_has ls 2 [(0, .ref (r_ 0)), (1, .int t_)] := hl
  refine lv_iload_n hx hb_ dX11_stripAt_0 rfl (lv_at hl 1 rfl) ?_
  refine lv_if_lt (tgt := 27) hx hb_ dX11_stripAt_1 (by decide) (fun c_1 => ?_) (fun c_1 => ?_)
  · refine lv_null hx hb_ dX11_stripAt_27 ?_
    exact z_aret (v := none) hcf hr hlk hw (⟨rfl, rfl⟩) dX11_stripAt_28
  · refine lv_iload_n hx hb_ dX11_stripAt_4 rfl (lv_at hl 1 rfl) ?_
    refine lv_aload_n hx hb_ dX11_stripAt_5 rfl (lv_at hl 0 rfl) ?_
    refine z_get (k := 11) (i := 10) (j := 1110) (v := .int 0) (ref := "FoldedInHalf") (C := RX11) (T := TX11) (N := 13) hcf hK_ hw hin11 (cL hSh 0) (cK hSh 0) rfl (by decide) (by decide) rfl rfl (congrArg Value.int h0) (List.mem_of_getElem? (i := 1) rfl) (fun _ h_ => h_) dX11_stripAt_6 ?_
    refine lv_icmp_ge (tgt := 27) hx hb_ dX11_stripAt_9 (by decide) (fun c_9 => ?_) (fun c_9 => absurd (zx_nlt c_1) c_9)
    refine lv_null hx hb_ dX11_stripAt_27 ?_
    exact z_aret (v := none) hcf hr hlk hw (⟨rfl, rfl⟩) dX11_stripAt_28

set_option maxHeartbeats 4000000 in
set_option maxRecDepth 100000 in
theorem c_X11_rowTrouble_n (l : Launch) (cD : va_G) (cy : Nat → ClassId) (sz_ : Nat) (S_ : zS) : Met l yX11_rowTrouble wsX11_rowTrouble ({ frames := 0, cells := 0, slots := 0, locals := 0 } : Room) (va_Pc [.null] (zPre cD cy S_ sz_)) (va_Qi (fun (v_ : Int32) (S1 : zS) => v_ = -1 ∧ S_ = S1) (zPost cD cy (zAd cy S_ sz_)) (zAd cy S_ sz_)) 0 0 (zAd cy S_ sz_) := by
  refine z_ofW (cc := cX11_rowTrouble) (maxL := 1) (ret := (some .int)) (own := RX11) (QQ := fun A_ => va_Qi (fun (v_ : Int32) (S1 : zS) => v_ = -1 ∧ S_ = S1) (zPost cD cy A_) A_) (by decide) rfl rfl (Nat.le_of_ble_eq_true rfl) ?_
  intro p_ e_ s_ m_ args_ below_ meth_ c_ A_ ls hcf hr hlk hnm hK_ hE hw hA hl
  obtain ⟨hx, hb_, hml, hown, hts⟩ := id hcf
  have hl : lv_has ls 1 [(0, .null)] := hl
  refine lv_aload_nN hx hb_ dX11_rowTrouble_0 rfl (lv_at hl 0 rfl) ?_
  refine lv_ifnonnullN hx hb_ dX11_rowTrouble_1 ?_
  refine lv_iconst (v := (-1)) hx hb_ dX11_rowTrouble_4 (by decide) ?_
  exact z_iret (ty := .int) (v := (-1)) hcf hr rfl hlk hw (⟨rfl, rfl⟩) dX11_rowTrouble_5

set_option maxHeartbeats 4000000 in
set_option maxRecDepth 100000 in
theorem c_X11_rowTrouble_s (l : Launch) (cD : va_G) (cy : Nat → ClassId) (sz_ : Nat) (r_ : Nat → Nat) (S_ : zS) (hSh : ShC S_ r_) (hF : FrC S_ r_) (j_ : Nat) (hj : j_ < 8) : Met l yX11_rowTrouble wsX11_rowTrouble ({ frames := 0, cells := 0, slots := 0, locals := 0 } : Room) (va_Pc [.ref (r_ (17 + j_))] (zPre cD cy S_ sz_)) (va_Qi (fun (v_ : Int32) (S1 : zS) => v_ = -3 ∧ S_ = S1) (zPost cD cy (zAd cy S_ sz_)) (zAd cy S_ sz_)) 0 0 (zAd cy S_ sz_) := by
  refine z_ofW (cc := cX11_rowTrouble) (maxL := 1) (ret := (some .int)) (own := RX11) (QQ := fun A_ => va_Qi (fun (v_ : Int32) (S1 : zS) => v_ = -3 ∧ S_ = S1) (zPost cD cy A_) A_) (by decide) rfl rfl (Nat.le_of_ble_eq_true rfl) ?_
  intro p_ e_ s_ m_ args_ below_ meth_ c_ A_ ls hcf hr hlk hnm hK_ hE hw hA hl
  obtain ⟨hx, hb_, hml, hown, hts⟩ := id hcf
  have hin7 : ∀ w_ ∈ wsX70, w_ ∈ wsX11_rowTrouble := fun w_ h_ => (List.mem_cons_of_mem _ (List.mem_append_right _ h_))
  have hl : lv_has ls 1 [(0, .ref (r_ (17 + j_)))] := hl
  refine lv_aload_n hx hb_ dX11_rowTrouble_0 rfl (lv_at hl 0 rfl) ?_
  refine lv_ifnonnull (tgt := 6) hx hb_ dX11_rowTrouble_1 (by decide) ?_
  refine lv_aload_n hx hb_ dX11_rowTrouble_6 rfl (lv_at hl 0 rfl) ?_
  refine z_getN (k := 7) (i := 3) (j := 703) (v := .int (-1)) (ref := "FoldedInHalf$Shelf") (C := RX7) (T := TX7) (N := 4) hcf hK_ hw hin7 (cL hSh (17 + j_) (by omega)) (cKS hSh j_ hj) rfl (by decide) (by decide) rfl rfl (congrArg Value.int (hF.2.2.2.1 j_ hj).2.2) (nw_F_FoldedInHalf_69 hE) (fun _ h_ => h_) dX11_rowTrouble_7 ?_
  refine lv_iconst (v := (-1)) hx hb_ dX11_rowTrouble_10 (by decide) ?_
  refine lv_icmp_eq (tgt := 17) hx hb_ dX11_rowTrouble_11 (by decide) (fun _ => ?_) (fun c_11 => absurd c_11 (by decide))
  refine lv_aload_n hx hb_ dX11_rowTrouble_17 rfl (lv_at hl 0 rfl) ?_
  refine z_getN (k := 7) (i := 2) (j := 702) (v := .int (-1)) (ref := "FoldedInHalf$Shelf") (C := RX7) (T := TX7) (N := 4) hcf hK_ hw hin7 (cL hSh (17 + j_) (by omega)) (cKS hSh j_ hj) rfl (by decide) (by decide) rfl rfl (congrArg Value.int (hF.2.2.2.1 j_ hj).2.1) (nw_F_FoldedInHalf_72 hE) (fun _ h_ => h_) dX11_rowTrouble_18 ?_
  refine lv_iconst (v := (-1)) hx hb_ dX11_rowTrouble_21 (by decide) ?_
  refine lv_icmp_ne (tgt := 30) hx hb_ dX11_rowTrouble_22 (by decide) (fun c_22 => absurd c_22 (by decide)) (fun _ => ?_)
  refine lv_bipush (v := (-3)) hx hb_ dX11_rowTrouble_25 (by decide) ?_
  refine lv_goto (tgt := 31) hx hb_ dX11_rowTrouble_27 (by decide) ?_
  exact z_iret (ty := .int) (v := (-3)) hcf hr rfl hlk hw (⟨rfl, rfl⟩) dX11_rowTrouble_31

set_option maxHeartbeats 4000000 in
set_option maxRecDepth 100000 in
theorem c_X11_toldTrouble_n (l : Launch) (cD : va_G) (cy : Nat → ClassId) (sz_ : Nat) (S_ : zS) (n_ : Int32) : Met l yX11_toldTrouble wsX11_toldTrouble ({ frames := 1, cells := 0, slots := 0, locals := 20 } : Room) (va_Pc [.null, .int n_] (zPre cD cy S_ sz_)) (va_Qi (fun (v_ : Int32) (S1 : zS) => v_ = -1 ∧ S_ = S1) (zPost cD cy (zAd cy S_ sz_)) (zAd cy S_ sz_)) 0 0 (zAd cy S_ sz_) := by
  refine z_ofW (cc := cX11_toldTrouble) (maxL := 3) (ret := (some .int)) (own := RX11) (QQ := fun A_ => va_Qi (fun (v_ : Int32) (S1 : zS) => v_ = -1 ∧ S_ = S1) (zPost cD cy A_) A_) (by decide) rfl rfl (Nat.le_of_ble_eq_true rfl) ?_
  intro p_ e_ s_ m_ args_ below_ meth_ c_ A_ ls hcf hr hlk hnm hK_ hE hw hA hl
  obtain ⟨hx, hb_, hml, hown, hts⟩ := id hcf
  have hl : lv_has ls 3 [(0, .null), (1, .int n_)] := hl
  refine lv_aload_nN hx hb_ dX11_toldTrouble_0 rfl (lv_at hl 0 rfl) ?_
  refine z_ki hw hA (va_runS (As := [.null]) (rest := []) hcf (c_X11_rowTrouble_n l cD cy _ S_) (va_cwS 1 hts gX11_toldTrouble_X11_rowTrouble rfl rfl rfl (by decide +kernel) ⟨Nat.le_of_ble_eq_true rfl, Nat.le_of_ble_eq_true rfl⟩) (z_preS hK_ hE hw) rfl rfl hl.1 rfl (lv_room (Nat.le_of_ble_eq_true rfl)) dX11_toldTrouble_1 ⟨Nat.le_of_ble_eq_true rfl, Nat.le_of_ble_eq_true rfl⟩) (fun v1 S2 H_ locs_ hp hw => ?_)
  obtain ⟨rfl, rfl⟩ := hp
  refine lv_istore_n (lv' := [(2, .int (-1)), (0, .null), (1, .int n_)]) hx hb_ dX11_toldTrouble_4 rfl hl (by decide) rfl (fun ls hl => ?_)
  refine lv_iload_n hx hb_ dX11_toldTrouble_5 rfl (lv_at hl 0 rfl) ?_
  refine lv_if_ne (tgt := 13) hx hb_ dX11_toldTrouble_6 (by decide) (fun _ => ?_) (fun c_6 => absurd c_6 (by decide))
  refine lv_iload_n hx hb_ dX11_toldTrouble_13 rfl (lv_at hl 0 rfl) ?_
  exact z_iret (ty := .int) (v := (-1)) hcf hr rfl hlk hw (⟨rfl, rfl⟩) dX11_toldTrouble_14

set_option maxHeartbeats 4000000 in
set_option maxRecDepth 100000 in
theorem c_X11_toldTrouble_s (l : Launch) (cD : va_G) (cy : Nat → ClassId) (sz_ : Nat) (r_ : Nat → Nat) (S_ : zS) (hSh : ShC S_ r_) (hF : FrC S_ r_) (j_ : Nat) (hj : j_ < 8) (n_ : Int32) : Met l yX11_toldTrouble wsX11_toldTrouble ({ frames := 1, cells := 0, slots := 0, locals := 20 } : Room) (va_Pc [.ref (r_ (17 + j_)), .int n_] (zPre cD cy S_ sz_)) (va_Qi (fun (v_ : Int32) (S1 : zS) => v_ = -3 ∧ S_ = S1) (zPost cD cy (zAd cy S_ sz_)) (zAd cy S_ sz_)) 0 0 (zAd cy S_ sz_) := by
  refine z_ofW (cc := cX11_toldTrouble) (maxL := 3) (ret := (some .int)) (own := RX11) (QQ := fun A_ => va_Qi (fun (v_ : Int32) (S1 : zS) => v_ = -3 ∧ S_ = S1) (zPost cD cy A_) A_) (by decide) rfl rfl (Nat.le_of_ble_eq_true rfl) ?_
  intro p_ e_ s_ m_ args_ below_ meth_ c_ A_ ls hcf hr hlk hnm hK_ hE hw hA hl
  obtain ⟨hx, hb_, hml, hown, hts⟩ := id hcf
  have hl : lv_has ls 3 [(0, .ref (r_ (17 + j_))), (1, .int n_)] := hl
  refine lv_aload_n hx hb_ dX11_toldTrouble_0 rfl (lv_at hl 0 rfl) ?_
  refine z_ki hw hA (va_runS (As := [.ref (r_ (17 + j_))]) (rest := []) hcf (c_X11_rowTrouble_s l cD cy _ r_ S_ hSh hF j_ hj ) (va_cwS 1 hts gX11_toldTrouble_X11_rowTrouble rfl rfl rfl (by decide +kernel) ⟨Nat.le_of_ble_eq_true rfl, Nat.le_of_ble_eq_true rfl⟩) (z_preS hK_ hE hw) rfl rfl hl.1 rfl (lv_room (Nat.le_of_ble_eq_true rfl)) dX11_toldTrouble_1 ⟨Nat.le_of_ble_eq_true rfl, Nat.le_of_ble_eq_true rfl⟩) (fun v1 S2 H_ locs_ hp hw => ?_)
  obtain ⟨rfl, rfl⟩ := hp
  refine lv_istore_n (lv' := [(2, .int (-3)), (0, .ref (r_ (17 + j_))), (1, .int n_)]) hx hb_ dX11_toldTrouble_4 rfl hl (by decide) rfl (fun ls hl => ?_)
  refine lv_iload_n hx hb_ dX11_toldTrouble_5 rfl (lv_at hl 0 rfl) ?_
  refine lv_if_ne (tgt := 13) hx hb_ dX11_toldTrouble_6 (by decide) (fun _ => ?_) (fun c_6 => absurd c_6 (by decide))
  refine lv_iload_n hx hb_ dX11_toldTrouble_13 rfl (lv_at hl 0 rfl) ?_
  exact z_iret (ty := .int) (v := (-3)) hcf hr rfl hlk hw (⟨rfl, rfl⟩) dX11_toldTrouble_14

set_option maxHeartbeats 4000000 in
set_option maxRecDepth 100000 in
theorem c_X11_toldTroubleTo63_n (l : Launch) (cD : va_G) (cy : Nat → ClassId) (sz_ : Nat) (S_ : zS) (n_ : Int32) : Met l yX11_toldTroubleTo63 wsX11_toldTroubleTo63 ({ frames := 2, cells := 0, slots := 0, locals := 42 } : Room) (va_Pc [.null, .int n_] (zPre cD cy S_ sz_)) (va_Qi (fun (v_ : Int32) (S1 : zS) => v_ = -1 ∧ S_ = S1) (zPost cD cy (zAd cy S_ sz_)) (zAd cy S_ sz_)) 0 0 (zAd cy S_ sz_) := by
  refine z_ofW (cc := cX11_toldTroubleTo63) (maxL := 3) (ret := (some .int)) (own := RX11) (QQ := fun A_ => va_Qi (fun (v_ : Int32) (S1 : zS) => v_ = -1 ∧ S_ = S1) (zPost cD cy A_) A_) (by decide) rfl rfl (Nat.le_of_ble_eq_true rfl) ?_
  intro p_ e_ s_ m_ args_ below_ meth_ c_ A_ ls hcf hr hlk hnm hK_ hE hw hA hl
  obtain ⟨hx, hb_, hml, hown, hts⟩ := id hcf
  have hl : lv_has ls 3 [(0, .null), (1, .int n_)] := hl
  refine lv_aload_nN hx hb_ dX11_toldTroubleTo63_0 rfl (lv_at hl 0 rfl) ?_
  refine lv_iload_n hx hb_ dX11_toldTroubleTo63_1 rfl (lv_at hl 1 rfl) ?_
  refine z_ki hw hA (va_runS (As := [.null, .int n_]) (rest := []) hcf (c_X11_toldTrouble_n l cD cy _ S_ n_) (va_cwS 2 hts gX11_toldTroubleTo63_X11_toldTrouble rfl rfl rfl (by decide +kernel) ⟨Nat.le_of_ble_eq_true rfl, Nat.le_of_ble_eq_true rfl⟩) (z_preS hK_ hE hw) rfl rfl hl.1 rfl (lv_room (Nat.le_of_ble_eq_true rfl)) dX11_toldTroubleTo63_2 ⟨Nat.le_of_ble_eq_true rfl, Nat.le_of_ble_eq_true rfl⟩) (fun v1 S2 H_ locs_ hp hw => ?_)
  obtain ⟨rfl, rfl⟩ := hp
  refine lv_istore_n (lv' := [(2, .int (-1)), (0, .null), (1, .int n_)]) hx hb_ dX11_toldTroubleTo63_5 rfl hl (by decide) rfl (fun ls hl => ?_)
  refine lv_iload_n hx hb_ dX11_toldTroubleTo63_6 rfl (lv_at hl 0 rfl) ?_
  refine lv_if_ne (tgt := 21) hx hb_ dX11_toldTroubleTo63_7 (by decide) (fun _ => ?_) (fun c_7 => absurd c_7 (by decide))
  refine lv_iload_n hx hb_ dX11_toldTroubleTo63_21 rfl (lv_at hl 0 rfl) ?_
  exact z_iret (ty := .int) (v := (-1)) hcf hr rfl hlk hw (⟨rfl, rfl⟩) dX11_toldTroubleTo63_22

set_option maxHeartbeats 4000000 in
set_option maxRecDepth 100000 in
theorem c_X11_toldTroubleTo63_s (l : Launch) (cD : va_G) (cy : Nat → ClassId) (sz_ : Nat) (r_ : Nat → Nat) (S_ : zS) (hSh : ShC S_ r_) (hF : FrC S_ r_) (j_ : Nat) (hj : j_ < 8) (n_ : Int32) : Met l yX11_toldTroubleTo63 wsX11_toldTroubleTo63 ({ frames := 2, cells := 0, slots := 0, locals := 42 } : Room) (va_Pc [.ref (r_ (17 + j_)), .int n_] (zPre cD cy S_ sz_)) (va_Qi (fun (v_ : Int32) (S1 : zS) => v_ = -3 ∧ S_ = S1) (zPost cD cy (zAd cy S_ sz_)) (zAd cy S_ sz_)) 0 0 (zAd cy S_ sz_) := by
  refine z_ofW (cc := cX11_toldTroubleTo63) (maxL := 3) (ret := (some .int)) (own := RX11) (QQ := fun A_ => va_Qi (fun (v_ : Int32) (S1 : zS) => v_ = -3 ∧ S_ = S1) (zPost cD cy A_) A_) (by decide) rfl rfl (Nat.le_of_ble_eq_true rfl) ?_
  intro p_ e_ s_ m_ args_ below_ meth_ c_ A_ ls hcf hr hlk hnm hK_ hE hw hA hl
  obtain ⟨hx, hb_, hml, hown, hts⟩ := id hcf
  have hl : lv_has ls 3 [(0, .ref (r_ (17 + j_))), (1, .int n_)] := hl
  refine lv_aload_n hx hb_ dX11_toldTroubleTo63_0 rfl (lv_at hl 0 rfl) ?_
  refine lv_iload_n hx hb_ dX11_toldTroubleTo63_1 rfl (lv_at hl 1 rfl) ?_
  refine z_ki hw hA (va_runS (As := [.ref (r_ (17 + j_)), .int n_]) (rest := []) hcf (c_X11_toldTrouble_s l cD cy _ r_ S_ hSh hF j_ hj n_) (va_cwS 2 hts gX11_toldTroubleTo63_X11_toldTrouble rfl rfl rfl (by decide +kernel) ⟨Nat.le_of_ble_eq_true rfl, Nat.le_of_ble_eq_true rfl⟩) (z_preS hK_ hE hw) rfl rfl hl.1 rfl (lv_room (Nat.le_of_ble_eq_true rfl)) dX11_toldTroubleTo63_2 ⟨Nat.le_of_ble_eq_true rfl, Nat.le_of_ble_eq_true rfl⟩) (fun v1 S2 H_ locs_ hp hw => ?_)
  obtain ⟨rfl, rfl⟩ := hp
  refine lv_istore_n (lv' := [(2, .int (-3)), (0, .ref (r_ (17 + j_))), (1, .int n_)]) hx hb_ dX11_toldTroubleTo63_5 rfl hl (by decide) rfl (fun ls hl => ?_)
  refine lv_iload_n hx hb_ dX11_toldTroubleTo63_6 rfl (lv_at hl 0 rfl) ?_
  refine lv_if_ne (tgt := 21) hx hb_ dX11_toldTroubleTo63_7 (by decide) (fun _ => ?_) (fun c_7 => absurd c_7 (by decide))
  refine lv_iload_n hx hb_ dX11_toldTroubleTo63_21 rfl (lv_at hl 0 rfl) ?_
  exact z_iret (ty := .int) (v := (-3)) hcf hr rfl hlk hw (⟨rfl, rfl⟩) dX11_toldTroubleTo63_22

set_option maxHeartbeats 4000000 in
set_option maxRecDepth 100000 in
theorem c_X11_walkTrouble_n (l : Launch) (cD : va_G) (cy : Nat → ClassId) (sz_ : Nat) (S_ : zS) (n_ : Int32) (o_ : Int32) : Met l yX11_walkTrouble wsX11_walkTrouble ({ frames := 0, cells := 0, slots := 0, locals := 0 } : Room) (va_Pc [.null, .int n_, .int o_] (zPre cD cy S_ sz_)) (va_Qi (fun (v_ : Int32) (S1 : zS) => v_ = -1 ∧ S_ = S1) (zPost cD cy (zAd cy S_ sz_)) (zAd cy S_ sz_)) 0 0 (zAd cy S_ sz_) := by
  refine z_ofW (cc := cX11_walkTrouble) (maxL := 3) (ret := (some .int)) (own := RX11) (QQ := fun A_ => va_Qi (fun (v_ : Int32) (S1 : zS) => v_ = -1 ∧ S_ = S1) (zPost cD cy A_) A_) (by decide) rfl rfl (Nat.le_of_ble_eq_true rfl) ?_
  intro p_ e_ s_ m_ args_ below_ meth_ c_ A_ ls hcf hr hlk hnm hK_ hE hw hA hl
  obtain ⟨hx, hb_, hml, hown, hts⟩ := id hcf
  have hl : lv_has ls 3 [(0, .null), (1, .int n_), (2, .int o_)] := hl
  refine lv_aload_nN hx hb_ dX11_walkTrouble_0 rfl (lv_at hl 0 rfl) ?_
  refine lv_ifnonnullN hx hb_ dX11_walkTrouble_1 ?_
  refine lv_iconst (v := (-1)) hx hb_ dX11_walkTrouble_4 (by decide) ?_
  exact z_iret (ty := .int) (v := (-1)) hcf hr rfl hlk hw (⟨rfl, rfl⟩) dX11_walkTrouble_5

set_option maxHeartbeats 4000000 in
set_option maxRecDepth 100000 in
theorem c_X7_holdRow (l : Launch) (cD : va_G) (cy : Nat → ClassId) (sz_ : Nat) (S_ : zS) (a0_ c0_ : Nat) (hL : a0_ ∈ zL S_) (hk : zK S_ a0_ = 7) (hq : zQ S_ 700 a0_ = some c0_) (hLc : c0_ ∈ zL S_) (hkc : zK S_ c0_ = 14) (hnc : zN S_ c0_ = 160) (o_ n_ : Int32) : Met l yX7_holdRow wsX7_holdRow ({ frames := 1, cells := 0, slots := 0, locals := 24 } : Room) (va_Pc [.ref a0_, .int o_, .int n_] (zPre cD cy S_ sz_)) (va_Qv (fun (S1 : zS) => True) (zPost cD cy (zAd cy S_ sz_)) (zAd cy S_ sz_)) 0 0 (zAd cy S_ sz_) := by
  refine z_ofW (cc := cX7_holdRow) (maxL := 3) (ret := none) (own := RX7) (QQ := fun A_ => va_Qv (fun (S1 : zS) => True) (zPost cD cy A_) A_) (by decide) rfl rfl (Nat.le_of_ble_eq_true rfl) ?_
  intro p_ e_ s_ m_ args_ below_ meth_ c_ A_ ls hcf hr hlk hnm hK_ hE hw hA hl
  obtain ⟨hx, hb_, hml, hown, hts⟩ := id hcf
  have hin7 : ∀ w_ ∈ wsX70, w_ ∈ wsX7_holdRow := fun w_ h_ => (List.mem_cons_of_mem _ (List.mem_append_right _ h_))
  have hl : lv_has ls 3 [(0, .ref a0_), (1, .int o_), (2, .int n_)] := hl
  refine lv_aload_n hx hb_ dX7_holdRow_0 rfl (lv_at hl 0 rfl) ?_
  refine z_get (k := 7) (i := 0) (j := 700) (v := .ref c0_) (ref := "FoldedInHalf$Shelf") (C := RX7) (T := TX7) (N := 4) hcf hK_ hw hin7 hL hk rfl (by decide) (by decide) rfl rfl (congrArg va_rf hq) (List.mem_of_getElem? (i := 1) rfl) (fun _ h_ => h_) dX7_holdRow_1 ?_
  refine lv_lconst (v := 0) hx hb_ dX7_holdRow_4 (by decide) ?_
  refine z_kv hw hA (va_runS (As := [.ref c0_, .long 0]) (rest := []) hcf (c_J7_fill_d0a16 l cD cy _ S_ c0_ 160 0 hLc hkc hnc (by decide)) (va_cwS 2 hts gX7_holdRow_J7_fill_d0a16 rfl rfl rfl (by decide +kernel) ⟨Nat.le_of_ble_eq_true rfl, Nat.le_of_ble_eq_true rfl⟩) (z_preS hK_ hE hw) rfl rfl hl.1 rfl (lv_room (Nat.le_of_ble_eq_true rfl)) dX7_holdRow_5 ⟨Nat.le_of_ble_eq_true rfl, Nat.le_of_ble_eq_true rfl⟩) (fun S2 H_ locs_ hp hw => ?_)
  obtain ⟨f3_, rfl, -, -⟩ := hp
  refine lv_aload_n hx hb_ dX7_holdRow_8 rfl (lv_at hl 0 rfl) ?_
  refine lv_iconst (v := (-1)) hx hb_ dX7_holdRow_9 (by decide) ?_
  refine z_putI (k := 7) (i := 3) (j := 703) (x := (-1)) (v := .int (-1)) (ty := .int) (ref := "FoldedInHalf$Shelf") (C := RX7) (T := TX7) (N := 4) tyX7 hcf hK_ hw hin7 tyX7_ok nmX7 hL hk rfl (by decide) (by decide) rfl rfl (List.mem_of_getElem? (i := 2) rfl) (fun _ h_ => h_) rfl rfl (by decide +kernel) rfl rfl dX7_holdRow_10 (fun H_ locs_ hw => ?_)
  refine lv_aload_n hx hb_ dX7_holdRow_13 rfl (lv_at hl 0 rfl) ?_
  refine lv_iload_n hx hb_ dX7_holdRow_14 rfl (lv_at hl 1 rfl) ?_
  refine z_putI (k := 7) (i := 2) (j := 702) (x := o_) (v := .int o_) (ty := .int) (ref := "FoldedInHalf$Shelf") (C := RX7) (T := TX7) (N := 4) tyX7 hcf hK_ hw hin7 tyX7_ok nmX7 hL hk rfl (by decide) (by decide) rfl rfl (List.mem_of_getElem? (i := 3) rfl) (fun _ h_ => h_) rfl rfl (by decide +kernel) rfl rfl dX7_holdRow_15 (fun H_ locs_ hw => ?_)
  refine lv_aload_n hx hb_ dX7_holdRow_18 rfl (lv_at hl 0 rfl) ?_
  refine lv_iload_n hx hb_ dX7_holdRow_19 rfl (lv_at hl 2 rfl) ?_
  refine z_putI (k := 7) (i := 1) (j := 701) (x := n_) (v := .int n_) (ty := .int) (ref := "FoldedInHalf$Shelf") (C := RX7) (T := TX7) (N := 4) tyX7 hcf hK_ hw hin7 tyX7_ok nmX7 hL hk rfl (by decide) (by decide) rfl rfl (List.mem_of_getElem? (i := 4) rfl) (fun _ h_ => h_) rfl rfl (by decide +kernel) rfl rfl dX7_holdRow_20 (fun H_ locs_ hw => ?_)
  exact z_vret hcf hr hlk hw (trivial) dX7_holdRow_23

set_option maxHeartbeats 4000000 in
set_option maxRecDepth 100000 in
theorem c_X7_holdStrip (l : Launch) (cD : va_G) (cy : Nat → ClassId) (sz_ : Nat) (S_ : zS) (a0_ : Nat) (hL : a0_ ∈ zL S_) (hk : zK S_ a0_ = 7) (t_ : Int32) : Met l yX7_holdStrip wsX7_holdStrip ({ frames := 0, cells := 0, slots := 0, locals := 0 } : Room) (va_Pc [.ref a0_, .int t_] (zPre cD cy S_ sz_)) (va_Qv (fun (S1 : zS) => True) (zPost cD cy (zAd cy S_ sz_)) (zAd cy S_ sz_)) 0 0 (zAd cy S_ sz_) := by
  refine z_ofW (cc := cX7_holdStrip) (maxL := 2) (ret := none) (own := RX7) (QQ := fun A_ => va_Qv (fun (S1 : zS) => True) (zPost cD cy A_) A_) (by decide) rfl rfl (Nat.le_of_ble_eq_true rfl) ?_
  intro p_ e_ s_ m_ args_ below_ meth_ c_ A_ ls hcf hr hlk hnm hK_ hE hw hA hl
  obtain ⟨hx, hb_, hml, hown, hts⟩ := id hcf
  have hin7 : ∀ w_ ∈ wsX70, w_ ∈ wsX7_holdStrip := fun w_ h_ => (List.mem_cons_of_mem _ (List.mem_append_right _ h_))
  have hl : lv_has ls 2 [(0, .ref a0_), (1, .int t_)] := hl
  refine lv_aload_n hx hb_ dX7_holdStrip_0 rfl (lv_at hl 0 rfl) ?_
  refine lv_iload_n hx hb_ dX7_holdStrip_1 rfl (lv_at hl 1 rfl) ?_
  refine z_putI (k := 7) (i := 3) (j := 703) (x := t_) (v := .int t_) (ty := .int) (ref := "FoldedInHalf$Shelf") (C := RX7) (T := TX7) (N := 4) tyX7 hcf hK_ hw hin7 tyX7_ok nmX7 hL hk rfl (by decide) (by decide) rfl rfl (List.mem_of_getElem? (i := 1) rfl) (fun _ h_ => h_) rfl rfl (by decide +kernel) rfl rfl dX7_holdStrip_2 (fun H_ locs_ hw => ?_)
  refine lv_aload_n hx hb_ dX7_holdStrip_5 rfl (lv_at hl 0 rfl) ?_
  refine lv_iconst (v := (-1)) hx hb_ dX7_holdStrip_6 (by decide) ?_
  refine z_putI (k := 7) (i := 2) (j := 702) (x := (-1)) (v := .int (-1)) (ty := .int) (ref := "FoldedInHalf$Shelf") (C := RX7) (T := TX7) (N := 4) tyX7 hcf hK_ hw hin7 tyX7_ok nmX7 hL hk rfl (by decide) (by decide) rfl rfl (List.mem_of_getElem? (i := 2) rfl) (fun _ h_ => h_) rfl rfl (by decide +kernel) rfl rfl dX7_holdStrip_7 (fun H_ locs_ hw => ?_)
  refine lv_aload_n hx hb_ dX7_holdStrip_10 rfl (lv_at hl 0 rfl) ?_
  refine lv_iconst (v := 0) hx hb_ dX7_holdStrip_11 (by decide) ?_
  refine z_putI (k := 7) (i := 1) (j := 701) (x := 0) (v := .int 0) (ty := .int) (ref := "FoldedInHalf$Shelf") (C := RX7) (T := TX7) (N := 4) tyX7 hcf hK_ hw hin7 tyX7_ok nmX7 hL hk rfl (by decide) (by decide) rfl rfl (List.mem_of_getElem? (i := 3) rfl) (fun _ h_ => h_) rfl rfl (by decide +kernel) rfl rfl dX7_holdStrip_12 (fun H_ locs_ hw => ?_)
  exact z_vret hcf hr hlk hw (trivial) dX7_holdStrip_15

set_option maxHeartbeats 4000000 in
set_option maxRecDepth 100000 in
theorem c_X7_at (l : Launch) (cD : va_G) (cy : Nat → ClassId) (sz_ : Nat) (S_ : zS) (a0_ : Nat) (hL : a0_ ∈ zL S_) (hk : zK S_ a0_ = 7) (h0 : zI S_ 701 a0_ = 0) (i_ : Int32) : Met l yX7_at wsX7_at ({ frames := 0, cells := 0, slots := 0, locals := 0 } : Room) (va_Pc [.ref a0_, .int i_] (zPre cD cy S_ sz_)) (va_Ql (fun (v_ : Int64) (S1 : zS) => v_ = 0 ∧ S_ = S1) (zPost cD cy (zAd cy S_ sz_)) (zAd cy S_ sz_)) 0 0 (zAd cy S_ sz_) := by
  refine z_ofW (cc := cX7_at) (maxL := 2) (ret := (some .long)) (own := RX7) (QQ := fun A_ => va_Ql (fun (v_ : Int64) (S1 : zS) => v_ = 0 ∧ S_ = S1) (zPost cD cy A_) A_) (by decide) rfl rfl (Nat.le_of_ble_eq_true rfl) ?_
  intro p_ e_ s_ m_ args_ below_ meth_ c_ A_ ls hcf hr hlk hnm hK_ hE hw hA hl
  obtain ⟨hx, hb_, hml, hown, hts⟩ := id hcf
  have hin7 : ∀ w_ ∈ wsX70, w_ ∈ wsX7_at := fun w_ h_ => (List.mem_cons_of_mem _ (List.mem_append_right _ h_))
  have hl : lv_has ls 2 [(0, .ref a0_), (1, .int i_)] := hl
  refine lv_iload_n hx hb_ dX7_at_0 rfl (lv_at hl 1 rfl) ?_
  refine lv_if_lt (tgt := 28) hx hb_ dX7_at_1 (by decide) (fun c_1 => ?_) (fun c_1 => ?_)
  · refine lv_lconst (v := 0) hx hb_ dX7_at_28 (by decide) ?_
    exact z_lret (v := 0) hcf hr hlk hw (⟨rfl, rfl⟩) dX7_at_29
  · refine lv_iload_n hx hb_ dX7_at_4 rfl (lv_at hl 1 rfl) ?_
    refine lv_aload_n hx hb_ dX7_at_5 rfl (lv_at hl 0 rfl) ?_
    refine z_get (k := 7) (i := 1) (j := 701) (v := .int 0) (ref := "FoldedInHalf$Shelf") (C := RX7) (T := TX7) (N := 4) hcf hK_ hw hin7 hL hk rfl (by decide) (by decide) rfl rfl (congrArg Value.int h0) (List.mem_of_getElem? (i := 1) rfl) (fun _ h_ => h_) dX7_at_6 ?_
    refine lv_icmp_ge (tgt := 28) hx hb_ dX7_at_9 (by decide) (fun c_9 => ?_) (fun c_9 => absurd (zx_nlt c_1) c_9)
    refine lv_lconst (v := 0) hx hb_ dX7_at_28 (by decide) ?_
    exact z_lret (v := 0) hcf hr hlk hw (⟨rfl, rfl⟩) dX7_at_29
