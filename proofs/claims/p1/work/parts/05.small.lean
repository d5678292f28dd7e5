set_option maxHeartbeats 4000000 in
set_option maxRecDepth 100000 in
theorem c_J7_fill_d0a16 (l : Launch) (cD : va_G) (cy : Nat → ClassId) (sz_ : Nat) (S_ : zS) (a0_ n0_ : Nat) (x_ : Int64) (hL : a0_ ∈ zL S_) (hk : zK S_ a0_ = 14) (hn : zN S_ a0_ = n0_) (hn0 : n0_ < 2147483648)  : Met l yJ7_fill_d0a16 wsJ7_fill_d0a16 ({ frames := 0, cells := 0, slots := 0, locals := 0 } : Room) (va_Pc [.ref a0_, .long x_] (zPre cD cy S_ sz_)) (va_Qv (fun (S1 : zS) => ∃ f_, S1 = zsB S_ a0_ f_ ∧ (∀ k_, k_ < n0_ → f_ k_ = x_) ∧ (∀ k_, n0_ ≤ k_ → f_ k_ = zB S_ a0_ k_)) (zPost cD cy (zAd cy S_ sz_)) (zAd cy S_ sz_)) 0 0 (zAd cy S_ sz_) := by
  refine z_ofW (cc := cJ7_fill_d0a16) (maxL := 5) (ret := none) (own := RJ7) (QQ := fun A_ => va_Qv (fun (S1 : zS) => ∃ f_, S1 = zsB S_ a0_ f_ ∧ (∀ k_, k_ < n0_ → f_ k_ = x_) ∧ (∀ k_, n0_ ≤ k_ → f_ k_ = zB S_ a0_ k_)) (zPost cD cy A_) A_) (by decide) rfl rfl (Nat.le_of_ble_eq_true rfl) ?_
  intro p_ e_ s_ m_ args_ below_ meth_ c_ A_ ls hcf hr hlk hnm hK_ hE hw hA hl
  obtain ⟨hx, hb_, hml, hown, hts⟩ := id hcf
  have hl : lv_has ls 5 [(0, .ref a0_), (1, .long x_)] := hl
  obtain ⟨N_, eN_⟩ : ∃ N_ : Int32, N_ = nI n0_ := ⟨_, rfl⟩
  refine lv_iconst (v := 0) hx hb_ dJ7_fill_d0a16_0 (by decide) ?_
  refine lv_istore_n (lv' := [(3, .int 0), (0, .ref a0_), (1, .long x_)]) hx hb_ dJ7_fill_d0a16_1 rfl hl (by decide) rfl (fun ls hl => ?_)
  refine lv_aload_n hx hb_ dJ7_fill_d0a16_2 rfl (lv_at hl 1 rfl) ?_
  refine z_alen (n := n0_) (v := N_) hcf hK_ hw hL (Or.inr (Or.inl hk)) hn eN_.symm dJ7_fill_d0a16_3 ?_
  refine lv_istore (lv' := [(4, .int N_), (3, .int 0), (0, .ref a0_), (1, .long x_)]) hx hb_ dJ7_fill_d0a16_4 hl (by decide) rfl (fun ls hl => ?_)
  have J_ : ∀ (n_ j_ : Nat) (i_ : Int32), i_ = nI j_ → j_ ≤ n0_ → n0_ < j_ + n_ → ∀ (f_ : Nat → Int64), (∀ k_, k_ < j_ → f_ k_ = x_) → (∀ k_, j_ ≤ k_ → f_ k_ = zB S_ a0_ k_) → ∀ (H_ : Heap) (locs_ : List Loc), zPw cD cy A_ s_.heap (zsB S_ a0_ f_) H_ locs_ → ∀ ls : Array Slot, lv_has ls 5 [(0, .ref a0_), (1, .long x_), (3, .int i_), (4, .int N_)] → W p_ l e_ ({ frames := 0, cells := 0, slots := 0, locals := 0 } : Room) s_ m_ args_ below_ meth_ c_ H_ locs_ 0 0 (MQ below_ (va_Qv (fun (S1 : zS) => ∃ f_, S1 = zsB S_ a0_ f_ ∧ (∀ k_, k_ < n0_ → f_ k_ = x_) ∧ (∀ k_, n0_ ≤ k_ → f_ k_ = zB S_ a0_ k_)) (zPost cD cy A_) A_) args_ s_ 0 0 A_) (F0 m_ 6 ls []) := by
    intro n_
    induction n_ with
    | zero => intro j_ i_ _ _ h_; exact absurd h_ (by omega)
    | succ n_ ih_ =>
      intro j_ i_ ei hj hm_ f_ hf hg H_ locs_ hw ls hl
      have hk2 : zK (zsB S_ a0_ f_) a0_ = 14 := hk
      refine lv_iload_n hx hb_ dJ7_fill_d0a16_6 rfl (lv_at hl 2 rfl) ?_
      refine lv_iload hx hb_ dJ7_fill_d0a16_7 (lv_at hl 3 rfl) ?_
      refine lv_icmp_ge (tgt := 22) hx hb_ dJ7_fill_d0a16_9 (by decide) (fun c_9 => ?_) (fun c_9 => ?_)
      · exact z_vret hcf hr hlk hw (⟨f_, rfl, fun k_ h_ => hf k_ (by have := zn_ge ei eN_ hn0 c_9; omega), fun k_ h_ => hg k_ (by omega)⟩) dJ7_fill_d0a16_22
      · refine lv_aload_n hx hb_ dJ7_fill_d0a16_12 rfl (lv_at hl 0 rfl) ?_
        refine lv_iload_n hx hb_ dJ7_fill_d0a16_13 rfl (lv_at hl 2 rfl) ?_
        refine lv_lload_n hx hb_ dJ7_fill_d0a16_14 rfl (lv_at hl 1 rfl) ?_
        refine z_last (n := n0_) hcf hK_ hw hL hk2 hn (by rw [ei]; exact vp_in_nI (zn_lt ei eN_ (by omega) c_9) hn0) dJ7_fill_d0a16_15 (fun H_ locs_ hw => ?_)
        obtain ⟨i2_, ei2⟩ : ∃ y_ : Int32, y_ = i_ + 1 := ⟨_, rfl⟩
        refine lv_iinc (v := i2_) (lv' := [(3, .int i2_), (0, .ref a0_), (1, .long x_), (4, .int N_)]) hx hb_ dJ7_fill_d0a16_16 hl (k := 2) rfl (by rw [ei2]; rfl) (by decide) rfl (fun ls hl => ?_)
        refine lv_goto (tgt := 6) hx hb_ dJ7_fill_d0a16_19 (by decide) ?_
        rw [zsB_zsB, zB_zsB] at hw
        have hlt : j_ < n0_ := zn_lt ei eN_ (by omega) c_9
        refine ih_ (j_ + 1) i2_ (by rw [ei2, ei]; exact nI_1 j_) hlt (by omega) _ (fun k_ hk => ?_) (fun k_ hk => ?_) H_ locs_ hw ls (lv_sub hl [1, 2, 0, 3] rfl)
        · by_cases e_ : k_ = j_
          · subst e_; simp [vp_updL, ei, nI_clamp (show k_ < 2 ^ 31 by omega)]
          · simp only [vp_updL, ei, nI_clamp (show j_ < 2 ^ 31 by omega), if_neg e_]; exact hf k_ (by omega)
        · have e_ : k_ ≠ j_ := by omega
          simp only [vp_updL, ei, nI_clamp (show j_ < 2 ^ 31 by omega), if_neg e_]; exact hg k_ (by omega)
  exact J_ (n0_ + 1) 0 0 nI_0.symm (Nat.zero_le _) (by omega) (zB S_ a0_) (fun k_ h_ => absurd h_ (Nat.not_lt_zero k_)) (fun k_ _ => rfl) H_ locs_ (by rw [zsB_self]; exact hw) ls (lv_sub hl [2, 3, 1, 0] rfl)

