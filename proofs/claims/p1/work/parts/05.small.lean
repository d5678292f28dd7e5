set_option maxHeartbeats 4000000 in
set_option maxRecDepth 100000 in
theorem c_J7_fill_d0a16 (l : Launch) (cD : va_G) (cy : Nat → ClassId) (sz : Nat) (S : zS) (a0 n0 : Nat) (x : Int64) (hL : a0 ∈ zL S) (hk : zK S a0 = 14) (hn : zN S a0 = n0) (hn0 : n0 < 2147483648)  : Met l yJ7_fill_d0a16 wsJ7_fill_d0a16 ({ frames := 0, cells := 0, slots := 0, locals := 0 } : Room) (va_Pc [.ref a0, .long x] (zPre cD cy S sz)) (va_Qv (fun (S1 : zS) => ∃ f, S1 = zsB S a0 f ∧ (∀ k, k < n0 → f k = x) ∧ (∀ k, n0 ≤ k → f k = zB S a0 k)) (zPost cD cy (zAd cy S sz)) (zAd cy S sz)) 0 0 (zAd cy S sz) := by
  refine z_ofW (cc := cJ7_fill_d0a16) (maxL := 5) (ret := none) (own := RJ7) (QQ := fun A => va_Qv (fun (S1 : zS) => ∃ f, S1 = zsB S a0 f ∧ (∀ k, k < n0 → f k = x) ∧ (∀ k, n0 ≤ k → f k = zB S a0 k)) (zPost cD cy A) A) (by decide) rfl rfl (Nat.le_of_ble_eq_true rfl) ?_
  intro p e s m args below meth c A ls hcf hr hlk hnm hK hE hw hA hl
  obtain ⟨hx, hb, hml, hown, hts⟩ := id hcf
  have hl : lv_has ls 5 [(0, .ref a0), (1, .long x)] := hl
  obtain ⟨N, eN⟩ : ∃ N : Int32, N = nI n0 := ⟨_, rfl⟩
  refine lv_iconst (v := 0) hx hb dJ7_fill_d0a16_0 (by decide) ?_
  refine lv_istore_n (lv' := [(3, .int 0), (0, .ref a0), (1, .long x)]) hx hb dJ7_fill_d0a16_1 rfl hl (by decide) rfl (fun ls hl => ?_)
  refine lv_aload_n hx hb dJ7_fill_d0a16_2 rfl (lv_at hl 1 rfl) ?_
  refine z_alen (n := n0) (v := N) hcf hK hw hL (Or.inr (Or.inl hk)) hn eN.symm dJ7_fill_d0a16_3 ?_
  refine lv_istore (lv' := [(4, .int N), (3, .int 0), (0, .ref a0), (1, .long x)]) hx hb dJ7_fill_d0a16_4 hl (by decide) rfl (fun ls hl => ?_)
  have J : ∀ (n j : Nat) (i : Int32), i = nI j → j ≤ n0 → n0 < j + n → ∀ (f : Nat → Int64), (∀ k, k < j → f k = x) → (∀ k, j ≤ k → f k = zB S a0 k) → ∀ (H : Heap) (locs : List Loc), zPw cD cy A s.heap (zsB S a0 f) H locs → ∀ ls : Array Slot, lv_has ls 5 [(0, .ref a0), (1, .long x), (3, .int i), (4, .int N)] → W p l e ({ frames := 0, cells := 0, slots := 0, locals := 0 } : Room) s m args below meth c H locs 0 0 (MQ below (va_Qv (fun (S1 : zS) => ∃ f, S1 = zsB S a0 f ∧ (∀ k, k < n0 → f k = x) ∧ (∀ k, n0 ≤ k → f k = zB S a0 k)) (zPost cD cy A) A) args s 0 0 A) (F0 m 6 ls []) := by
    intro n
    induction n with
    | zero => intro j i _ _ h; exact absurd h (by omega)
    | succ n ih =>
      intro j i ei hj hm f hf hg H locs hw ls hl
      have hk2 : zK (zsB S a0 f) a0 = 14 := hk
      refine lv_iload_n hx hb dJ7_fill_d0a16_6 rfl (lv_at hl 2 rfl) ?_
      refine lv_iload hx hb dJ7_fill_d0a16_7 (lv_at hl 3 rfl) ?_
      refine lv_icmp_ge (tgt := 22) hx hb dJ7_fill_d0a16_9 (by decide) (fun c_9 => ?_) (fun c_9 => ?_)
      · exact z_vret hcf hr hlk hw (⟨f, rfl, fun k h => hf k (by have := zn_ge ei eN hn0 c_9; omega), fun k h => hg k (by omega)⟩) dJ7_fill_d0a16_22
      · refine lv_aload_n hx hb dJ7_fill_d0a16_12 rfl (lv_at hl 0 rfl) ?_
        refine lv_iload_n hx hb dJ7_fill_d0a16_13 rfl (lv_at hl 2 rfl) ?_
        refine lv_lload_n hx hb dJ7_fill_d0a16_14 rfl (lv_at hl 1 rfl) ?_
        refine z_last (n := n0) hcf hK hw hL hk2 hn (by rw [ei]; exact vp_in_nI (zn_lt ei eN (by omega) c_9) hn0) dJ7_fill_d0a16_15 (fun H locs hw => ?_)
        obtain ⟨i2, ei2⟩ : ∃ y : Int32, y = i + 1 := ⟨_, rfl⟩
        refine lv_iinc (v := i2) (lv' := [(3, .int i2), (0, .ref a0), (1, .long x), (4, .int N)]) hx hb dJ7_fill_d0a16_16 hl (k := 2) rfl (by rw [ei2]; rfl) (by decide) rfl (fun ls hl => ?_)
        refine lv_goto (tgt := 6) hx hb dJ7_fill_d0a16_19 (by decide) ?_
        rw [zsB_zsB, zB_zsB] at hw
        have hlt : j < n0 := zn_lt ei eN (by omega) c_9
        refine ih (j + 1) i2 (by rw [ei2, ei]; exact nI_1 j) hlt (by omega) _ (fun k hk => ?_) (fun k hk => ?_) H locs hw ls (lv_sub hl [1, 2, 0, 3] rfl)
        · by_cases e : k = j
          · subst e; simp [vp_updL, ei, nI_clamp (show k < 2 ^ 31 by omega)]
          · simp only [vp_updL, ei, nI_clamp (show j < 2 ^ 31 by omega), if_neg e]; exact hf k (by omega)
        · have e : k ≠ j := by omega
          simp only [vp_updL, ei, nI_clamp (show j < 2 ^ 31 by omega), if_neg e]; exact hg k (by omega)
  exact J (n0 + 1) 0 0 nI_0.symm (Nat.zero_le _) (by omega) (zB S a0) (fun k h => absurd h (Nat.not_lt_zero k)) (fun k _ => rfl) H locs (by rw [zsB_self]; exact hw) ls (lv_sub hl [2, 3, 1, 0] rfl)

set_option maxHeartbeats 4000000 in
set_option maxRecDepth 100000 in
theorem c_J7_fill_53178 (l : Launch) (cD : va_G) (cy : Nat → ClassId) (sz : Nat) (S : zS) (a0 n0 : Nat) (x : Int32) (hL : a0 ∈ zL S) (hk : zK S a0 = 13) (hn : zN S a0 = n0) (hn0 : n0 < 2147483648)  : Met l yJ7_fill_53178 wsJ7_fill_53178 ({ frames := 0, cells := 0, slots := 0, locals := 0 } : Room) (va_Pc [.ref a0, .int x] (zPre cD cy S sz)) (va_Qv (fun (S1 : zS) => ∃ f, S1 = zsA S a0 f ∧ (∀ k, k < n0 → f k = x) ∧ (∀ k, n0 ≤ k → f k = zA S a0 k)) (zPost cD cy (zAd cy S sz)) (zAd cy S sz)) 0 0 (zAd cy S sz) := by
  refine z_ofW (cc := cJ7_fill_53178) (maxL := 4) (ret := none) (own := RJ7) (QQ := fun A => va_Qv (fun (S1 : zS) => ∃ f, S1 = zsA S a0 f ∧ (∀ k, k < n0 → f k = x) ∧ (∀ k, n0 ≤ k → f k = zA S a0 k)) (zPost cD cy A) A) (by decide) rfl rfl (Nat.le_of_ble_eq_true rfl) ?_
  intro p e s m args below meth c A ls hcf hr hlk hnm hK hE hw hA hl
  obtain ⟨hx, hb, hml, hown, hts⟩ := id hcf
  have hl : lv_has ls 4 [(0, .ref a0), (1, .int x)] := hl
  obtain ⟨N, eN⟩ : ∃ N : Int32, N = nI n0 := ⟨_, rfl⟩
  refine lv_iconst (v := 0) hx hb dJ7_fill_53178_0 (by decide) ?_
  refine lv_istore_n (lv' := [(2, .int 0), (0, .ref a0), (1, .int x)]) hx hb dJ7_fill_53178_1 rfl hl (by decide) rfl (fun ls hl => ?_)
  refine lv_aload_n hx hb dJ7_fill_53178_2 rfl (lv_at hl 1 rfl) ?_
  refine z_alen (n := n0) (v := N) hcf hK hw hL (Or.inl hk) hn eN.symm dJ7_fill_53178_3 ?_
  refine lv_istore_n (lv' := [(3, .int N), (2, .int 0), (0, .ref a0), (1, .int x)]) hx hb dJ7_fill_53178_4 rfl hl (by decide) rfl (fun ls hl => ?_)
  have J : ∀ (n j : Nat) (i : Int32), i = nI j → j ≤ n0 → n0 < j + n → ∀ (f : Nat → Int32), (∀ k, k < j → f k = x) → (∀ k, j ≤ k → f k = zA S a0 k) → ∀ (H : Heap) (locs : List Loc), zPw cD cy A s.heap (zsA S a0 f) H locs → ∀ ls : Array Slot, lv_has ls 4 [(0, .ref a0), (1, .int x), (2, .int i), (3, .int N)] → W p l e ({ frames := 0, cells := 0, slots := 0, locals := 0 } : Room) s m args below meth c H locs 0 0 (MQ below (va_Qv (fun (S1 : zS) => ∃ f, S1 = zsA S a0 f ∧ (∀ k, k < n0 → f k = x) ∧ (∀ k, n0 ≤ k → f k = zA S a0 k)) (zPost cD cy A) A) args s 0 0 A) (F0 m 5 ls []) := by
    intro n
    induction n with
    | zero => intro j i _ _ h; exact absurd h (by omega)
    | succ n ih =>
      intro j i ei hj hm f hf hg H locs hw ls hl
      have hk2 : zK (zsA S a0 f) a0 = 13 := hk
      refine lv_iload_n hx hb dJ7_fill_53178_5 rfl (lv_at hl 2 rfl) ?_
      refine lv_iload_n hx hb dJ7_fill_53178_6 rfl (lv_at hl 3 rfl) ?_
      refine lv_icmp_ge (tgt := 20) hx hb dJ7_fill_53178_7 (by decide) (fun c_7 => ?_) (fun c_7 => ?_)
      · exact z_vret hcf hr hlk hw (⟨f, rfl, fun k h => hf k (by have := zn_ge ei eN hn0 c_7; omega), fun k h => hg k (by omega)⟩) dJ7_fill_53178_20
      · refine lv_aload_n hx hb dJ7_fill_53178_10 rfl (lv_at hl 0 rfl) ?_
        refine lv_iload_n hx hb dJ7_fill_53178_11 rfl (lv_at hl 2 rfl) ?_
        refine lv_iload_n hx hb dJ7_fill_53178_12 rfl (lv_at hl 1 rfl) ?_
        refine z_iast (n := n0) hcf hK hw hL hk2 hn (by rw [ei]; exact vp_in_nI (zn_lt ei eN (by omega) c_7) hn0) dJ7_fill_53178_13 (fun H locs hw => ?_)
        obtain ⟨i2, ei2⟩ : ∃ y : Int32, y = i + 1 := ⟨_, rfl⟩
        refine lv_iinc (v := i2) (lv' := [(2, .int i2), (0, .ref a0), (1, .int x), (3, .int N)]) hx hb dJ7_fill_53178_14 hl (k := 2) rfl (by rw [ei2]; rfl) (by decide) rfl (fun ls hl => ?_)
        refine lv_goto (tgt := 5) hx hb dJ7_fill_53178_17 (by decide) ?_
        rw [zsA_zsA, zA_zsA] at hw
        have hlt : j < n0 := zn_lt ei eN (by omega) c_7
        refine ih (j + 1) i2 (by rw [ei2, ei]; exact nI_1 j) hlt (by omega) _ (fun k hk => ?_) (fun k hk => ?_) H locs hw ls (lv_sub hl [1, 2, 0, 3] rfl)
        · by_cases e : k = j
          · subst e; simp [upd, ei, nI_clamp (show k < 2 ^ 31 by omega)]
          · simp only [upd, ei, nI_clamp (show j < 2 ^ 31 by omega), if_neg e]; exact hf k (by omega)
        · have e : k ≠ j := by omega
          simp only [upd, ei, nI_clamp (show j < 2 ^ 31 by omega), if_neg e]; exact hg k (by omega)
  exact J (n0 + 1) 0 0 nI_0.symm (Nat.zero_le _) (by omega) (zA S a0) (fun k h => absurd h (Nat.not_lt_zero k)) (fun k _ => rfl) H locs (by rw [zsA_self]; exact hw) ls (lv_sub hl [2, 3, 1, 0] rfl)

set_option maxHeartbeats 4000000 in
set_option maxRecDepth 100000 in
/-- refuse(b), b from -7 to -1: b; a refusal more -/
theorem c_X11_refuse (l : Launch) (cD : va_G) (cy : Nat → ClassId) (sz : Nat) (r : Nat → Nat) (S : zS) (hSh : ShC S r) (b : Int32) (h1 : ¬ -b ≤ 0) (h2 : ¬ 8 ≤ -b) : Met l yX11_refuse wsX11_refuse ({ frames := 0, cells := 0, slots := 0, locals := 0 } : Room) (va_Pc [.ref (r 0), .int b] (zPre cD cy S sz)) (va_Qi (fun (v : Int32) (S1 : zS) => v = b ∧ ∃ f, S1 = zsA S (r 4) f) (zPost cD cy (zAd cy S sz)) (zAd cy S sz)) 0 0 (zAd cy S sz) := by
  refine z_ofW (cc := cX11_refuse) (maxL := 3) (ret := (some .int)) (own := RX11) (QQ := fun A => va_Qi (fun (v : Int32) (S1 : zS) => v = b ∧ ∃ f, S1 = zsA S (r 4) f) (zPost cD cy A) A) (by decide) rfl rfl (Nat.le_of_ble_eq_true rfl) ?_
  intro p e s m args below meth c A ls hcf hr hlk hnm hK hE hw hA hl
  obtain ⟨hx, hb, hml, hown, hts⟩ := id hcf
  have hin11 : ∀ w ∈ wsX110, w ∈ wsX11_refuse := fun w h => (List.mem_cons_of_mem _ (List.mem_append_right _ h))
  have hl : lv_has ls 3 [(0, .ref (r 0)), (1, .int b)] := hl
  have hi : ∀ q : Int32, q = -b → vp_in q 8 := fun q e => by rw [e]; exact zx_in (fun z => h1 (by rw [zx_lt] at z; rw [zx_le]; omega)) h2 (by decide)
  refine lv_iload_n hx hb dX11_refuse_0 rfl (lv_at hl 1 rfl) ?_
  refine lv_ineg hx hb dX11_refuse_1 ?_
  refine lv_topi (fun q eq => ?_)
  refine lv_istore_n (lv' := [(2, .int q), (0, .ref (r 0)), (1, .int b)]) hx hb dX11_refuse_2 rfl hl (by decide) rfl (fun ls hl => ?_)
  refine lv_iload_n hx hb dX11_refuse_3 rfl (lv_at hl 0 rfl) ?_
  refine lv_if_le (tgt := 26) hx hb dX11_refuse_4 (by decide) (fun c_4 => absurd c_4 ((by rw [eq]; exact h1))) (fun c_4 => ?_)
  refine lv_iload_n hx hb dX11_refuse_7 rfl (lv_at hl 0 rfl) ?_
  refine lv_aload_n hx hb dX11_refuse_8 rfl (lv_at hl 1 rfl) ?_
  refine z_get (k := 11) (i := 3) (j := 1103) (v := .ref (r 4)) (ref := "FoldedInHalf") (C := RX11) (T := TX11) (N := 13) hcf hK hw hin11 (cL hSh 0) (cK hSh 0) rfl (by decide) (by decide) rfl rfl (congrArg va_rf (cP hSh 3)) (List.mem_of_getElem? (i := 1) rfl) (fun _ h => h) dX11_refuse_9 ?_
  refine z_alen (n := 8) (v := 8) hcf hK hw (cL hSh 4) (Or.inl (cK hSh 4)) (cN hSh 4) (by decide) dX11_refuse_12 ?_
  refine lv_icmp_ge (tgt := 26) hx hb dX11_refuse_13 (by decide) (fun c_13 => absurd c_13 ((by rw [eq]; exact h2))) (fun c_13 => ?_)
  refine lv_aload_n hx hb dX11_refuse_16 rfl (lv_at hl 1 rfl) ?_
  refine z_get (k := 11) (i := 3) (j := 1103) (v := .ref (r 4)) (ref := "FoldedInHalf") (C := RX11) (T := TX11) (N := 13) hcf hK hw hin11 (cL hSh 0) (cK hSh 0) rfl (by decide) (by decide) rfl rfl (congrArg va_rf (cP hSh 3)) (List.mem_of_getElem? (i := 1) rfl) (fun _ h => h) dX11_refuse_17 ?_
  refine lv_iload_n hx hb dX11_refuse_20 rfl (lv_at hl 0 rfl) ?_
  refine lv_dup2_11 hx hb dX11_refuse_21 rfl rfl ?_
  refine z_iald (n := 8) hcf hK hw (cL hSh 4) (cK hSh 4) (cN hSh 4) (hi q eq) dX11_refuse_22 ?_
  refine lv_iconst (v := 1) hx hb dX11_refuse_23 (by decide) ?_
  refine lv_iadd hx hb dX11_refuse_24 ?_
  refine z_iast (n := 8) hcf hK hw (cL hSh 4) (cK hSh 4) (cN hSh 4) (hi q eq) dX11_refuse_25 (fun H locs hw => ?_)
  refine lv_iload_n hx hb dX11_refuse_26 rfl (lv_at hl 2 rfl) ?_
  exact z_iret (ty := .int) (v := b) hcf hr rfl hlk hw (⟨rfl, _, rfl⟩) dX11_refuse_27

set_option maxHeartbeats 4000000 in
set_option maxRecDepth 100000 in
/-- refuseTens(b): b less 10 -/
theorem c_X11_refuseTens (l : Launch) (cD : va_G) (cy : Nat → ClassId) (sz : Nat) (r : Nat → Nat) (S : zS) (hSh : ShC S r) (b : Int32) (h1 : ¬ -b ≤ 0) (h2 : ¬ 8 ≤ -b) : Met l yX11_refuseTens wsX11_refuseTens ({ frames := 1, cells := 0, slots := 0, locals := 22 } : Room) (va_Pc [.ref (r 0), .int b] (zPre cD cy S sz)) (va_Qi (fun (v : Int32) (S1 : zS) => v = b - 10 ∧ ∃ f, S1 = zsA S (r 4) f) (zPost cD cy (zAd cy S sz)) (zAd cy S sz)) 0 0 (zAd cy S sz) := by
  refine z_ofW (cc := cX11_refuseTens) (maxL := 2) (ret := (some .int)) (own := RX11) (QQ := fun A => va_Qi (fun (v : Int32) (S1 : zS) => v = b - 10 ∧ ∃ f, S1 = zsA S (r 4) f) (zPost cD cy A) A) (by decide) rfl rfl (Nat.le_of_ble_eq_true rfl) ?_
  intro p e s m args below meth c A ls hcf hr hlk hnm hK hE hw hA hl
  obtain ⟨hx, hb, hml, hown, hts⟩ := id hcf
  have hl : lv_has ls 2 [(0, .ref (r 0)), (1, .int b)] := hl
  refine lv_aload_n hx hb dX11_refuseTens_0 rfl (lv_at hl 0 rfl) ?_
  refine lv_iload_n hx hb dX11_refuseTens_1 rfl (lv_at hl 1 rfl) ?_
  refine z_ki hw hA (va_runV (As := [.int b]) (rest := []) hcf (c_X11_refuse l cD cy H.size r S hSh b (by decide) (by decide)) (cwV 1 hts gX11_refuseTens_X11_refuse rfl rfl rfl (by decide +kernel) ⟨Nat.le_of_ble_eq_true rfl, Nat.le_of_ble_eq_true rfl⟩) (z_preV (k := 11) hK hE hw (cL hSh 0) (cK hSh 0) (by decide) rfl) rfl rfl hl.1 rfl (lv_room (Nat.le_of_ble_eq_true rfl)) dX11_refuseTens_2 ⟨Nat.le_of_ble_eq_true rfl, Nat.le_of_ble_eq_true rfl⟩) (fun v1 S2 H locs hp hw => ?_)
  obtain ⟨rfl, f3, rfl⟩ := hp
  refine lv_bipush (v := 10) hx hb dX11_refuseTens_5 (by decide) ?_
  refine lv_isub hx hb dX11_refuseTens_7 ?_
  exact z_iret (ty := .int) (v := (b - 10)) hcf hr rfl hlk hw (⟨rfl, _, rfl⟩) dX11_refuseTens_8

set_option maxHeartbeats 4000000 in
set_option maxRecDepth 100000 in
/-- shelfAt(s) -/
theorem c_X11_shelfAt (l : Launch) (cD : va_G) (cy : Nat → ClassId) (sz : Nat) (r : Nat → Nat) (S : zS) (hSh : ShC S r) (a : Int32) : Met l yX11_shelfAt wsX11_shelfAt ({ frames := 0, cells := 0, slots := 0, locals := 0 } : Room) (va_Pc [.ref (r 0), .int a] (zPre cD cy S sz)) (va_Qq (fun (v : Option Nat) (S1 : zS) => ((a < 0 ∨ 8 ≤ a) ∧ v = none ∨ (¬ a < 0 ∧ ¬ 8 ≤ a) ∧ ∃ j, j < 8 ∧ a.toNatClampNeg = j ∧ v = some (r (17 + j))) ∧ S = S1) (zPost cD cy (zAd cy S sz)) (zAd cy S sz)) 0 0 (zAd cy S sz) := by
  refine z_ofW (cc := cX11_shelfAt) (maxL := 2) (ret := (some (.object "FoldedInHalf$Shelf"))) (own := RX11) (QQ := fun A => va_Qq (fun (v : Option Nat) (S1 : zS) => ((a < 0 ∨ 8 ≤ a) ∧ v = none ∨ (¬ a < 0 ∧ ¬ 8 ≤ a) ∧ ∃ j, j < 8 ∧ a.toNatClampNeg = j ∧ v = some (r (17 + j))) ∧ S = S1) (zPost cD cy A) A) (by decide) rfl rfl (Nat.le_of_ble_eq_true rfl) ?_
  intro p e s m args below meth c A ls hcf hr hlk hnm hK hE hw hA hl
  obtain ⟨hx, hb, hml, hown, hts⟩ := id hcf
  have hin11 : ∀ w ∈ wsX110, w ∈ wsX11_shelfAt := fun w h => (List.mem_cons_of_mem _ (List.mem_append_right _ h))
  have hl : lv_has ls 2 [(0, .ref (r 0)), (1, .int a)] := hl
  refine lv_iload_n hx hb dX11_shelfAt_0 rfl (lv_at hl 1 rfl) ?_
  refine lv_if_lt (tgt := 19) hx hb dX11_shelfAt_1 (by decide) (fun c_1 => ?_) (fun c_1 => ?_)
  · refine lv_null hx hb dX11_shelfAt_19 ?_
    exact z_aret (v := none) hcf hr hlk hw (⟨Or.inl ⟨Or.inl c_1, rfl⟩, rfl⟩) dX11_shelfAt_20
  · refine lv_iload_n hx hb dX11_shelfAt_4 rfl (lv_at hl 1 rfl) ?_
    refine lv_bipush (v := 8) hx hb dX11_shelfAt_5 (by decide) ?_
    refine lv_icmp_ge (tgt := 19) hx hb dX11_shelfAt_7 (by decide) (fun c_7 => ?_) (fun c_7 => ?_)
    · refine lv_null hx hb dX11_shelfAt_19 ?_
      exact z_aret (v := none) hcf hr hlk hw (⟨Or.inl ⟨Or.inr c_7, rfl⟩, rfl⟩) dX11_shelfAt_20
    · refine lv_aload_n hx hb dX11_shelfAt_10 rfl (lv_at hl 0 rfl) ?_
      refine z_get (k := 11) (i := 0) (j := 1100) (v := .ref (r 1)) (ref := "FoldedInHalf") (C := RX11) (T := TX11) (N := 13) hcf hK hw hin11 (cL hSh 0) (cK hSh 0) rfl (by decide) (by decide) rfl rfl (congrArg va_rf (cP hSh 0)) (List.mem_of_getElem? (i := 1) rfl) (fun _ h => h) dX11_shelfAt_11 ?_
      refine lv_iload_n hx hb dX11_shelfAt_14 rfl (lv_at hl 1 rfl) ?_
      refine z_pald (n := 8) (v := .ref (r (17 + a.toNatClampNeg))) hcf hK hw (cL hSh 1) (cK hSh 1) (cN hSh 1) (zx_in c_1 c_7 (by decide)) (congrArg va_rf (cSh hSh _ (zx_nat c_1 c_7 (by decide)))) dX11_shelfAt_15 ?_
      refine lv_goto (tgt := 20) hx hb dX11_shelfAt_16 (by decide) ?_
      exact z_aret (v := some (r (17 + a.toNatClampNeg))) hcf hr hlk hw (⟨Or.inr ⟨⟨c_1, c_7⟩, a.toNatClampNeg, zx_nat c_1 c_7 (by decide), rfl, rfl⟩, rfl⟩) dX11_shelfAt_20

set_option maxHeartbeats 4000000 in
set_option maxRecDepth 100000 in
/-- stripAt(t), no STRIP there -/
theorem c_X11_stripAt (l : Launch) (cD : va_G) (cy : Nat → ClassId) (sz : Nat) (r : Nat → Nat) (S : zS) (hSh : ShC S r) (h0 : zI S 1110 (r 0) = 0) (t : Int32) : Met l yX11_stripAt wsX11_stripAt ({ frames := 0, cells := 0, slots := 0, locals := 0 } : Room) (va_Pc [.ref (r 0), .int t] (zPre cD cy S sz)) (va_Qq (fun (v : Option Nat) (S1 : zS) => v = none ∧ S = S1) (zPost cD cy (zAd cy S sz)) (zAd cy S sz)) 0 0 (zAd cy S sz) := by
  refine z_ofW (cc := cX11_stripAt) (maxL := 2) (ret := (some (.object "FoldedInHalf$Strip"))) (own := RX11) (QQ := fun A => va_Qq (fun (v : Option Nat) (S1 : zS) => v = none ∧ S = S1) (zPost cD cy A) A) (by decide) rfl rfl (Nat.le_of_ble_eq_true rfl) ?_
  intro p e s m args below meth c A ls hcf hr hlk hnm hK hE hw hA hl
  obtain ⟨hx, hb, hml, hown, hts⟩ := id hcf
  have hin11 : ∀ w ∈ wsX110, w ∈ wsX11_stripAt := fun w h => (List.mem_cons_of_mem _ (List.mem_append_right _ h))
  have hl : lv_has ls 2 [(0, .ref (r 0)), (1, .int t)] := hl
  refine lv_iload_n hx hb dX11_stripAt_0 rfl (lv_at hl 1 rfl) ?_
  refine lv_if_lt (tgt := 27) hx hb dX11_stripAt_1 (by decide) (fun c_1 => ?_) (fun c_1 => ?_)
  · refine lv_null hx hb dX11_stripAt_27 ?_
    exact z_aret (v := none) hcf hr hlk hw (⟨rfl, rfl⟩) dX11_stripAt_28
  · refine lv_iload_n hx hb dX11_stripAt_4 rfl (lv_at hl 1 rfl) ?_
    refine lv_aload_n hx hb dX11_stripAt_5 rfl (lv_at hl 0 rfl) ?_
    refine z_get (k := 11) (i := 10) (j := 1110) (v := .int 0) (ref := "FoldedInHalf") (C := RX11) (T := TX11) (N := 13) hcf hK hw hin11 (cL hSh 0) (cK hSh 0) rfl (by decide) (by decide) rfl rfl (congrArg Value.int h0) (List.mem_of_getElem? (i := 1) rfl) (fun _ h => h) dX11_stripAt_6 ?_
    refine lv_icmp_ge (tgt := 27) hx hb dX11_stripAt_9 (by decide) (fun c_9 => ?_) (fun c_9 => absurd (zx_nlt c_1) c_9)
    refine lv_null hx hb dX11_stripAt_27 ?_
    exact z_aret (v := none) hcf hr hlk hw (⟨rfl, rfl⟩) dX11_stripAt_28

set_option maxHeartbeats 4000000 in
set_option maxRecDepth 100000 in
theorem c_X11_rowTrouble_n (l : Launch) (cD : va_G) (cy : Nat → ClassId) (sz : Nat) (S : zS) : Met l yX11_rowTrouble wsX11_rowTrouble ({ frames := 0, cells := 0, slots := 0, locals := 0 } : Room) (va_Pc [.null] (zPre cD cy S sz)) (va_Qi (fun (v : Int32) (S1 : zS) => v = -1 ∧ S = S1) (zPost cD cy (zAd cy S sz)) (zAd cy S sz)) 0 0 (zAd cy S sz) := by
  refine z_ofW (cc := cX11_rowTrouble) (maxL := 1) (ret := (some .int)) (own := RX11) (QQ := fun A => va_Qi (fun (v : Int32) (S1 : zS) => v = -1 ∧ S = S1) (zPost cD cy A) A) (by decide) rfl rfl (Nat.le_of_ble_eq_true rfl) ?_
  intro p e s m args below meth c A ls hcf hr hlk hnm hK hE hw hA hl
  obtain ⟨hx, hb, hml, hown, hts⟩ := id hcf
  have hl : lv_has ls 1 [(0, .null)] := hl
  refine lv_aload_nN hx hb dX11_rowTrouble_0 rfl (lv_at hl 0 rfl) ?_
  refine lv_ifnonnullN hx hb dX11_rowTrouble_1 ?_
  refine lv_iconst (v := (-1)) hx hb dX11_rowTrouble_4 (by decide) ?_
  exact z_iret (ty := .int) (v := (-1)) hcf hr rfl hlk hw (⟨rfl, rfl⟩) dX11_rowTrouble_5

set_option maxHeartbeats 4000000 in
set_option maxRecDepth 100000 in
theorem c_X11_rowTrouble_s (l : Launch) (cD : va_G) (cy : Nat → ClassId) (sz : Nat) (r : Nat → Nat) (S : zS) (hSh : ShC S r) (hF : FrC S r) (j : Nat) (hj : j < 8) : Met l yX11_rowTrouble wsX11_rowTrouble ({ frames := 0, cells := 0, slots := 0, locals := 0 } : Room) (va_Pc [.ref (r (17 + j))] (zPre cD cy S sz)) (va_Qi (fun (v : Int32) (S1 : zS) => v = -3 ∧ S = S1) (zPost cD cy (zAd cy S sz)) (zAd cy S sz)) 0 0 (zAd cy S sz) := by
  refine z_ofW (cc := cX11_rowTrouble) (maxL := 1) (ret := (some .int)) (own := RX11) (QQ := fun A => va_Qi (fun (v : Int32) (S1 : zS) => v = -3 ∧ S = S1) (zPost cD cy A) A) (by decide) rfl rfl (Nat.le_of_ble_eq_true rfl) ?_
  intro p e s m args below meth c A ls hcf hr hlk hnm hK hE hw hA hl
  obtain ⟨hx, hb, hml, hown, hts⟩ := id hcf
  have hin7 : ∀ w ∈ wsX70, w ∈ wsX11_rowTrouble := fun w h => (List.mem_cons_of_mem _ (List.mem_append_right _ h))
  have hl : lv_has ls 1 [(0, .ref (r (17 + j)))] := hl
  refine lv_aload_n hx hb dX11_rowTrouble_0 rfl (lv_at hl 0 rfl) ?_
  refine lv_ifnonnull (tgt := 6) hx hb dX11_rowTrouble_1 (by decide) ?_
  refine lv_aload_n hx hb dX11_rowTrouble_6 rfl (lv_at hl 0 rfl) ?_
  refine z_getN (k := 7) (i := 3) (j := 703) (v := .int (-1)) (ref := "FoldedInHalf$Shelf") (C := RX7) (T := TX7) (N := 4) hcf hK hw hin7 (cL hSh (17 + j) (by omega)) (cKS hSh j hj) rfl (by decide) (by decide) rfl rfl (congrArg Value.int (hF.2.2.2.1 j hj).2.2) (nw_F_FoldedInHalf_69 hE) (fun _ h => h) dX11_rowTrouble_7 ?_
  refine lv_iconst (v := (-1)) hx hb dX11_rowTrouble_10 (by decide) ?_
  refine lv_icmp_eq (tgt := 17) hx hb dX11_rowTrouble_11 (by decide) (fun _ => ?_) (fun c_11 => absurd c_11 (by decide))
  refine lv_aload_n hx hb dX11_rowTrouble_17 rfl (lv_at hl 0 rfl) ?_
  refine z_getN (k := 7) (i := 2) (j := 702) (v := .int (-1)) (ref := "FoldedInHalf$Shelf") (C := RX7) (T := TX7) (N := 4) hcf hK hw hin7 (cL hSh (17 + j) (by omega)) (cKS hSh j hj) rfl (by decide) (by decide) rfl rfl (congrArg Value.int (hF.2.2.2.1 j hj).2.1) (nw_F_FoldedInHalf_72 hE) (fun _ h => h) dX11_rowTrouble_18 ?_
  refine lv_iconst (v := (-1)) hx hb dX11_rowTrouble_21 (by decide) ?_
  refine lv_icmp_ne (tgt := 30) hx hb dX11_rowTrouble_22 (by decide) (fun c_22 => absurd c_22 (by decide)) (fun _ => ?_)
  refine lv_bipush (v := (-3)) hx hb dX11_rowTrouble_25 (by decide) ?_
  refine lv_goto (tgt := 31) hx hb dX11_rowTrouble_27 (by decide) ?_
  exact z_iret (ty := .int) (v := (-3)) hcf hr rfl hlk hw (⟨rfl, rfl⟩) dX11_rowTrouble_31

set_option maxHeartbeats 4000000 in
set_option maxRecDepth 100000 in
theorem c_X11_toldTrouble_n (l : Launch) (cD : va_G) (cy : Nat → ClassId) (sz : Nat) (S : zS) (n : Int32) : Met l yX11_toldTrouble wsX11_toldTrouble ({ frames := 1, cells := 0, slots := 0, locals := 20 } : Room) (va_Pc [.null, .int n] (zPre cD cy S sz)) (va_Qi (fun (v : Int32) (S1 : zS) => v = -1 ∧ S = S1) (zPost cD cy (zAd cy S sz)) (zAd cy S sz)) 0 0 (zAd cy S sz) := by
  refine z_ofW (cc := cX11_toldTrouble) (maxL := 3) (ret := (some .int)) (own := RX11) (QQ := fun A => va_Qi (fun (v : Int32) (S1 : zS) => v = -1 ∧ S = S1) (zPost cD cy A) A) (by decide) rfl rfl (Nat.le_of_ble_eq_true rfl) ?_
  intro p e s m args below meth c A ls hcf hr hlk hnm hK hE hw hA hl
  obtain ⟨hx, hb, hml, hown, hts⟩ := id hcf
  have hl : lv_has ls 3 [(0, .null), (1, .int n)] := hl
  refine lv_aload_nN hx hb dX11_toldTrouble_0 rfl (lv_at hl 0 rfl) ?_
  refine z_ki hw hA (va_runS (As := [.null]) (rest := []) hcf (c_X11_rowTrouble_n l cD cy H.size S) (va_cwS 1 hts gX11_toldTrouble_X11_rowTrouble rfl rfl rfl (by decide +kernel) ⟨Nat.le_of_ble_eq_true rfl, Nat.le_of_ble_eq_true rfl⟩) (z_preS hK hE hw) rfl rfl hl.1 rfl (lv_room (Nat.le_of_ble_eq_true rfl)) dX11_toldTrouble_1 ⟨Nat.le_of_ble_eq_true rfl, Nat.le_of_ble_eq_true rfl⟩) (fun v1 S2 H locs hp hw => ?_)
  obtain ⟨rfl, rfl⟩ := hp
  refine lv_istore_n (lv' := [(2, .int (-1)), (0, .null), (1, .int n)]) hx hb dX11_toldTrouble_4 rfl hl (by decide) rfl (fun ls hl => ?_)
  refine lv_iload_n hx hb dX11_toldTrouble_5 rfl (lv_at hl 0 rfl) ?_
  refine lv_if_ne (tgt := 13) hx hb dX11_toldTrouble_6 (by decide) (fun _ => ?_) (fun c_6 => absurd c_6 (by decide))
  refine lv_iload_n hx hb dX11_toldTrouble_13 rfl (lv_at hl 0 rfl) ?_
  exact z_iret (ty := .int) (v := (-1)) hcf hr rfl hlk hw (⟨rfl, rfl⟩) dX11_toldTrouble_14

set_option maxHeartbeats 4000000 in
set_option maxRecDepth 100000 in
theorem c_X11_toldTrouble_s (l : Launch) (cD : va_G) (cy : Nat → ClassId) (sz : Nat) (r : Nat → Nat) (S : zS) (hSh : ShC S r) (hF : FrC S r) (j : Nat) (hj : j < 8) (n : Int32) : Met l yX11_toldTrouble wsX11_toldTrouble ({ frames := 1, cells := 0, slots := 0, locals := 20 } : Room) (va_Pc [.ref (r (17 + j)), .int n] (zPre cD cy S sz)) (va_Qi (fun (v : Int32) (S1 : zS) => v = -3 ∧ S = S1) (zPost cD cy (zAd cy S sz)) (zAd cy S sz)) 0 0 (zAd cy S sz) := by
  refine z_ofW (cc := cX11_toldTrouble) (maxL := 3) (ret := (some .int)) (own := RX11) (QQ := fun A => va_Qi (fun (v : Int32) (S1 : zS) => v = -3 ∧ S = S1) (zPost cD cy A) A) (by decide) rfl rfl (Nat.le_of_ble_eq_true rfl) ?_
  intro p e s m args below meth c A ls hcf hr hlk hnm hK hE hw hA hl
  obtain ⟨hx, hb, hml, hown, hts⟩ := id hcf
  have hl : lv_has ls 3 [(0, .ref (r (17 + j))), (1, .int n)] := hl
  refine lv_aload_n hx hb dX11_toldTrouble_0 rfl (lv_at hl 0 rfl) ?_
  refine z_ki hw hA (va_runS (As := [.ref (r (17 + j))]) (rest := []) hcf (c_X11_rowTrouble_s l cD cy H.size r S hSh hF j hj ) (va_cwS 1 hts gX11_toldTrouble_X11_rowTrouble rfl rfl rfl (by decide +kernel) ⟨Nat.le_of_ble_eq_true rfl, Nat.le_of_ble_eq_true rfl⟩) (z_preS hK hE hw) rfl rfl hl.1 rfl (lv_room (Nat.le_of_ble_eq_true rfl)) dX11_toldTrouble_1 ⟨Nat.le_of_ble_eq_true rfl, Nat.le_of_ble_eq_true rfl⟩) (fun v1 S2 H locs hp hw => ?_)
  obtain ⟨rfl, rfl⟩ := hp
  refine lv_istore_n (lv' := [(2, .int (-3)), (0, .ref (r (17 + j))), (1, .int n)]) hx hb dX11_toldTrouble_4 rfl hl (by decide) rfl (fun ls hl => ?_)
  refine lv_iload_n hx hb dX11_toldTrouble_5 rfl (lv_at hl 0 rfl) ?_
  refine lv_if_ne (tgt := 13) hx hb dX11_toldTrouble_6 (by decide) (fun _ => ?_) (fun c_6 => absurd c_6 (by decide))
  refine lv_iload_n hx hb dX11_toldTrouble_13 rfl (lv_at hl 0 rfl) ?_
  exact z_iret (ty := .int) (v := (-3)) hcf hr rfl hlk hw (⟨rfl, rfl⟩) dX11_toldTrouble_14

set_option maxHeartbeats 4000000 in
set_option maxRecDepth 100000 in
theorem c_X11_toldTroubleTo63_n (l : Launch) (cD : va_G) (cy : Nat → ClassId) (sz : Nat) (S : zS) (n : Int32) : Met l yX11_toldTroubleTo63 wsX11_toldTroubleTo63 ({ frames := 2, cells := 0, slots := 0, locals := 42 } : Room) (va_Pc [.null, .int n] (zPre cD cy S sz)) (va_Qi (fun (v : Int32) (S1 : zS) => v = -1 ∧ S = S1) (zPost cD cy (zAd cy S sz)) (zAd cy S sz)) 0 0 (zAd cy S sz) := by
  refine z_ofW (cc := cX11_toldTroubleTo63) (maxL := 3) (ret := (some .int)) (own := RX11) (QQ := fun A => va_Qi (fun (v : Int32) (S1 : zS) => v = -1 ∧ S = S1) (zPost cD cy A) A) (by decide) rfl rfl (Nat.le_of_ble_eq_true rfl) ?_
  intro p e s m args below meth c A ls hcf hr hlk hnm hK hE hw hA hl
  obtain ⟨hx, hb, hml, hown, hts⟩ := id hcf
  have hl : lv_has ls 3 [(0, .null), (1, .int n)] := hl
  refine lv_aload_nN hx hb dX11_toldTroubleTo63_0 rfl (lv_at hl 0 rfl) ?_
  refine lv_iload_n hx hb dX11_toldTroubleTo63_1 rfl (lv_at hl 1 rfl) ?_
  refine z_ki hw hA (va_runS (As := [.null, .int n]) (rest := []) hcf (c_X11_toldTrouble_n l cD cy H.size S n) (va_cwS 2 hts gX11_toldTroubleTo63_X11_toldTrouble rfl rfl rfl (by decide +kernel) ⟨Nat.le_of_ble_eq_true rfl, Nat.le_of_ble_eq_true rfl⟩) (z_preS hK hE hw) rfl rfl hl.1 rfl (lv_room (Nat.le_of_ble_eq_true rfl)) dX11_toldTroubleTo63_2 ⟨Nat.le_of_ble_eq_true rfl, Nat.le_of_ble_eq_true rfl⟩) (fun v1 S2 H locs hp hw => ?_)
  obtain ⟨rfl, rfl⟩ := hp
  refine lv_istore_n (lv' := [(2, .int (-1)), (0, .null), (1, .int n)]) hx hb dX11_toldTroubleTo63_5 rfl hl (by decide) rfl (fun ls hl => ?_)
  refine lv_iload_n hx hb dX11_toldTroubleTo63_6 rfl (lv_at hl 0 rfl) ?_
  refine lv_if_ne (tgt := 21) hx hb dX11_toldTroubleTo63_7 (by decide) (fun _ => ?_) (fun c_7 => absurd c_7 (by decide))
  refine lv_iload_n hx hb dX11_toldTroubleTo63_21 rfl (lv_at hl 0 rfl) ?_
  exact z_iret (ty := .int) (v := (-1)) hcf hr rfl hlk hw (⟨rfl, rfl⟩) dX11_toldTroubleTo63_22

set_option maxHeartbeats 4000000 in
set_option maxRecDepth 100000 in
theorem c_X11_toldTroubleTo63_s (l : Launch) (cD : va_G) (cy : Nat → ClassId) (sz : Nat) (r : Nat → Nat) (S : zS) (hSh : ShC S r) (hF : FrC S r) (j : Nat) (hj : j < 8) (n : Int32) : Met l yX11_toldTroubleTo63 wsX11_toldTroubleTo63 ({ frames := 2, cells := 0, slots := 0, locals := 42 } : Room) (va_Pc [.ref (r (17 + j)), .int n] (zPre cD cy S sz)) (va_Qi (fun (v : Int32) (S1 : zS) => v = -3 ∧ S = S1) (zPost cD cy (zAd cy S sz)) (zAd cy S sz)) 0 0 (zAd cy S sz) := by
  refine z_ofW (cc := cX11_toldTroubleTo63) (maxL := 3) (ret := (some .int)) (own := RX11) (QQ := fun A => va_Qi (fun (v : Int32) (S1 : zS) => v = -3 ∧ S = S1) (zPost cD cy A) A) (by decide) rfl rfl (Nat.le_of_ble_eq_true rfl) ?_
  intro p e s m args below meth c A ls hcf hr hlk hnm hK hE hw hA hl
  obtain ⟨hx, hb, hml, hown, hts⟩ := id hcf
  have hl : lv_has ls 3 [(0, .ref (r (17 + j))), (1, .int n)] := hl
  refine lv_aload_n hx hb dX11_toldTroubleTo63_0 rfl (lv_at hl 0 rfl) ?_
  refine lv_iload_n hx hb dX11_toldTroubleTo63_1 rfl (lv_at hl 1 rfl) ?_
  refine z_ki hw hA (va_runS (As := [.ref (r (17 + j)), .int n]) (rest := []) hcf (c_X11_toldTrouble_s l cD cy H.size r S hSh hF j hj n) (va_cwS 2 hts gX11_toldTroubleTo63_X11_toldTrouble rfl rfl rfl (by decide +kernel) ⟨Nat.le_of_ble_eq_true rfl, Nat.le_of_ble_eq_true rfl⟩) (z_preS hK hE hw) rfl rfl hl.1 rfl (lv_room (Nat.le_of_ble_eq_true rfl)) dX11_toldTroubleTo63_2 ⟨Nat.le_of_ble_eq_true rfl, Nat.le_of_ble_eq_true rfl⟩) (fun v1 S2 H locs hp hw => ?_)
  obtain ⟨rfl, rfl⟩ := hp
  refine lv_istore_n (lv' := [(2, .int (-3)), (0, .ref (r (17 + j))), (1, .int n)]) hx hb dX11_toldTroubleTo63_5 rfl hl (by decide) rfl (fun ls hl => ?_)
  refine lv_iload_n hx hb dX11_toldTroubleTo63_6 rfl (lv_at hl 0 rfl) ?_
  refine lv_if_ne (tgt := 21) hx hb dX11_toldTroubleTo63_7 (by decide) (fun _ => ?_) (fun c_7 => absurd c_7 (by decide))
  refine lv_iload_n hx hb dX11_toldTroubleTo63_21 rfl (lv_at hl 0 rfl) ?_
  exact z_iret (ty := .int) (v := (-3)) hcf hr rfl hlk hw (⟨rfl, rfl⟩) dX11_toldTroubleTo63_22

set_option maxHeartbeats 4000000 in
set_option maxRecDepth 100000 in
theorem c_X11_walkTrouble_n (l : Launch) (cD : va_G) (cy : Nat → ClassId) (sz : Nat) (S : zS) (n : Int32) (o : Int32) : Met l yX11_walkTrouble wsX11_walkTrouble ({ frames := 0, cells := 0, slots := 0, locals := 0 } : Room) (va_Pc [.null, .int n, .int o] (zPre cD cy S sz)) (va_Qi (fun (v : Int32) (S1 : zS) => v = -1 ∧ S = S1) (zPost cD cy (zAd cy S sz)) (zAd cy S sz)) 0 0 (zAd cy S sz) := by
  refine z_ofW (cc := cX11_walkTrouble) (maxL := 3) (ret := (some .int)) (own := RX11) (QQ := fun A => va_Qi (fun (v : Int32) (S1 : zS) => v = -1 ∧ S = S1) (zPost cD cy A) A) (by decide) rfl rfl (Nat.le_of_ble_eq_true rfl) ?_
  intro p e s m args below meth c A ls hcf hr hlk hnm hK hE hw hA hl
  obtain ⟨hx, hb, hml, hown, hts⟩ := id hcf
  have hl : lv_has ls 3 [(0, .null), (1, .int n), (2, .int o)] := hl
  refine lv_aload_nN hx hb dX11_walkTrouble_0 rfl (lv_at hl 0 rfl) ?_
  refine lv_ifnonnullN hx hb dX11_walkTrouble_1 ?_
  refine lv_iconst (v := (-1)) hx hb dX11_walkTrouble_4 (by decide) ?_
  exact z_iret (ty := .int) (v := (-1)) hcf hr rfl hlk hw (⟨rfl, rfl⟩) dX11_walkTrouble_5

set_option maxHeartbeats 4000000 in
set_option maxRecDepth 100000 in
theorem c_X7_holdRow (l : Launch) (cD : va_G) (cy : Nat → ClassId) (sz : Nat) (S : zS) (a0 c0 : Nat) (hL : a0 ∈ zL S) (hk : zK S a0 = 7) (hq : zQ S 700 a0 = some c0) (hLc : c0 ∈ zL S) (hkc : zK S c0 = 14) (hnc : zN S c0 = 160) (o n : Int32) : Met l yX7_holdRow wsX7_holdRow ({ frames := 1, cells := 0, slots := 0, locals := 24 } : Room) (va_Pc [.ref a0, .int o, .int n] (zPre cD cy S sz)) (va_Qv (fun (S1 : zS) => True) (zPost cD cy (zAd cy S sz)) (zAd cy S sz)) 0 0 (zAd cy S sz) := by
  refine z_ofW (cc := cX7_holdRow) (maxL := 3) (ret := none) (own := RX7) (QQ := fun A => va_Qv (fun (S1 : zS) => True) (zPost cD cy A) A) (by decide) rfl rfl (Nat.le_of_ble_eq_true rfl) ?_
  intro p e s m args below meth c A ls hcf hr hlk hnm hK hE hw hA hl
  obtain ⟨hx, hb, hml, hown, hts⟩ := id hcf
  have hin7 : ∀ w ∈ wsX70, w ∈ wsX7_holdRow := fun w h => (List.mem_cons_of_mem _ (List.mem_append_right _ h))
  have hl : lv_has ls 3 [(0, .ref a0), (1, .int o), (2, .int n)] := hl
  refine lv_aload_n hx hb dX7_holdRow_0 rfl (lv_at hl 0 rfl) ?_
  refine z_get (k := 7) (i := 0) (j := 700) (v := .ref c0) (ref := "FoldedInHalf$Shelf") (C := RX7) (T := TX7) (N := 4) hcf hK hw hin7 hL hk rfl (by decide) (by decide) rfl rfl (congrArg va_rf hq) (List.mem_of_getElem? (i := 1) rfl) (fun _ h => h) dX7_holdRow_1 ?_
  refine lv_lconst (v := 0) hx hb dX7_holdRow_4 (by decide) ?_
  refine z_kv hw hA (va_runS (As := [.ref c0, .long 0]) (rest := []) hcf (c_J7_fill_d0a16 l cD cy H.size S c0 160 0 hLc hkc hnc (by decide)) (va_cwS 2 hts gX7_holdRow_J7_fill_d0a16 rfl rfl rfl (by decide +kernel) ⟨Nat.le_of_ble_eq_true rfl, Nat.le_of_ble_eq_true rfl⟩) (z_preS hK hE hw) rfl rfl hl.1 rfl (lv_room (Nat.le_of_ble_eq_true rfl)) dX7_holdRow_5 ⟨Nat.le_of_ble_eq_true rfl, Nat.le_of_ble_eq_true rfl⟩) (fun S2 H locs hp hw => ?_)
  obtain ⟨f3, rfl, -, -⟩ := hp
  refine lv_aload_n hx hb dX7_holdRow_8 rfl (lv_at hl 0 rfl) ?_
  refine lv_iconst (v := (-1)) hx hb dX7_holdRow_9 (by decide) ?_
  refine z_putI (k := 7) (i := 3) (j := 703) (x := (-1)) (v := .int (-1)) (ty := .int) (ref := "FoldedInHalf$Shelf") (C := RX7) (T := TX7) (N := 4) tyX7 hcf hK hw hin7 tyX7_ok nmX7 hL hk rfl (by decide) (by decide) rfl rfl (List.mem_of_getElem? (i := 2) rfl) (fun _ h => h) rfl rfl (by decide +kernel) rfl rfl dX7_holdRow_10 (fun H locs hw => ?_)
  refine lv_aload_n hx hb dX7_holdRow_13 rfl (lv_at hl 0 rfl) ?_
  refine lv_iload_n hx hb dX7_holdRow_14 rfl (lv_at hl 1 rfl) ?_
  refine z_putI (k := 7) (i := 2) (j := 702) (x := o) (v := .int o) (ty := .int) (ref := "FoldedInHalf$Shelf") (C := RX7) (T := TX7) (N := 4) tyX7 hcf hK hw hin7 tyX7_ok nmX7 hL hk rfl (by decide) (by decide) rfl rfl (List.mem_of_getElem? (i := 3) rfl) (fun _ h => h) rfl rfl (by decide +kernel) rfl rfl dX7_holdRow_15 (fun H locs hw => ?_)
  refine lv_aload_n hx hb dX7_holdRow_18 rfl (lv_at hl 0 rfl) ?_
  refine lv_iload_n hx hb dX7_holdRow_19 rfl (lv_at hl 2 rfl) ?_
  refine z_putI (k := 7) (i := 1) (j := 701) (x := n) (v := .int n) (ty := .int) (ref := "FoldedInHalf$Shelf") (C := RX7) (T := TX7) (N := 4) tyX7 hcf hK hw hin7 tyX7_ok nmX7 hL hk rfl (by decide) (by decide) rfl rfl (List.mem_of_getElem? (i := 4) rfl) (fun _ h => h) rfl rfl (by decide +kernel) rfl rfl dX7_holdRow_20 (fun H locs hw => ?_)
  exact z_vret hcf hr hlk hw (trivial) dX7_holdRow_23

set_option maxHeartbeats 4000000 in
set_option maxRecDepth 100000 in
theorem c_X7_holdStrip (l : Launch) (cD : va_G) (cy : Nat → ClassId) (sz : Nat) (S : zS) (a0 : Nat) (hL : a0 ∈ zL S) (hk : zK S a0 = 7) (t : Int32) : Met l yX7_holdStrip wsX7_holdStrip ({ frames := 0, cells := 0, slots := 0, locals := 0 } : Room) (va_Pc [.ref a0, .int t] (zPre cD cy S sz)) (va_Qv (fun (S1 : zS) => True) (zPost cD cy (zAd cy S sz)) (zAd cy S sz)) 0 0 (zAd cy S sz) := by
  refine z_ofW (cc := cX7_holdStrip) (maxL := 2) (ret := none) (own := RX7) (QQ := fun A => va_Qv (fun (S1 : zS) => True) (zPost cD cy A) A) (by decide) rfl rfl (Nat.le_of_ble_eq_true rfl) ?_
  intro p e s m args below meth c A ls hcf hr hlk hnm hK hE hw hA hl
  obtain ⟨hx, hb, hml, hown, hts⟩ := id hcf
  have hin7 : ∀ w ∈ wsX70, w ∈ wsX7_holdStrip := fun w h => (List.mem_cons_of_mem _ (List.mem_append_right _ h))
  have hl : lv_has ls 2 [(0, .ref a0), (1, .int t)] := hl
  refine lv_aload_n hx hb dX7_holdStrip_0 rfl (lv_at hl 0 rfl) ?_
  refine lv_iload_n hx hb dX7_holdStrip_1 rfl (lv_at hl 1 rfl) ?_
  refine z_putI (k := 7) (i := 3) (j := 703) (x := t) (v := .int t) (ty := .int) (ref := "FoldedInHalf$Shelf") (C := RX7) (T := TX7) (N := 4) tyX7 hcf hK hw hin7 tyX7_ok nmX7 hL hk rfl (by decide) (by decide) rfl rfl (List.mem_of_getElem? (i := 1) rfl) (fun _ h => h) rfl rfl (by decide +kernel) rfl rfl dX7_holdStrip_2 (fun H locs hw => ?_)
  refine lv_aload_n hx hb dX7_holdStrip_5 rfl (lv_at hl 0 rfl) ?_
  refine lv_iconst (v := (-1)) hx hb dX7_holdStrip_6 (by decide) ?_
  refine z_putI (k := 7) (i := 2) (j := 702) (x := (-1)) (v := .int (-1)) (ty := .int) (ref := "FoldedInHalf$Shelf") (C := RX7) (T := TX7) (N := 4) tyX7 hcf hK hw hin7 tyX7_ok nmX7 hL hk rfl (by decide) (by decide) rfl rfl (List.mem_of_getElem? (i := 2) rfl) (fun _ h => h) rfl rfl (by decide +kernel) rfl rfl dX7_holdStrip_7 (fun H locs hw => ?_)
  refine lv_aload_n hx hb dX7_holdStrip_10 rfl (lv_at hl 0 rfl) ?_
  refine lv_iconst (v := 0) hx hb dX7_holdStrip_11 (by decide) ?_
  refine z_putI (k := 7) (i := 1) (j := 701) (x := 0) (v := .int 0) (ty := .int) (ref := "FoldedInHalf$Shelf") (C := RX7) (T := TX7) (N := 4) tyX7 hcf hK hw hin7 tyX7_ok nmX7 hL hk rfl (by decide) (by decide) rfl rfl (List.mem_of_getElem? (i := 3) rfl) (fun _ h => h) rfl rfl (by decide +kernel) rfl rfl dX7_holdStrip_12 (fun H locs hw => ?_)
  exact z_vret hcf hr hlk hw (trivial) dX7_holdStrip_15

set_option maxHeartbeats 4000000 in
set_option maxRecDepth 100000 in
theorem c_X7_at (l : Launch) (cD : va_G) (cy : Nat → ClassId) (sz : Nat) (S : zS) (a0 : Nat) (hL : a0 ∈ zL S) (hk : zK S a0 = 7) (h0 : zI S 701 a0 = 0) (i : Int32) : Met l yX7_at wsX7_at ({ frames := 0, cells := 0, slots := 0, locals := 0 } : Room) (va_Pc [.ref a0, .int i] (zPre cD cy S sz)) (va_Ql (fun (v : Int64) (S1 : zS) => v = 0 ∧ S = S1) (zPost cD cy (zAd cy S sz)) (zAd cy S sz)) 0 0 (zAd cy S sz) := by
  refine z_ofW (cc := cX7_at) (maxL := 2) (ret := (some .long)) (own := RX7) (QQ := fun A => va_Ql (fun (v : Int64) (S1 : zS) => v = 0 ∧ S = S1) (zPost cD cy A) A) (by decide) rfl rfl (Nat.le_of_ble_eq_true rfl) ?_
  intro p e s m args below meth c A ls hcf hr hlk hnm hK hE hw hA hl
  obtain ⟨hx, hb, hml, hown, hts⟩ := id hcf
  have hin7 : ∀ w ∈ wsX70, w ∈ wsX7_at := fun w h => (List.mem_cons_of_mem _ (List.mem_append_right _ h))
  have hl : lv_has ls 2 [(0, .ref a0), (1, .int i)] := hl
  refine lv_iload_n hx hb dX7_at_0 rfl (lv_at hl 1 rfl) ?_
  refine lv_if_lt (tgt := 28) hx hb dX7_at_1 (by decide) (fun c_1 => ?_) (fun c_1 => ?_)
  · refine lv_lconst (v := 0) hx hb dX7_at_28 (by decide) ?_
    exact z_lret (v := 0) hcf hr hlk hw (⟨rfl, rfl⟩) dX7_at_29
  · refine lv_iload_n hx hb dX7_at_4 rfl (lv_at hl 1 rfl) ?_
    refine lv_aload_n hx hb dX7_at_5 rfl (lv_at hl 0 rfl) ?_
    refine z_get (k := 7) (i := 1) (j := 701) (v := .int 0) (ref := "FoldedInHalf$Shelf") (C := RX7) (T := TX7) (N := 4) hcf hK hw hin7 hL hk rfl (by decide) (by decide) rfl rfl (congrArg Value.int h0) (List.mem_of_getElem? (i := 1) rfl) (fun _ h => h) dX7_at_6 ?_
    refine lv_icmp_ge (tgt := 28) hx hb dX7_at_9 (by decide) (fun c_9 => ?_) (fun c_9 => absurd (zx_nlt c_1) c_9)
    refine lv_lconst (v := 0) hx hb dX7_at_28 (by decide) ?_
    exact z_lret (v := 0) hcf hr hlk hw (⟨rfl, rfl⟩) dX7_at_29
