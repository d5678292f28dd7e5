
def cdk (P : List Nat) : Nat → Int32
  | 0 => 0
  | k + 1 => cdk P k ||| (nI (P.getD k 0) <<< ((3 * nI k) &&& 31))
def cdI (P : List Nat) : Int32 := cdk P P.length
theorem cdk_app {P s : List Nat} : ∀ {k : Nat}, k ≤ P.length → cdk (P ++ s) k = cdk P k
  | 0, _ => rfl
  | k + 1, h => by
    simp only [cdk]
    rw [cdk_app (by omega), List.getD_eq_getElem?_getD, List.getD_eq_getElem?_getD, List.getElem?_append_left (by omega)]
theorem cdI_app (P : List Nat) (l : Nat) : cdI P ||| (nI l <<< ((3 * nI P.length) &&& 31)) = cdI (P ++ [l]) := by
  unfold cdI
  rw [List.length_append, List.length_singleton, cdk, cdk_app (Nat.le_refl _)]
  congr 3
  simp [List.getD_eq_getElem?_getD]
def cGf (n e : Nat) (pre : List Nat) (l : Nat) : List (List Nat) := if l ∈ pre then [] else if cFit n pre l = true then cG n e (pre ++ [l]) else []
theorem cG_eq (n e : Nat) (pre : List Nat) : cG n (e + 1) pre = (List.range n).flatMap (cGf n e pre) := rfl
theorem rg_fm {α : Type} (f : Nat → List α) (j : Nat) : (List.range (j + 1)).flatMap f = (List.range j).flatMap f ++ f j := by
  rw [List.range_succ, List.flatMap_append]; simp
theorem rg_le {α : Type} (f : Nat → List α) {j n : Nat} (h : j ≤ n) : ((List.range j).flatMap f).length ≤ ((List.range n).flatMap f).length := by
  induction n with
  | zero => obtain rfl : j = 0 := by omega
            exact Nat.le_refl _
  | succ n ih =>
    rcases Nat.eq_or_lt_of_le h with rfl | q
    · exact Nat.le_refl _
    · rw [rg_fm, List.length_append]; have := ih (by omega); omega
theorem pos_app {pre : List Nat} {l : Nat} (hl : l ∉ pre) (k : Nat) : pos (pre ++ [l]) k = if k = l then nI pre.length else pos pre k := by
  unfold pos
  by_cases h : k = l
  · subst h
    rw [if_pos (by simp), if_pos rfl, List.idxOf_append, if_neg hl]; simp
  · rw [if_neg h]
    by_cases hm : k ∈ pre
    · rw [if_pos (by simp [hm]), if_pos hm, List.idxOf_append, if_pos hm]
    · rw [if_neg (by simp [hm, h]), if_neg hm]
theorem pos_no {pre : List Nat} {k : Nat} (h : k ∉ pre) : pos pre k = -1 := if_neg h
theorem pos_in {pre : List Nat} {k : Nat} (h : k ∈ pre) (hl : pre.length ≤ 8) : ¬ pos pre k = -1 := by
  unfold pos; rw [if_pos h]; have := idx_lt h; exact nI_n1 (by omega)
theorem zsA_same {S : zS} {a : Nat} {f : Nat → Int32} (h : zA S a = f) : zsA S a f = S := h ▸ zsA_self S a
theorem zsI_self {S : zS} {j a : Nat} {v : Int32} (h : zI S j a = v) : zsI S j a v = S := by
  have : zu2 (zI S) j a v = zI S := funext fun i => funext fun b => by
    unfold zu2
    split
    · rename_i e; subst e
      split
      · rename_i e; subst e; exact h.symm
      · rfl
    · rfl
  unfold zsI; rw [this]; rfl

set_option maxHeartbeats 1000000 in
set_option maxRecDepth 100000 in
theorem c_X3_grow_0 (lau : Launch) (cD : va_G) (cy : Nat → ClassId) (sz_ : Nat) (r_ : Nat → Nat) (S_ : zS) (hSh : ShC S_ r_) (n_ cn ee : Nat) (pre : List Nat) (hd : pre.length + 0 = 8) (hn : n_ ≤ 8) (hlen : pre.length + ee = n_) (hb8 : ∀ x_, x_ ∈ pre → x_ < 8) (hs : zI S_ 306 (r_ 10) = nI n_) (hcc : zI S_ 305 (r_ 10) = nI cn) (hct : cn + (cG n_ ee pre).length ≤ 2100) (hP : ∀ k_, k_ < 8 → zA S_ (r_ 15) k_ = pos pre k_) (hA2 : ∀ k_, k_ < pre.length → zA S_ (r_ 16) k_ = nI (pre.getD k_ 0)) : Met lau yX3_grow wsX3_grow ({ frames := 1, cells := 0, slots := 0, locals := 21 } : Room) (va_Pc [.ref (r_ 10), .int (nI pre.length), .int (cdI pre)] (zPre cD cy S_ sz_)) (va_Qv (fun (S1 : zS) => ∃ cod la : Nat → Int32, S1 = zsI (zsA (zsA (zsA S_ (r_ 12) cod) (r_ 15) (zA S_ (r_ 15))) (r_ 16) la) 305 (r_ 10) (nI (cn + (cG n_ ee pre).length)) ∧ (∀ k_, k_ < cn → cod k_ = zA S_ (r_ 12) k_) ∧ (∀ i_, i_ < (cG n_ ee pre).length → cod (cn + i_) = cdI ((cG n_ ee pre).getD i_ [])) ∧ (∀ k_, k_ < pre.length → la k_ = zA S_ (r_ 16) k_)) (zPost cD cy (zAd cy S_ sz_)) (zAd cy S_ sz_)) 0 0 (zAd cy S_ sz_) := by
  refine z_ofW (cc := cX3_grow) (maxL := 4) (ret := none) (own := RX3) (QQ := fun A_ => va_Qv (fun (S1 : zS) => ∃ cod la : Nat → Int32, S1 = zsI (zsA (zsA (zsA S_ (r_ 12) cod) (r_ 15) (zA S_ (r_ 15))) (r_ 16) la) 305 (r_ 10) (nI (cn + (cG n_ ee pre).length)) ∧ (∀ k_, k_ < cn → cod k_ = zA S_ (r_ 12) k_) ∧ (∀ i_, i_ < (cG n_ ee pre).length → cod (cn + i_) = cdI ((cG n_ ee pre).getD i_ [])) ∧ (∀ k_, k_ < pre.length → la k_ = zA S_ (r_ 16) k_)) (zPost cD cy A_) A_) (by decide) rfl rfl (Nat.le_of_ble_eq_true rfl) ?_
  intro p_ e_ s_ m_ args_ below_ meth_ c_ A_ ls hcf hr hlk hnm hK_ hE hw hA hl
  obtain ⟨hx, hb_, hml, hown, hts⟩ := id hcf
  have hin3 : ∀ w_ ∈ wsX30, w_ ∈ wsX3_grow := fun w_ h_ => (List.mem_cons_of_mem _ (List.mem_append_right _ h_))
  have hl : lv_has ls 4 [(0, .ref (r_ 10)), (1, .int (nI pre.length)), (2, .int (cdI pre))] := hl
  have hSh0 := hSh
  cases ee with
  | zero =>
    refine lv_iload_n hx hb_ dX3_grow_0 rfl (lv_at hl 1 rfl) ?_
    refine lv_aload_n hx hb_ dX3_grow_1 rfl (lv_at hl 0 rfl) ?_
    refine z_get (k := 3) (i := 6) (j := 306) (v := .int (nI n_)) (ref := "FoldedInHalf$Leaves") (C := RX3) (T := TX3) (N := 7) hcf hK_ hw hin3 (cL hSh 10) (cK hSh 10) rfl (by decide) (by decide) rfl rfl (congrArg Value.int hs) (List.mem_of_getElem? (i := 1) rfl) (fun _ h_ => h_) dX3_grow_2 ?_
    refine lv_icmp_ge (tgt := 14) hx hb_ dX3_grow_5 (by decide) (fun c_5 => ?_) (fun c_5 => absurd (nI_le (by omega) (by omega)) c_5)
    refine lv_aload_n hx hb_ dX3_grow_14 rfl (lv_at hl 0 rfl) ?_
    refine lv_iload_n hx hb_ dX3_grow_15 rfl (lv_at hl 2 rfl) ?_
    refine z_kv hw hA (va_runV (As := [.int (cdI pre)]) (rest := []) hcf (c_X3_keep lau cD cy _ r_ S_ hSh cn (cdI pre) (by have := hct; simp [cG] at this; omega) hcc) (cwV 1 hts gX3_grow_X3_keep rfl rfl rfl (by decide +kernel) ⟨Nat.le_of_ble_eq_true rfl, Nat.le_of_ble_eq_true rfl⟩) (z_preV (k := 3) hK_ hE hw (cL hSh 10) (cK hSh 10) (by decide) rfl) rfl rfl hl.1 rfl (lv_room (Nat.le_of_ble_eq_true rfl)) dX3_grow_16 ⟨Nat.le_of_ble_eq_true rfl, Nat.le_of_ble_eq_true rfl⟩) (fun S2 H_ locs_ hp hw => ?_)
    obtain rfl := hp
    obtain ⟨f3_, hf3⟩ : ∃ zz, zz = upd (zA S_ (r_ 12)) cn (cdI pre) := ⟨_, rfl⟩
    rw [← hf3] at hw
    have hSh : ShC (zsI (zsA S_ (r_ 12) f3_) 305 (r_ 10) (nI (cn + 1))) r_ := (sh_IC (sh_AC hSh0))
    exact z_vret hcf hr hlk hw (⟨f3_, zA S_ (r_ 16), by rw [zsA_same (S := zsA S_ (r_ 12) f3_) (a := r_ 15) (zA_ne _ _ (cNe hSh (i := 15) (j := 12) (by decide) (by decide) (by decide))), zsA_same (S := zsA S_ (r_ 12) f3_) (a := r_ 16) (zA_ne _ _ (cNe hSh (i := 16) (j := 12) (by decide) (by decide) (by decide)))]; rfl, fun k_ hk => by rw [hf3, upd_no _ _ (by omega)], fun i_ hi_ => by have e0 : i_ = 0 := (by simp [cG] at hi_; omega); subst e0; rw [hf3]; exact upd_at _ _ _, fun k_ hk => rfl⟩) dX3_grow_19
  | succ ee =>
    exact absurd hlen (by omega)

set_option maxHeartbeats 1000000 in
set_option maxRecDepth 100000 in
theorem c_X3_grow_1 (lau : Launch) (cD : va_G) (cy : Nat → ClassId) (sz_ : Nat) (r_ : Nat → Nat) (S_ : zS) (hSh : ShC S_ r_) (n_ cn ee : Nat) (pre : List Nat) (hd : pre.length + 1 = 8) (hn : n_ ≤ 8) (hlen : pre.length + ee = n_) (hb8 : ∀ x_, x_ ∈ pre → x_ < 8) (hs : zI S_ 306 (r_ 10) = nI n_) (hcc : zI S_ 305 (r_ 10) = nI cn) (hct : cn + (cG n_ ee pre).length ≤ 2100) (hP : ∀ k_, k_ < 8 → zA S_ (r_ 15) k_ = pos pre k_) (hA2 : ∀ k_, k_ < pre.length → zA S_ (r_ 16) k_ = nI (pre.getD k_ 0)) : Met lau yX3_grow wsX3_grow ({ frames := 3, cells := 0, slots := 0, locals := 71 } : Room) (va_Pc [.ref (r_ 10), .int (nI pre.length), .int (cdI pre)] (zPre cD cy S_ sz_)) (va_Qv (fun (S1 : zS) => ∃ cod la : Nat → Int32, S1 = zsI (zsA (zsA (zsA S_ (r_ 12) cod) (r_ 15) (zA S_ (r_ 15))) (r_ 16) la) 305 (r_ 10) (nI (cn + (cG n_ ee pre).length)) ∧ (∀ k_, k_ < cn → cod k_ = zA S_ (r_ 12) k_) ∧ (∀ i_, i_ < (cG n_ ee pre).length → cod (cn + i_) = cdI ((cG n_ ee pre).getD i_ [])) ∧ (∀ k_, k_ < pre.length → la k_ = zA S_ (r_ 16) k_)) (zPost cD cy (zAd cy S_ sz_)) (zAd cy S_ sz_)) 0 0 (zAd cy S_ sz_) := by
  refine z_ofW (cc := cX3_grow) (maxL := 4) (ret := none) (own := RX3) (QQ := fun A_ => va_Qv (fun (S1 : zS) => ∃ cod la : Nat → Int32, S1 = zsI (zsA (zsA (zsA S_ (r_ 12) cod) (r_ 15) (zA S_ (r_ 15))) (r_ 16) la) 305 (r_ 10) (nI (cn + (cG n_ ee pre).length)) ∧ (∀ k_, k_ < cn → cod k_ = zA S_ (r_ 12) k_) ∧ (∀ i_, i_ < (cG n_ ee pre).length → cod (cn + i_) = cdI ((cG n_ ee pre).getD i_ [])) ∧ (∀ k_, k_ < pre.length → la k_ = zA S_ (r_ 16) k_)) (zPost cD cy A_) A_) (by decide) rfl rfl (Nat.le_of_ble_eq_true rfl) ?_
  intro p_ e_ s_ m_ args_ below_ meth_ c_ A_ ls hcf hr hlk hnm hK_ hE hw hA hl
  obtain ⟨hx, hb_, hml, hown, hts⟩ := id hcf
  have hin3 : ∀ w_ ∈ wsX30, w_ ∈ wsX3_grow := fun w_ h_ => (List.mem_cons_of_mem _ (List.mem_append_right _ h_))
  have hl : lv_has ls 4 [(0, .ref (r_ 10)), (1, .int (nI pre.length)), (2, .int (cdI pre))] := hl
  have hSh0 := hSh
  cases ee with
  | zero =>
    refine lv_iload_n hx hb_ dX3_grow_0 rfl (lv_at hl 1 rfl) ?_
    refine lv_aload_n hx hb_ dX3_grow_1 rfl (lv_at hl 0 rfl) ?_
    refine z_get (k := 3) (i := 6) (j := 306) (v := .int (nI n_)) (ref := "FoldedInHalf$Leaves") (C := RX3) (T := TX3) (N := 7) hcf hK_ hw hin3 (cL hSh 10) (cK hSh 10) rfl (by decide) (by decide) rfl rfl (congrArg Value.int hs) (List.mem_of_getElem? (i := 1) rfl) (fun _ h_ => h_) dX3_grow_2 ?_
    refine lv_icmp_ge (tgt := 14) hx hb_ dX3_grow_5 (by decide) (fun c_5 => ?_) (fun c_5 => absurd (nI_le (by omega) (by omega)) c_5)
    refine lv_aload_n hx hb_ dX3_grow_14 rfl (lv_at hl 0 rfl) ?_
    refine lv_iload_n hx hb_ dX3_grow_15 rfl (lv_at hl 2 rfl) ?_
    refine z_kv hw hA (va_runV (As := [.int (cdI pre)]) (rest := []) hcf (c_X3_keep lau cD cy _ r_ S_ hSh cn (cdI pre) (by have := hct; simp [cG] at this; omega) hcc) (cwV 1 hts gX3_grow_X3_keep rfl rfl rfl (by decide +kernel) ⟨Nat.le_of_ble_eq_true rfl, Nat.le_of_ble_eq_true rfl⟩) (z_preV (k := 3) hK_ hE hw (cL hSh 10) (cK hSh 10) (by decide) rfl) rfl rfl hl.1 rfl (lv_room (Nat.le_of_ble_eq_true rfl)) dX3_grow_16 ⟨Nat.le_of_ble_eq_true rfl, Nat.le_of_ble_eq_true rfl⟩) (fun S2 H_ locs_ hp hw => ?_)
    obtain rfl := hp
    obtain ⟨f3_, hf3⟩ : ∃ zz, zz = upd (zA S_ (r_ 12)) cn (cdI pre) := ⟨_, rfl⟩
    rw [← hf3] at hw
    have hSh : ShC (zsI (zsA S_ (r_ 12) f3_) 305 (r_ 10) (nI (cn + 1))) r_ := (sh_IC (sh_AC hSh0))
    exact z_vret hcf hr hlk hw (⟨f3_, zA S_ (r_ 16), by rw [zsA_same (S := zsA S_ (r_ 12) f3_) (a := r_ 15) (zA_ne _ _ (cNe hSh (i := 15) (j := 12) (by decide) (by decide) (by decide))), zsA_same (S := zsA S_ (r_ 12) f3_) (a := r_ 16) (zA_ne _ _ (cNe hSh (i := 16) (j := 12) (by decide) (by decide) (by decide)))]; rfl, fun k_ hk => by rw [hf3, upd_no _ _ (by omega)], fun i_ hi_ => by have e0 : i_ = 0 := (by simp [cG] at hi_; omega); subst e0; rw [hf3]; exact upd_at _ _ _, fun k_ hk => rfl⟩) dX3_grow_19
  | succ ee =>
    refine lv_iload_n hx hb_ dX3_grow_0 rfl (lv_at hl 1 rfl) ?_
    refine lv_aload_n hx hb_ dX3_grow_1 rfl (lv_at hl 0 rfl) ?_
    refine z_get (k := 3) (i := 6) (j := 306) (v := .int (nI n_)) (ref := "FoldedInHalf$Leaves") (C := RX3) (T := TX3) (N := 7) hcf hK_ hw hin3 (cL hSh 10) (cK hSh 10) rfl (by decide) (by decide) rfl rfl (congrArg Value.int hs) (List.mem_of_getElem? (i := 1) rfl) (fun _ h_ => h_) dX3_grow_2 ?_
    refine lv_icmp_ge (tgt := 14) hx hb_ dX3_grow_5 (by decide) (fun c_5 => absurd c_5 (nI_ge (show pre.length < n_ by omega) (by omega))) (fun c_5 => ?_)
    refine lv_iload_n hx hb_ dX3_grow_8 rfl (lv_at hl 1 rfl) ?_
    refine lv_bipush (v := 8) hx hb_ dX3_grow_9 (by decide) ?_
    refine lv_icmp_lt (tgt := 20) hx hb_ dX3_grow_11 (by decide) (fun c_11 => ?_) (fun c_11 => absurd (nI_lt (show pre.length < 8 by omega) (by decide)) c_11)
    refine lv_iconst (v := 0) hx hb_ dX3_grow_20 (by decide) ?_
    refine lv_istore_n (lv' := [(3, .int 0), (0, .ref (r_ 10)), (1, .int (nI pre.length)), (2, .int (cdI pre))]) hx hb_ dX3_grow_21 rfl hl (by decide) rfl (fun ls hl => ?_)
    have JA : ∀ (nA jA : Nat) (iA : Int32), iA = nI jA → jA ≤ n_ → n_ < jA + nA → ∀ (cod la : Nat → Int32) (T : List (List Nat)), T = (List.range jA).flatMap (cGf n_ ee pre) → (∀ k_, k_ < cn → cod k_ = zA S_ (r_ 12) k_) → (∀ i_, i_ < T.length → cod (cn + i_) = cdI (T.getD i_ [])) → (∀ k_, k_ < pre.length → la k_ = nI (pre.getD k_ 0)) → ∀ (H_ : Heap) (locs_ : List Loc), zPw cD cy A_ s_.heap (zsI (zsA (zsA (zsA S_ (r_ 12) cod) (r_ 15) (zA S_ (r_ 15))) (r_ 16) la) 305 (r_ 10) (nI (cn + T.length))) H_ locs_ → ∀ ls : Array Slot, lv_has ls 4 [(0, .ref (r_ 10)), (1, .int (nI pre.length)), (2, .int (cdI pre)), (3, .int iA)] → W p_ lau e_ ({ frames := 3, cells := 0, slots := 0, locals := 71 } : Room) s_ m_ args_ below_ meth_ c_ H_ locs_ 0 0 (MQ below_ (va_Qv (fun (S1 : zS) => ∃ cod la : Nat → Int32, S1 = zsI (zsA (zsA (zsA S_ (r_ 12) cod) (r_ 15) (zA S_ (r_ 15))) (r_ 16) la) 305 (r_ 10) (nI (cn + (cG n_ (ee + 1) pre).length)) ∧ (∀ k_, k_ < cn → cod k_ = zA S_ (r_ 12) k_) ∧ (∀ i_, i_ < (cG n_ (ee + 1) pre).length → cod (cn + i_) = cdI ((cG n_ (ee + 1) pre).getD i_ [])) ∧ (∀ k_, k_ < pre.length → la k_ = zA S_ (r_ 16) k_)) (zPost cD cy A_) A_) args_ s_ 0 0 A_) (F0 m_ 22 ls []) := by
      intro nA
      induction nA with
      | zero => intro jA iA _ hjA h_; exact absurd h_ (by omega)
      | succ nA ihA =>
        intro jA iA eiA hjA hmA cod la T hT hk1 hk2 hla H_ locs_ hw ls hl
        subst eiA
        have hSh : ShC (zsI (zsA (zsA (zsA S_ (r_ 12) cod) (r_ 15) (zA S_ (r_ 15))) (r_ 16) la) 305 (r_ 10) (nI (cn + T.length))) r_ := (sh_IC (sh_AC (sh_AC (sh_AC hSh0))))
        refine lv_iload_n hx hb_ dX3_grow_22 rfl (lv_at hl 3 rfl) ?_
        refine lv_aload_n hx hb_ dX3_grow_23 rfl (lv_at hl 0 rfl) ?_
        refine z_get (k := 3) (i := 6) (j := 306) (v := .int (nI n_)) (ref := "FoldedInHalf$Leaves") (C := RX3) (T := TX3) (N := 7) hcf hK_ hw hin3 (cL hSh 10) (cK hSh 10) rfl (by decide) (by decide) rfl rfl (congrArg Value.int ((zI_nj (by decide)).trans (zI_A.trans (zI_A.trans (zI_A.trans hs))))) (List.mem_of_getElem? (i := 1) rfl) (fun _ h_ => h_) dX3_grow_24 ?_
        refine lv_icmp_ge (tgt := 79) hx hb_ dX3_grow_27 (by decide) (fun c_27 => ?_) (fun c_27 => ?_)
        · exact z_vret hcf hr hlk hw (by have hj : jA = n_ := (by have := zn_ge rfl rfl (by omega) c_27; omega); have hTG : T = cG n_ (ee + 1) pre := (by rw [hT, hj]; rfl); exact ⟨cod, la, by rw [hTG], hk1, by rw [← hTG]; exact hk2, fun k_ hk => (hla k_ hk).trans (hA2 k_ hk).symm⟩) dX3_grow_79
        · have hlt : jA < n_ := zn_lt rfl rfl (by omega) c_27
          have hle : T.length + (cGf n_ ee pre jA).length ≤ (cG n_ (ee + 1) pre).length := by have := rg_le (cGf n_ ee pre) (show jA + 1 ≤ n_ by omega); rw [rg_fm, List.length_append, ← hT, ← cG_eq] at this; exact this
          refine lv_aload_n hx hb_ dX3_grow_30 rfl (lv_at hl 0 rfl) ?_
          refine lv_iload_n hx hb_ dX3_grow_31 rfl (lv_at hl 3 rfl) ?_
          refine z_ki hw hA (va_runV (As := [.int (nI jA)]) (rest := []) hcf (c_X3_placeOfLeaf lau cD cy _ r_ (zsI (zsA (zsA (zsA S_ (r_ 12) cod) (r_ 15) (zA S_ (r_ 15))) (r_ 16) la) 305 (r_ 10) (nI (cn + T.length))) hSh (nI jA)) (cwV 1 hts gX3_grow_X3_placeOfLeaf rfl rfl rfl (by decide +kernel) ⟨Nat.le_of_ble_eq_true rfl, Nat.le_of_ble_eq_true rfl⟩) (z_preV (k := 3) hK_ hE hw (cL hSh 10) (cK hSh 10) (by decide) rfl) rfl rfl hl.1 rfl (lv_room (Nat.le_of_ble_eq_true rfl)) dX3_grow_32 ⟨Nat.le_of_ble_eq_true rfl, Nat.le_of_ble_eq_true rfl⟩) (fun v4 S5 H_ locs_ hp hw => ?_)
          obtain ⟨hv4, rfl⟩ := hp
          have hpv : v4 = pos pre jA := by rw [hv4, pOf_nI (by omega), congrFun (show zA (zsI (zsA (zsA (zsA S_ (r_ 12) cod) (r_ 15) (zA S_ (r_ 15))) (r_ 16) la) 305 (r_ 10) (nI (cn + T.length))) (r_ 15) = (zA S_ (r_ 15)) from (zA_I.trans ((zA_ne _ _ (cNe hSh (i := 15) (j := 16) (by decide) (by decide) (by decide))).trans (zA_zsA _ _ _)))) jA]; exact hP jA (by omega)
          refine lv_iconst (v := (-1)) hx hb_ dX3_grow_35 (by decide) ?_
          refine lv_icmp_ne (tgt := 73) hx hb_ dX3_grow_36 (by decide) (fun c_36 => ?_) (fun c_36 => ?_)
          · obtain ⟨i2_, ei2⟩ : ∃ y_ : Int32, y_ = (nI jA) + 1 := ⟨_, rfl⟩
            refine lv_iinc (v := i2_) (lv' := [(3, .int i2_), (0, .ref (r_ 10)), (1, .int (nI pre.length)), (2, .int (cdI pre))]) hx hb_ dX3_grow_73 hl (k := 3) rfl (by rw [ei2]; rfl) (by decide) rfl (fun ls hl => ?_)
            refine lv_goto (tgt := 22) hx hb_ dX3_grow_76 (by decide) ?_
            have hG : cGf n_ ee pre jA = [] := by rw [cGf, if_pos (Classical.byContradiction fun q_ => c_36 (hpv.trans (pos_no q_)))]
            exact ihA (jA + 1) i2_ (by rw [ei2]; exact nI_1 jA) (by omega) (by omega) cod la T (by rw [rg_fm, hG, List.append_nil]; exact hT) hk1 hk2 hla _ _ hw ls (lv_sub hl [1, 2, 3, 0] rfl)
          · have hnm : jA ∉ pre := fun q_ => pos_in q_ (by omega) (hpv.symm.trans c_36)
            refine lv_aload_n hx hb_ dX3_grow_39 rfl (lv_at hl 0 rfl) ?_
            refine lv_iload_n hx hb_ dX3_grow_40 rfl (lv_at hl 3 rfl) ?_
            refine lv_iload_n hx hb_ dX3_grow_41 rfl (lv_at hl 1 rfl) ?_
            refine z_ki hw hA (va_runV (As := [.int (nI jA), .int (nI pre.length)]) (rest := []) hcf (c_X3_fits lau cD cy _ r_ (zsI (zsA (zsA (zsA S_ (r_ 12) cod) (r_ 15) (zA S_ (r_ 15))) (r_ 16) la) 305 (r_ 10) (nI (cn + T.length))) hSh n_ jA pre (by omega) hn ((zI_nj (by decide)).trans (zI_A.trans (zI_A.trans (zI_A.trans hs)))) (fun k_ hk => (congrFun (show zA (zsI (zsA (zsA (zsA S_ (r_ 12) cod) (r_ 15) (zA S_ (r_ 15))) (r_ 16) la) 305 (r_ 10) (nI (cn + T.length))) (r_ 15) = (zA S_ (r_ 15)) from (zA_I.trans ((zA_ne _ _ (cNe hSh (i := 15) (j := 16) (by decide) (by decide) (by decide))).trans (zA_zsA _ _ _)))) k_).trans (hP k_ hk)) (fun k_ hk => (congrFun (show zA (zsI (zsA (zsA (zsA S_ (r_ 12) cod) (r_ 15) (zA S_ (r_ 15))) (r_ 16) la) 305 (r_ 10) (nI (cn + T.length))) (r_ 16) = la from (zA_I.trans (zA_zsA _ _ _))) k_).trans (hla k_ hk)) hb8 (by omega)) (cwV 2 hts gX3_grow_X3_fits rfl rfl rfl (by decide +kernel) ⟨Nat.le_of_ble_eq_true rfl, Nat.le_of_ble_eq_true rfl⟩) (z_preV (k := 3) hK_ hE hw (cL hSh 10) (cK hSh 10) (by decide) rfl) rfl rfl hl.1 rfl (lv_room (Nat.le_of_ble_eq_true rfl)) dX3_grow_42 ⟨Nat.le_of_ble_eq_true rfl, Nat.le_of_ble_eq_true rfl⟩) (fun v6 S7 H_ locs_ hp hw => ?_)
            obtain ⟨hv6, rfl⟩ := hp
            refine lv_if_eq (tgt := 73) hx hb_ dX3_grow_45 (by decide) (fun c_45 => ?_) (fun c_45 => ?_)
            · obtain ⟨i2_, ei2⟩ : ∃ y_ : Int32, y_ = (nI jA) + 1 := ⟨_, rfl⟩
              refine lv_iinc (v := i2_) (lv' := [(3, .int i2_), (0, .ref (r_ 10)), (1, .int (nI pre.length)), (2, .int (cdI pre))]) hx hb_ dX3_grow_73 hl (k := 3) rfl (by rw [ei2]; rfl) (by decide) rfl (fun ls hl => ?_)
              refine lv_goto (tgt := 22) hx hb_ dX3_grow_76 (by decide) ?_
              have hG : cGf n_ ee pre jA = [] := by unfold cGf; exact (Decidable.em (jA ∈ pre)).elim (fun q_ => if_pos q_) (fun q_ => (if_neg q_).trans (if_neg (fun z_ => by rw [hv6, if_pos z_] at c_45; exact absurd c_45 (by decide))))
              exact ihA (jA + 1) i2_ (by rw [ei2]; exact nI_1 jA) (by omega) (by omega) cod la T (by rw [rg_fm, hG, List.append_nil]; exact hT) hk1 hk2 hla _ _ hw ls (lv_sub hl [1, 2, 3, 0] rfl)
            · have hft : cFit n_ pre jA = true := Classical.byContradiction fun q_ => c_45 (by rw [hv6, if_neg q_])
              refine lv_aload_n hx hb_ dX3_grow_48 rfl (lv_at hl 0 rfl) ?_
              refine lv_iload_n hx hb_ dX3_grow_49 rfl (lv_at hl 3 rfl) ?_
              refine lv_iload_n hx hb_ dX3_grow_50 rfl (lv_at hl 1 rfl) ?_
              refine z_kv hw hA (va_runV (As := [.int (nI jA), .int (nI pre.length)]) (rest := []) hcf (c_X3_lay lau cD cy _ r_ (zsI (zsA (zsA (zsA S_ (r_ 12) cod) (r_ 15) (zA S_ (r_ 15))) (r_ 16) la) 305 (r_ 10) (nI (cn + T.length))) hSh jA pre.length (by omega) (by omega)) (cwV 2 hts gX3_grow_X3_lay rfl rfl rfl (by decide +kernel) ⟨Nat.le_of_ble_eq_true rfl, Nat.le_of_ble_eq_true rfl⟩) (z_preV (k := 3) hK_ hE hw (cL hSh 10) (cK hSh 10) (by decide) rfl) rfl rfl hl.1 rfl (lv_room (Nat.le_of_ble_eq_true rfl)) dX3_grow_51 ⟨Nat.le_of_ble_eq_true rfl, Nat.le_of_ble_eq_true rfl⟩) (fun S9 H_ locs_ hp hw => ?_)
              obtain rfl := hp
              rw [show zA (zsI (zsA (zsA (zsA S_ (r_ 12) cod) (r_ 15) (zA S_ (r_ 15))) (r_ 16) la) 305 (r_ 10) (nI (cn + T.length))) (r_ 15) = _ from (zA_I.trans ((zA_ne _ _ (cNe hSh (i := 15) (j := 16) (by decide) (by decide) (by decide))).trans (zA_zsA _ _ _))), show zA (zsI (zsA (zsA (zsA S_ (r_ 12) cod) (r_ 15) (zA S_ (r_ 15))) (r_ 16) la) 305 (r_ 10) (nI (cn + T.length))) (r_ 16) = _ from (zA_I.trans (zA_zsA _ _ _))] at hw
              obtain ⟨f10, hf10⟩ : ∃ zz, zz = (upd (zA S_ (r_ 15)) jA (nI pre.length)) := ⟨_, rfl⟩
              rw [← hf10] at hw
              rw [zsA_zsI, zsA_comm _ _ _ (cNe hSh (i := 16) (j := 15) (by decide) (by decide) (by decide)), zsA_zsA] at hw
              obtain ⟨f11, hf11⟩ : ∃ zz, zz = (upd la pre.length (nI jA)) := ⟨_, rfl⟩
              rw [← hf11] at hw
              rw [zsA_zsI, zsA_zsA] at hw
              have hSh : ShC (zsI (zsA (zsA (zsA S_ (r_ 12) cod) (r_ 15) f10) (r_ 16) f11) 305 (r_ 10) (nI (cn + T.length))) r_ := (sh_IC (sh_AC (sh_AC (sh_AC hSh0))))
              refine lv_aload_n hx hb_ dX3_grow_54 rfl (lv_at hl 0 rfl) ?_
              refine lv_iload_n hx hb_ dX3_grow_55 rfl (lv_at hl 1 rfl) ?_
              refine lv_iconst (v := 1) hx hb_ dX3_grow_56 (by decide) ?_
              refine lv_iadd hx hb_ dX3_grow_57 ?_
              refine z_topi (y := (nI (pre ++ [jA]).length)) (by rw [nI_1, List.length_append]; rfl) ?_
              refine lv_iload_n hx hb_ dX3_grow_58 rfl (lv_at hl 2 rfl) ?_
              refine lv_iload_n hx hb_ dX3_grow_59 rfl (lv_at hl 3 rfl) ?_
              refine lv_iconst (v := 3) hx hb_ dX3_grow_60 (by decide) ?_
              refine lv_iload_n hx hb_ dX3_grow_61 rfl (lv_at hl 1 rfl) ?_
              refine lv_imul hx hb_ dX3_grow_62 ?_
              refine lv_ishl hx hb_ dX3_grow_63 ?_
              refine lv_ior hx hb_ dX3_grow_64 ?_
              refine z_topi (y := (cdI (pre ++ [jA]))) (cdI_app pre jA) ?_
              refine z_kv hw hA (va_runS (As := [.ref (r_ 10), .int (nI (pre ++ [jA]).length), .int (cdI (pre ++ [jA]))]) (rest := []) hcf (c_X3_grow_0 lau cD cy _ r_ (zsI (zsA (zsA (zsA S_ (r_ 12) cod) (r_ 15) f10) (r_ 16) f11) 305 (r_ 10) (nI (cn + T.length))) hSh n_ (cn + T.length) ee (pre ++ [jA]) (by rw [List.length_append, List.length_singleton]; omega) hn (by rw [List.length_append, List.length_singleton]; omega) (fun x_ hx => (List.mem_append.mp hx).elim (fun q_ => hb8 x_ q_) (fun q_ => by rw [List.mem_singleton] at q_; omega)) ((zI_nj (by decide)).trans (zI_A.trans (zI_A.trans (zI_A.trans hs)))) zI_at (by rw [cGf, if_neg hnm, if_pos hft] at hle; omega) (fun k_ hk => by rw [congrFun (show zA (zsI (zsA (zsA (zsA S_ (r_ 12) cod) (r_ 15) f10) (r_ 16) f11) 305 (r_ 10) (nI (cn + T.length))) (r_ 15) = f10 from (zA_I.trans ((zA_ne _ _ (cNe hSh (i := 15) (j := 16) (by decide) (by decide) (by decide))).trans (zA_zsA _ _ _)))) k_, hf10, pos_app hnm]; exact (Decidable.em (k_ = jA)).elim (fun q_ => by rw [q_, upd_at, if_pos rfl]) (fun q_ => by rw [upd_no _ _ q_, if_neg q_]; exact hP k_ hk)) (fun k_ hk => by rw [congrFun (show zA (zsI (zsA (zsA (zsA S_ (r_ 12) cod) (r_ 15) f10) (r_ 16) f11) 305 (r_ 10) (nI (cn + T.length))) (r_ 16) = f11 from (zA_I.trans (zA_zsA _ _ _))) k_, hf11]; rw [List.length_append, List.length_singleton] at hk; exact (Decidable.em (k_ = pre.length)).elim (fun q_ => by rw [q_, upd_at]; simp [List.getD_eq_getElem?_getD]) (fun q_ => by rw [upd_no _ _ q_, hla k_ (by omega), List.getD_eq_getElem?_getD, List.getD_eq_getElem?_getD, List.getElem?_append_left (by omega)]))) (va_cwS 3 hts gX3_grow_X3_grow rfl rfl rfl (by decide +kernel) ⟨Nat.le_of_ble_eq_true rfl, Nat.le_of_ble_eq_true rfl⟩) (z_preS hK_ hE hw) rfl rfl hl.1 rfl (lv_room (Nat.le_of_ble_eq_true rfl)) dX3_grow_65 ⟨Nat.le_of_ble_eq_true rfl, Nat.le_of_ble_eq_true rfl⟩) (fun S13 H_ locs_ hp hw => ?_)
              obtain ⟨cod14, la15, rfl, hc1, hc2, hl2⟩ := hp
              rw [show zA (zsI (zsA (zsA (zsA S_ (r_ 12) cod) (r_ 15) f10) (r_ 16) f11) 305 (r_ 10) (nI (cn + T.length))) (r_ 15) = _ from (zA_I.trans ((zA_ne _ _ (cNe hSh (i := 15) (j := 16) (by decide) (by decide) (by decide))).trans (zA_zsA _ _ _)))] at hw
              rw [zsA_zsI, zsA_comm _ _ _ (cNe hSh (i := 16) (j := 12) (by decide) (by decide) (by decide)), zsA_comm _ _ _ (cNe hSh (i := 15) (j := 12) (by decide) (by decide) (by decide)), zsA_zsA] at hw
              rw [zsA_zsI, zsA_comm _ _ _ (cNe hSh (i := 16) (j := 15) (by decide) (by decide) (by decide)), zsA_zsA] at hw
              rw [zsA_zsI, zsA_zsA] at hw
              rw [zsI_zsI] at hw
              have hSh : ShC (zsI (zsA (zsA (zsA S_ (r_ 12) cod14) (r_ 15) f10) (r_ 16) la15) 305 (r_ 10) (nI (cn + T.length + (cG n_ ee (pre ++ [jA])).length))) r_ := (sh_IC (sh_AC (sh_AC (sh_AC hSh0))))
              refine lv_aload_n hx hb_ dX3_grow_68 rfl (lv_at hl 0 rfl) ?_
              refine lv_iload_n hx hb_ dX3_grow_69 rfl (lv_at hl 3 rfl) ?_
              refine z_kv hw hA (va_runV (As := [.int (nI jA)]) (rest := []) hcf (c_X3_lift lau cD cy _ r_ (zsI (zsA (zsA (zsA S_ (r_ 12) cod14) (r_ 15) f10) (r_ 16) la15) 305 (r_ 10) (nI (cn + T.length + (cG n_ ee (pre ++ [jA])).length))) hSh jA (by omega)) (cwV 1 hts gX3_grow_X3_lift rfl rfl rfl (by decide +kernel) ⟨Nat.le_of_ble_eq_true rfl, Nat.le_of_ble_eq_true rfl⟩) (z_preV (k := 3) hK_ hE hw (cL hSh 10) (cK hSh 10) (by decide) rfl) rfl rfl hl.1 rfl (lv_room (Nat.le_of_ble_eq_true rfl)) dX3_grow_70 ⟨Nat.le_of_ble_eq_true rfl, Nat.le_of_ble_eq_true rfl⟩) (fun S17 H_ locs_ hp hw => ?_)
              obtain rfl := hp
              rw [show zA (zsI (zsA (zsA (zsA S_ (r_ 12) cod14) (r_ 15) f10) (r_ 16) la15) 305 (r_ 10) (nI (cn + T.length + (cG n_ ee (pre ++ [jA])).length))) (r_ 15) = _ from (zA_I.trans ((zA_ne _ _ (cNe hSh (i := 15) (j := 16) (by decide) (by decide) (by decide))).trans (zA_zsA _ _ _)))] at hw
              obtain ⟨f18, hf18⟩ : ∃ zz, zz = (upd f10 jA (-1)) := ⟨_, rfl⟩
              rw [← hf18] at hw
              rw [zsA_zsI, zsA_comm _ _ _ (cNe hSh (i := 16) (j := 15) (by decide) (by decide) (by decide)), zsA_zsA] at hw
              have hSh : ShC (zsI (zsA (zsA (zsA S_ (r_ 12) cod14) (r_ 15) f18) (r_ 16) la15) 305 (r_ 10) (nI (cn + T.length + (cG n_ ee (pre ++ [jA])).length))) r_ := (sh_IC (sh_AC (sh_AC (sh_AC hSh0))))
              have hpl : f18 = zA S_ (r_ 15) := funext fun k_ => by rw [hf18, hf10]; exact (Decidable.em (k_ = jA)).elim (fun q_ => by rw [q_, upd_at]; exact (pos_no hnm).symm.trans (hP jA (by omega)).symm) (fun q_ => by rw [upd_no _ _ q_, upd_no _ _ q_])
              rw [hpl] at hw
              have hSh : ShC (zsI (zsA (zsA (zsA S_ (r_ 12) cod14) (r_ 15) (zA S_ (r_ 15))) (r_ 16) la15) 305 (r_ 10) (nI (cn + T.length + (cG n_ ee (pre ++ [jA])).length))) r_ := (sh_IC (sh_AC (sh_AC (sh_AC hSh0))))
              obtain ⟨i2_, ei2⟩ : ∃ y_ : Int32, y_ = (nI jA) + 1 := ⟨_, rfl⟩
              refine lv_iinc (v := i2_) (lv' := [(3, .int i2_), (0, .ref (r_ 10)), (1, .int (nI pre.length)), (2, .int (cdI pre))]) hx hb_ dX3_grow_73 hl (k := 3) rfl (by rw [ei2]; rfl) (by decide) rfl (fun ls hl => ?_)
              refine lv_goto (tgt := 22) hx hb_ dX3_grow_76 (by decide) ?_
              have hG : cGf n_ ee pre jA = cG n_ ee (pre ++ [jA]) := by rw [cGf, if_neg hnm, if_pos hft]
              have ecc : cn + T.length + (cG n_ ee (pre ++ [jA])).length = cn + (T ++ cG n_ ee (pre ++ [jA])).length := by rw [List.length_append]; omega
              rw [ecc] at hw
              refine ihA (jA + 1) i2_ (by rw [ei2]; exact nI_1 jA) (by omega) (by omega) cod14 la15 (T ++ cG n_ ee (pre ++ [jA])) (by rw [rg_fm, hG, hT]) (fun k_ hk => (hc1 k_ (by omega)).trans ((congrFun (show zA (zsI (zsA (zsA (zsA S_ (r_ 12) cod) (r_ 15) f10) (r_ 16) f11) 305 (r_ 10) (nI (cn + T.length))) (r_ 12) = cod from (zA_I.trans ((zA_ne _ _ (cNe hSh (i := 12) (j := 16) (by decide) (by decide) (by decide))).trans ((zA_ne _ _ (cNe hSh (i := 12) (j := 15) (by decide) (by decide) (by decide))).trans (zA_zsA _ _ _))))) k_).trans (hk1 k_ hk))) (fun i_ hi_ => ?_) (fun k_ hk => ?_) _ _ hw ls (lv_sub hl [1, 2, 3, 0] rfl)
              · rcases Nat.lt_or_ge i_ T.length with q_ | q_
                · rw [hc1 (cn + i_) (by omega), congrFun (show zA (zsI (zsA (zsA (zsA S_ (r_ 12) cod) (r_ 15) f10) (r_ 16) f11) 305 (r_ 10) (nI (cn + T.length))) (r_ 12) = cod from (zA_I.trans ((zA_ne _ _ (cNe hSh (i := 12) (j := 16) (by decide) (by decide) (by decide))).trans ((zA_ne _ _ (cNe hSh (i := 12) (j := 15) (by decide) (by decide) (by decide))).trans (zA_zsA _ _ _))))) (cn + i_), hk2 i_ q_, List.getD_eq_getElem?_getD, List.getD_eq_getElem?_getD, List.getElem?_append_left q_]
                · rw [List.length_append] at hi_
                  have := hc2 (i_ - T.length) (by omega)
                  rw [show cn + T.length + (i_ - T.length) = cn + i_ by omega] at this
                  rw [this, List.getD_eq_getElem?_getD, List.getD_eq_getElem?_getD, List.getElem?_append_right q_]
              · rw [hl2 k_ (by rw [List.length_append]; omega), congrFun (show zA (zsI (zsA (zsA (zsA S_ (r_ 12) cod) (r_ 15) f10) (r_ 16) f11) 305 (r_ 10) (nI (cn + T.length))) (r_ 16) = f11 from (zA_I.trans (zA_zsA _ _ _))) k_, hf11, upd_no _ _ (by omega)]; exact hla k_ hk
    exact JA (n_ + 1) 0 0 nI_0.symm (Nat.zero_le _) (by omega) (zA S_ (r_ 12)) (zA S_ (r_ 16)) [] rfl (fun k_ hk => rfl) (fun i_ hi_ => absurd hi_ (Nat.not_lt_zero i_)) hA2 _ _ (by rw [zsA_self, zsA_self, zsA_self, show cn + ([] : List (List Nat)).length = cn from rfl, zsI_self hcc]; exact hw) ls (lv_sub hl [1, 2, 3, 0] rfl)

set_option maxHeartbeats 1000000 in
set_option maxRecDepth 100000 in
theorem c_X3_grow_2 (lau : Launch) (cD : va_G) (cy : Nat → ClassId) (sz_ : Nat) (r_ : Nat → Nat) (S_ : zS) (hSh : ShC S_ r_) (n_ cn ee : Nat) (pre : List Nat) (hd : pre.length + 2 = 8) (hn : n_ ≤ 8) (hlen : pre.length + ee = n_) (hb8 : ∀ x_, x_ ∈ pre → x_ < 8) (hs : zI S_ 306 (r_ 10) = nI n_) (hcc : zI S_ 305 (r_ 10) = nI cn) (hct : cn + (cG n_ ee pre).length ≤ 2100) (hP : ∀ k_, k_ < 8 → zA S_ (r_ 15) k_ = pos pre k_) (hA2 : ∀ k_, k_ < pre.length → zA S_ (r_ 16) k_ = nI (pre.getD k_ 0)) : Met lau yX3_grow wsX3_grow ({ frames := 4, cells := 0, slots := 0, locals := 94 } : Room) (va_Pc [.ref (r_ 10), .int (nI pre.length), .int (cdI pre)] (zPre cD cy S_ sz_)) (va_Qv (fun (S1 : zS) => ∃ cod la : Nat → Int32, S1 = zsI (zsA (zsA (zsA S_ (r_ 12) cod) (r_ 15) (zA S_ (r_ 15))) (r_ 16) la) 305 (r_ 10) (nI (cn + (cG n_ ee pre).length)) ∧ (∀ k_, k_ < cn → cod k_ = zA S_ (r_ 12) k_) ∧ (∀ i_, i_ < (cG n_ ee pre).length → cod (cn + i_) = cdI ((cG n_ ee pre).getD i_ [])) ∧ (∀ k_, k_ < pre.length → la k_ = zA S_ (r_ 16) k_)) (zPost cD cy (zAd cy S_ sz_)) (zAd cy S_ sz_)) 0 0 (zAd cy S_ sz_) := by
  refine z_ofW (cc := cX3_grow) (maxL := 4) (ret := none) (own := RX3) (QQ := fun A_ => va_Qv (fun (S1 : zS) => ∃ cod la : Nat → Int32, S1 = zsI (zsA (zsA (zsA S_ (r_ 12) cod) (r_ 15) (zA S_ (r_ 15))) (r_ 16) la) 305 (r_ 10) (nI (cn + (cG n_ ee pre).length)) ∧ (∀ k_, k_ < cn → cod k_ = zA S_ (r_ 12) k_) ∧ (∀ i_, i_ < (cG n_ ee pre).length → cod (cn + i_) = cdI ((cG n_ ee pre).getD i_ [])) ∧ (∀ k_, k_ < pre.length → la k_ = zA S_ (r_ 16) k_)) (zPost cD cy A_) A_) (by decide) rfl rfl (Nat.le_of_ble_eq_true rfl) ?_
  intro p_ e_ s_ m_ args_ below_ meth_ c_ A_ ls hcf hr hlk hnm hK_ hE hw hA hl
  obtain ⟨hx, hb_, hml, hown, hts⟩ := id hcf
  have hin3 : ∀ w_ ∈ wsX30, w_ ∈ wsX3_grow := fun w_ h_ => (List.mem_cons_of_mem _ (List.mem_append_right _ h_))
  have hl : lv_has ls 4 [(0, .ref (r_ 10)), (1, .int (nI pre.length)), (2, .int (cdI pre))] := hl
  have hSh0 := hSh
  cases ee with
  | zero =>
    refine lv_iload_n hx hb_ dX3_grow_0 rfl (lv_at hl 1 rfl) ?_
    refine lv_aload_n hx hb_ dX3_grow_1 rfl (lv_at hl 0 rfl) ?_
    refine z_get (k := 3) (i := 6) (j := 306) (v := .int (nI n_)) (ref := "FoldedInHalf$Leaves") (C := RX3) (T := TX3) (N := 7) hcf hK_ hw hin3 (cL hSh 10) (cK hSh 10) rfl (by decide) (by decide) rfl rfl (congrArg Value.int hs) (List.mem_of_getElem? (i := 1) rfl) (fun _ h_ => h_) dX3_grow_2 ?_
    refine lv_icmp_ge (tgt := 14) hx hb_ dX3_grow_5 (by decide) (fun c_5 => ?_) (fun c_5 => absurd (nI_le (by omega) (by omega)) c_5)
    refine lv_aload_n hx hb_ dX3_grow_14 rfl (lv_at hl 0 rfl) ?_
    refine lv_iload_n hx hb_ dX3_grow_15 rfl (lv_at hl 2 rfl) ?_
    refine z_kv hw hA (va_runV (As := [.int (cdI pre)]) (rest := []) hcf (c_X3_keep lau cD cy _ r_ S_ hSh cn (cdI pre) (by have := hct; simp [cG] at this; omega) hcc) (cwV 1 hts gX3_grow_X3_keep rfl rfl rfl (by decide +kernel) ⟨Nat.le_of_ble_eq_true rfl, Nat.le_of_ble_eq_true rfl⟩) (z_preV (k := 3) hK_ hE hw (cL hSh 10) (cK hSh 10) (by decide) rfl) rfl rfl hl.1 rfl (lv_room (Nat.le_of_ble_eq_true rfl)) dX3_grow_16 ⟨Nat.le_of_ble_eq_true rfl, Nat.le_of_ble_eq_true rfl⟩) (fun S2 H_ locs_ hp hw => ?_)
    obtain rfl := hp
    obtain ⟨f3_, hf3⟩ : ∃ zz, zz = upd (zA S_ (r_ 12)) cn (cdI pre) := ⟨_, rfl⟩
    rw [← hf3] at hw
    have hSh : ShC (zsI (zsA S_ (r_ 12) f3_) 305 (r_ 10) (nI (cn + 1))) r_ := (sh_IC (sh_AC hSh0))
    exact z_vret hcf hr hlk hw (⟨f3_, zA S_ (r_ 16), by rw [zsA_same (S := zsA S_ (r_ 12) f3_) (a := r_ 15) (zA_ne _ _ (cNe hSh (i := 15) (j := 12) (by decide) (by decide) (by decide))), zsA_same (S := zsA S_ (r_ 12) f3_) (a := r_ 16) (zA_ne _ _ (cNe hSh (i := 16) (j := 12) (by decide) (by decide) (by decide)))]; rfl, fun k_ hk => by rw [hf3, upd_no _ _ (by omega)], fun i_ hi_ => by have e0 : i_ = 0 := (by simp [cG] at hi_; omega); subst e0; rw [hf3]; exact upd_at _ _ _, fun k_ hk => rfl⟩) dX3_grow_19
  | succ ee =>
    refine lv_iload_n hx hb_ dX3_grow_0 rfl (lv_at hl 1 rfl) ?_
    refine lv_aload_n hx hb_ dX3_grow_1 rfl (lv_at hl 0 rfl) ?_
    refine z_get (k := 3) (i := 6) (j := 306) (v := .int (nI n_)) (ref := "FoldedInHalf$Leaves") (C := RX3) (T := TX3) (N := 7) hcf hK_ hw hin3 (cL hSh 10) (cK hSh 10) rfl (by decide) (by decide) rfl rfl (congrArg Value.int hs) (List.mem_of_getElem? (i := 1) rfl) (fun _ h_ => h_) dX3_grow_2 ?_
    refine lv_icmp_ge (tgt := 14) hx hb_ dX3_grow_5 (by decide) (fun c_5 => absurd c_5 (nI_ge (show pre.length < n_ by omega) (by omega))) (fun c_5 => ?_)
    refine lv_iload_n hx hb_ dX3_grow_8 rfl (lv_at hl 1 rfl) ?_
    refine lv_bipush (v := 8) hx hb_ dX3_grow_9 (by decide) ?_
    refine lv_icmp_lt (tgt := 20) hx hb_ dX3_grow_11 (by decide) (fun c_11 => ?_) (fun c_11 => absurd (nI_lt (show pre.length < 8 by omega) (by decide)) c_11)
    refine lv_iconst (v := 0) hx hb_ dX3_grow_20 (by decide) ?_
    refine lv_istore_n (lv' := [(3, .int 0), (0, .ref (r_ 10)), (1, .int (nI pre.length)), (2, .int (cdI pre))]) hx hb_ dX3_grow_21 rfl hl (by decide) rfl (fun ls hl => ?_)
    have JA : ∀ (nA jA : Nat) (iA : Int32), iA = nI jA → jA ≤ n_ → n_ < jA + nA → ∀ (cod la : Nat → Int32) (T : List (List Nat)), T = (List.range jA).flatMap (cGf n_ ee pre) → (∀ k_, k_ < cn → cod k_ = zA S_ (r_ 12) k_) → (∀ i_, i_ < T.length → cod (cn + i_) = cdI (T.getD i_ [])) → (∀ k_, k_ < pre.length → la k_ = nI (pre.getD k_ 0)) → ∀ (H_ : Heap) (locs_ : List Loc), zPw cD cy A_ s_.heap (zsI (zsA (zsA (zsA S_ (r_ 12) cod) (r_ 15) (zA S_ (r_ 15))) (r_ 16) la) 305 (r_ 10) (nI (cn + T.length))) H_ locs_ → ∀ ls : Array Slot, lv_has ls 4 [(0, .ref (r_ 10)), (1, .int (nI pre.length)), (2, .int (cdI pre)), (3, .int iA)] → W p_ lau e_ ({ frames := 4, cells := 0, slots := 0, locals := 94 } : Room) s_ m_ args_ below_ meth_ c_ H_ locs_ 0 0 (MQ below_ (va_Qv (fun (S1 : zS) => ∃ cod la : Nat → Int32, S1 = zsI (zsA (zsA (zsA S_ (r_ 12) cod) (r_ 15) (zA S_ (r_ 15))) (r_ 16) la) 305 (r_ 10) (nI (cn + (cG n_ (ee + 1) pre).length)) ∧ (∀ k_, k_ < cn → cod k_ = zA S_ (r_ 12) k_) ∧ (∀ i_, i_ < (cG n_ (ee + 1) pre).length → cod (cn + i_) = cdI ((cG n_ (ee + 1) pre).getD i_ [])) ∧ (∀ k_, k_ < pre.length → la k_ = zA S_ (r_ 16) k_)) (zPost cD cy A_) A_) args_ s_ 0 0 A_) (F0 m_ 22 ls []) := by
      intro nA
      induction nA with
      | zero => intro jA iA _ hjA h_; exact absurd h_ (by omega)
      | succ nA ihA =>
        intro jA iA eiA hjA hmA cod la T hT hk1 hk2 hla H_ locs_ hw ls hl
        subst eiA
        have hSh : ShC (zsI (zsA (zsA (zsA S_ (r_ 12) cod) (r_ 15) (zA S_ (r_ 15))) (r_ 16) la) 305 (r_ 10) (nI (cn + T.length))) r_ := (sh_IC (sh_AC (sh_AC (sh_AC hSh0))))
        refine lv_iload_n hx hb_ dX3_grow_22 rfl (lv_at hl 3 rfl) ?_
        refine lv_aload_n hx hb_ dX3_grow_23 rfl (lv_at hl 0 rfl) ?_
        refine z_get (k := 3) (i := 6) (j := 306) (v := .int (nI n_)) (ref := "FoldedInHalf$Leaves") (C := RX3) (T := TX3) (N := 7) hcf hK_ hw hin3 (cL hSh 10) (cK hSh 10) rfl (by decide) (by decide) rfl rfl (congrArg Value.int ((zI_nj (by decide)).trans (zI_A.trans (zI_A.trans (zI_A.trans hs))))) (List.mem_of_getElem? (i := 1) rfl) (fun _ h_ => h_) dX3_grow_24 ?_
        refine lv_icmp_ge (tgt := 79) hx hb_ dX3_grow_27 (by decide) (fun c_27 => ?_) (fun c_27 => ?_)
        · exact z_vret hcf hr hlk hw (by have hj : jA = n_ := (by have := zn_ge rfl rfl (by omega) c_27; omega); have hTG : T = cG n_ (ee + 1) pre := (by rw [hT, hj]; rfl); exact ⟨cod, la, by rw [hTG], hk1, by rw [← hTG]; exact hk2, fun k_ hk => (hla k_ hk).trans (hA2 k_ hk).symm⟩) dX3_grow_79
        · have hlt : jA < n_ := zn_lt rfl rfl (by omega) c_27
          have hle : T.length + (cGf n_ ee pre jA).length ≤ (cG n_ (ee + 1) pre).length := by have := rg_le (cGf n_ ee pre) (show jA + 1 ≤ n_ by omega); rw [rg_fm, List.length_append, ← hT, ← cG_eq] at this; exact this
          refine lv_aload_n hx hb_ dX3_grow_30 rfl (lv_at hl 0 rfl) ?_
          refine lv_iload_n hx hb_ dX3_grow_31 rfl (lv_at hl 3 rfl) ?_
          refine z_ki hw hA (va_runV (As := [.int (nI jA)]) (rest := []) hcf (c_X3_placeOfLeaf lau cD cy _ r_ (zsI (zsA (zsA (zsA S_ (r_ 12) cod) (r_ 15) (zA S_ (r_ 15))) (r_ 16) la) 305 (r_ 10) (nI (cn + T.length))) hSh (nI jA)) (cwV 1 hts gX3_grow_X3_placeOfLeaf rfl rfl rfl (by decide +kernel) ⟨Nat.le_of_ble_eq_true rfl, Nat.le_of_ble_eq_true rfl⟩) (z_preV (k := 3) hK_ hE hw (cL hSh 10) (cK hSh 10) (by decide) rfl) rfl rfl hl.1 rfl (lv_room (Nat.le_of_ble_eq_true rfl)) dX3_grow_32 ⟨Nat.le_of_ble_eq_true rfl, Nat.le_of_ble_eq_true rfl⟩) (fun v4 S5 H_ locs_ hp hw => ?_)
          obtain ⟨hv4, rfl⟩ := hp
          have hpv : v4 = pos pre jA := by rw [hv4, pOf_nI (by omega), congrFun (show zA (zsI (zsA (zsA (zsA S_ (r_ 12) cod) (r_ 15) (zA S_ (r_ 15))) (r_ 16) la) 305 (r_ 10) (nI (cn + T.length))) (r_ 15) = (zA S_ (r_ 15)) from (zA_I.trans ((zA_ne _ _ (cNe hSh (i := 15) (j := 16) (by decide) (by decide) (by decide))).trans (zA_zsA _ _ _)))) jA]; exact hP jA (by omega)
          refine lv_iconst (v := (-1)) hx hb_ dX3_grow_35 (by decide) ?_
          refine lv_icmp_ne (tgt := 73) hx hb_ dX3_grow_36 (by decide) (fun c_36 => ?_) (fun c_36 => ?_)
          · obtain ⟨i2_, ei2⟩ : ∃ y_ : Int32, y_ = (nI jA) + 1 := ⟨_, rfl⟩
            refine lv_iinc (v := i2_) (lv' := [(3, .int i2_), (0, .ref (r_ 10)), (1, .int (nI pre.length)), (2, .int (cdI pre))]) hx hb_ dX3_grow_73 hl (k := 3) rfl (by rw [ei2]; rfl) (by decide) rfl (fun ls hl => ?_)
            refine lv_goto (tgt := 22) hx hb_ dX3_grow_76 (by decide) ?_
            have hG : cGf n_ ee pre jA = [] := by rw [cGf, if_pos (Classical.byContradiction fun q_ => c_36 (hpv.trans (pos_no q_)))]
            exact ihA (jA + 1) i2_ (by rw [ei2]; exact nI_1 jA) (by omega) (by omega) cod la T (by rw [rg_fm, hG, List.append_nil]; exact hT) hk1 hk2 hla _ _ hw ls (lv_sub hl [1, 2, 3, 0] rfl)
          · have hnm : jA ∉ pre := fun q_ => pos_in q_ (by omega) (hpv.symm.trans c_36)
            refine lv_aload_n hx hb_ dX3_grow_39 rfl (lv_at hl 0 rfl) ?_
            refine lv_iload_n hx hb_ dX3_grow_40 rfl (lv_at hl 3 rfl) ?_
            refine lv_iload_n hx hb_ dX3_grow_41 rfl (lv_at hl 1 rfl) ?_
            refine z_ki hw hA (va_runV (As := [.int (nI jA), .int (nI pre.length)]) (rest := []) hcf (c_X3_fits lau cD cy _ r_ (zsI (zsA (zsA (zsA S_ (r_ 12) cod) (r_ 15) (zA S_ (r_ 15))) (r_ 16) la) 305 (r_ 10) (nI (cn + T.length))) hSh n_ jA pre (by omega) hn ((zI_nj (by decide)).trans (zI_A.trans (zI_A.trans (zI_A.trans hs)))) (fun k_ hk => (congrFun (show zA (zsI (zsA (zsA (zsA S_ (r_ 12) cod) (r_ 15) (zA S_ (r_ 15))) (r_ 16) la) 305 (r_ 10) (nI (cn + T.length))) (r_ 15) = (zA S_ (r_ 15)) from (zA_I.trans ((zA_ne _ _ (cNe hSh (i := 15) (j := 16) (by decide) (by decide) (by decide))).trans (zA_zsA _ _ _)))) k_).trans (hP k_ hk)) (fun k_ hk => (congrFun (show zA (zsI (zsA (zsA (zsA S_ (r_ 12) cod) (r_ 15) (zA S_ (r_ 15))) (r_ 16) la) 305 (r_ 10) (nI (cn + T.length))) (r_ 16) = la from (zA_I.trans (zA_zsA _ _ _))) k_).trans (hla k_ hk)) hb8 (by omega)) (cwV 2 hts gX3_grow_X3_fits rfl rfl rfl (by decide +kernel) ⟨Nat.le_of_ble_eq_true rfl, Nat.le_of_ble_eq_true rfl⟩) (z_preV (k := 3) hK_ hE hw (cL hSh 10) (cK hSh 10) (by decide) rfl) rfl rfl hl.1 rfl (lv_room (Nat.le_of_ble_eq_true rfl)) dX3_grow_42 ⟨Nat.le_of_ble_eq_true rfl, Nat.le_of_ble_eq_true rfl⟩) (fun v6 S7 H_ locs_ hp hw => ?_)
            obtain ⟨hv6, rfl⟩ := hp
            refine lv_if_eq (tgt := 73) hx hb_ dX3_grow_45 (by decide) (fun c_45 => ?_) (fun c_45 => ?_)
            · obtain ⟨i2_, ei2⟩ : ∃ y_ : Int32, y_ = (nI jA) + 1 := ⟨_, rfl⟩
              refine lv_iinc (v := i2_) (lv' := [(3, .int i2_), (0, .ref (r_ 10)), (1, .int (nI pre.length)), (2, .int (cdI pre))]) hx hb_ dX3_grow_73 hl (k := 3) rfl (by rw [ei2]; rfl) (by decide) rfl (fun ls hl => ?_)
              refine lv_goto (tgt := 22) hx hb_ dX3_grow_76 (by decide) ?_
              have hG : cGf n_ ee pre jA = [] := by unfold cGf; exact (Decidable.em (jA ∈ pre)).elim (fun q_ => if_pos q_) (fun q_ => (if_neg q_).trans (if_neg (fun z_ => by rw [hv6, if_pos z_] at c_45; exact absurd c_45 (by decide))))
              exact ihA (jA + 1) i2_ (by rw [ei2]; exact nI_1 jA) (by omega) (by omega) cod la T (by rw [rg_fm, hG, List.append_nil]; exact hT) hk1 hk2 hla _ _ hw ls (lv_sub hl [1, 2, 3, 0] rfl)
            · have hft : cFit n_ pre jA = true := Classical.byContradiction fun q_ => c_45 (by rw [hv6, if_neg q_])
              refine lv_aload_n hx hb_ dX3_grow_48 rfl (lv_at hl 0 rfl) ?_
              refine lv_iload_n hx hb_ dX3_grow_49 rfl (lv_at hl 3 rfl) ?_
              refine lv_iload_n hx hb_ dX3_grow_50 rfl (lv_at hl 1 rfl) ?_
              refine z_kv hw hA (va_runV (As := [.int (nI jA), .int (nI pre.length)]) (rest := []) hcf (c_X3_lay lau cD cy _ r_ (zsI (zsA (zsA (zsA S_ (r_ 12) cod) (r_ 15) (zA S_ (r_ 15))) (r_ 16) la) 305 (r_ 10) (nI (cn + T.length))) hSh jA pre.length (by omega) (by omega)) (cwV 2 hts gX3_grow_X3_lay rfl rfl rfl (by decide +kernel) ⟨Nat.le_of_ble_eq_true rfl, Nat.le_of_ble_eq_true rfl⟩) (z_preV (k := 3) hK_ hE hw (cL hSh 10) (cK hSh 10) (by decide) rfl) rfl rfl hl.1 rfl (lv_room (Nat.le_of_ble_eq_true rfl)) dX3_grow_51 ⟨Nat.le_of_ble_eq_true rfl, Nat.le_of_ble_eq_true rfl⟩) (fun S9 H_ locs_ hp hw => ?_)
              obtain rfl := hp
              rw [show zA (zsI (zsA (zsA (zsA S_ (r_ 12) cod) (r_ 15) (zA S_ (r_ 15))) (r_ 16) la) 305 (r_ 10) (nI (cn + T.length))) (r_ 15) = _ from (zA_I.trans ((zA_ne _ _ (cNe hSh (i := 15) (j := 16) (by decide) (by decide) (by decide))).trans (zA_zsA _ _ _))), show zA (zsI (zsA (zsA (zsA S_ (r_ 12) cod) (r_ 15) (zA S_ (r_ 15))) (r_ 16) la) 305 (r_ 10) (nI (cn + T.length))) (r_ 16) = _ from (zA_I.trans (zA_zsA _ _ _))] at hw
              obtain ⟨f10, hf10⟩ : ∃ zz, zz = (upd (zA S_ (r_ 15)) jA (nI pre.length)) := ⟨_, rfl⟩
              rw [← hf10] at hw
              rw [zsA_zsI, zsA_comm _ _ _ (cNe hSh (i := 16) (j := 15) (by decide) (by decide) (by decide)), zsA_zsA] at hw
              obtain ⟨f11, hf11⟩ : ∃ zz, zz = (upd la pre.length (nI jA)) := ⟨_, rfl⟩
              rw [← hf11] at hw
              rw [zsA_zsI, zsA_zsA] at hw
              have hSh : ShC (zsI (zsA (zsA (zsA S_ (r_ 12) cod) (r_ 15) f10) (r_ 16) f11) 305 (r_ 10) (nI (cn + T.length))) r_ := (sh_IC (sh_AC (sh_AC (sh_AC hSh0))))
              refine lv_aload_n hx hb_ dX3_grow_54 rfl (lv_at hl 0 rfl) ?_
              refine lv_iload_n hx hb_ dX3_grow_55 rfl (lv_at hl 1 rfl) ?_
              refine lv_iconst (v := 1) hx hb_ dX3_grow_56 (by decide) ?_
              refine lv_iadd hx hb_ dX3_grow_57 ?_
              refine z_topi (y := (nI (pre ++ [jA]).length)) (by rw [nI_1, List.length_append]; rfl) ?_
              refine lv_iload_n hx hb_ dX3_grow_58 rfl (lv_at hl 2 rfl) ?_
              refine lv_iload_n hx hb_ dX3_grow_59 rfl (lv_at hl 3 rfl) ?_
              refine lv_iconst (v := 3) hx hb_ dX3_grow_60 (by decide) ?_
              refine lv_iload_n hx hb_ dX3_grow_61 rfl (lv_at hl 1 rfl) ?_
              refine lv_imul hx hb_ dX3_grow_62 ?_
              refine lv_ishl hx hb_ dX3_grow_63 ?_
              refine lv_ior hx hb_ dX3_grow_64 ?_
              refine z_topi (y := (cdI (pre ++ [jA]))) (cdI_app pre jA) ?_
              refine z_kv hw hA (va_runS (As := [.ref (r_ 10), .int (nI (pre ++ [jA]).length), .int (cdI (pre ++ [jA]))]) (rest := []) hcf (c_X3_grow_1 lau cD cy _ r_ (zsI (zsA (zsA (zsA S_ (r_ 12) cod) (r_ 15) f10) (r_ 16) f11) 305 (r_ 10) (nI (cn + T.length))) hSh n_ (cn + T.length) ee (pre ++ [jA]) (by rw [List.length_append, List.length_singleton]; omega) hn (by rw [List.length_append, List.length_singleton]; omega) (fun x_ hx => (List.mem_append.mp hx).elim (fun q_ => hb8 x_ q_) (fun q_ => by rw [List.mem_singleton] at q_; omega)) ((zI_nj (by decide)).trans (zI_A.trans (zI_A.trans (zI_A.trans hs)))) zI_at (by rw [cGf, if_neg hnm, if_pos hft] at hle; omega) (fun k_ hk => by rw [congrFun (show zA (zsI (zsA (zsA (zsA S_ (r_ 12) cod) (r_ 15) f10) (r_ 16) f11) 305 (r_ 10) (nI (cn + T.length))) (r_ 15) = f10 from (zA_I.trans ((zA_ne _ _ (cNe hSh (i := 15) (j := 16) (by decide) (by decide) (by decide))).trans (zA_zsA _ _ _)))) k_, hf10, pos_app hnm]; exact (Decidable.em (k_ = jA)).elim (fun q_ => by rw [q_, upd_at, if_pos rfl]) (fun q_ => by rw [upd_no _ _ q_, if_neg q_]; exact hP k_ hk)) (fun k_ hk => by rw [congrFun (show zA (zsI (zsA (zsA (zsA S_ (r_ 12) cod) (r_ 15) f10) (r_ 16) f11) 305 (r_ 10) (nI (cn + T.length))) (r_ 16) = f11 from (zA_I.trans (zA_zsA _ _ _))) k_, hf11]; rw [List.length_append, List.length_singleton] at hk; exact (Decidable.em (k_ = pre.length)).elim (fun q_ => by rw [q_, upd_at]; simp [List.getD_eq_getElem?_getD]) (fun q_ => by rw [upd_no _ _ q_, hla k_ (by omega), List.getD_eq_getElem?_getD, List.getD_eq_getElem?_getD, List.getElem?_append_left (by omega)]))) (va_cwS 3 hts gX3_grow_X3_grow rfl rfl rfl (by decide +kernel) ⟨Nat.le_of_ble_eq_true rfl, Nat.le_of_ble_eq_true rfl⟩) (z_preS hK_ hE hw) rfl rfl hl.1 rfl (lv_room (Nat.le_of_ble_eq_true rfl)) dX3_grow_65 ⟨Nat.le_of_ble_eq_true rfl, Nat.le_of_ble_eq_true rfl⟩) (fun S13 H_ locs_ hp hw => ?_)
              obtain ⟨cod14, la15, rfl, hc1, hc2, hl2⟩ := hp
              rw [show zA (zsI (zsA (zsA (zsA S_ (r_ 12) cod) (r_ 15) f10) (r_ 16) f11) 305 (r_ 10) (nI (cn + T.length))) (r_ 15) = _ from (zA_I.trans ((zA_ne _ _ (cNe hSh (i := 15) (j := 16) (by decide) (by decide) (by decide))).trans (zA_zsA _ _ _)))] at hw
              rw [zsA_zsI, zsA_comm _ _ _ (cNe hSh (i := 16) (j := 12) (by decide) (by decide) (by decide)), zsA_comm _ _ _ (cNe hSh (i := 15) (j := 12) (by decide) (by decide) (by decide)), zsA_zsA] at hw
              rw [zsA_zsI, zsA_comm _ _ _ (cNe hSh (i := 16) (j := 15) (by decide) (by decide) (by decide)), zsA_zsA] at hw
              rw [zsA_zsI, zsA_zsA] at hw
              rw [zsI_zsI] at hw
              have hSh : ShC (zsI (zsA (zsA (zsA S_ (r_ 12) cod14) (r_ 15) f10) (r_ 16) la15) 305 (r_ 10) (nI (cn + T.length + (cG n_ ee (pre ++ [jA])).length))) r_ := (sh_IC (sh_AC (sh_AC (sh_AC hSh0))))
              refine lv_aload_n hx hb_ dX3_grow_68 rfl (lv_at hl 0 rfl) ?_
              refine lv_iload_n hx hb_ dX3_grow_69 rfl (lv_at hl 3 rfl) ?_
              refine z_kv hw hA (va_runV (As := [.int (nI jA)]) (rest := []) hcf (c_X3_lift lau cD cy _ r_ (zsI (zsA (zsA (zsA S_ (r_ 12) cod14) (r_ 15) f10) (r_ 16) la15) 305 (r_ 10) (nI (cn + T.length + (cG n_ ee (pre ++ [jA])).length))) hSh jA (by omega)) (cwV 1 hts gX3_grow_X3_lift rfl rfl rfl (by decide +kernel) ⟨Nat.le_of_ble_eq_true rfl, Nat.le_of_ble_eq_true rfl⟩) (z_preV (k := 3) hK_ hE hw (cL hSh 10) (cK hSh 10) (by decide) rfl) rfl rfl hl.1 rfl (lv_room (Nat.le_of_ble_eq_true rfl)) dX3_grow_70 ⟨Nat.le_of_ble_eq_true rfl, Nat.le_of_ble_eq_true rfl⟩) (fun S17 H_ locs_ hp hw => ?_)
              obtain rfl := hp
              rw [show zA (zsI (zsA (zsA (zsA S_ (r_ 12) cod14) (r_ 15) f10) (r_ 16) la15) 305 (r_ 10) (nI (cn + T.length + (cG n_ ee (pre ++ [jA])).length))) (r_ 15) = _ from (zA_I.trans ((zA_ne _ _ (cNe hSh (i := 15) (j := 16) (by decide) (by decide) (by decide))).trans (zA_zsA _ _ _)))] at hw
              obtain ⟨f18, hf18⟩ : ∃ zz, zz = (upd f10 jA (-1)) := ⟨_, rfl⟩
              rw [← hf18] at hw
              rw [zsA_zsI, zsA_comm _ _ _ (cNe hSh (i := 16) (j := 15) (by decide) (by decide) (by decide)), zsA_zsA] at hw
              have hSh : ShC (zsI (zsA (zsA (zsA S_ (r_ 12) cod14) (r_ 15) f18) (r_ 16) la15) 305 (r_ 10) (nI (cn + T.length + (cG n_ ee (pre ++ [jA])).length))) r_ := (sh_IC (sh_AC (sh_AC (sh_AC hSh0))))
              have hpl : f18 = zA S_ (r_ 15) := funext fun k_ => by rw [hf18, hf10]; exact (Decidable.em (k_ = jA)).elim (fun q_ => by rw [q_, upd_at]; exact (pos_no hnm).symm.trans (hP jA (by omega)).symm) (fun q_ => by rw [upd_no _ _ q_, upd_no _ _ q_])
              rw [hpl] at hw
              have hSh : ShC (zsI (zsA (zsA (zsA S_ (r_ 12) cod14) (r_ 15) (zA S_ (r_ 15))) (r_ 16) la15) 305 (r_ 10) (nI (cn + T.length + (cG n_ ee (pre ++ [jA])).length))) r_ := (sh_IC (sh_AC (sh_AC (sh_AC hSh0))))
              obtain ⟨i2_, ei2⟩ : ∃ y_ : Int32, y_ = (nI jA) + 1 := ⟨_, rfl⟩
              refine lv_iinc (v := i2_) (lv' := [(3, .int i2_), (0, .ref (r_ 10)), (1, .int (nI pre.length)), (2, .int (cdI pre))]) hx hb_ dX3_grow_73 hl (k := 3) rfl (by rw [ei2]; rfl) (by decide) rfl (fun ls hl => ?_)
              refine lv_goto (tgt := 22) hx hb_ dX3_grow_76 (by decide) ?_
              have hG : cGf n_ ee pre jA = cG n_ ee (pre ++ [jA]) := by rw [cGf, if_neg hnm, if_pos hft]
              have ecc : cn + T.length + (cG n_ ee (pre ++ [jA])).length = cn + (T ++ cG n_ ee (pre ++ [jA])).length := by rw [List.length_append]; omega
              rw [ecc] at hw
              refine ihA (jA + 1) i2_ (by rw [ei2]; exact nI_1 jA) (by omega) (by omega) cod14 la15 (T ++ cG n_ ee (pre ++ [jA])) (by rw [rg_fm, hG, hT]) (fun k_ hk => (hc1 k_ (by omega)).trans ((congrFun (show zA (zsI (zsA (zsA (zsA S_ (r_ 12) cod) (r_ 15) f10) (r_ 16) f11) 305 (r_ 10) (nI (cn + T.length))) (r_ 12) = cod from (zA_I.trans ((zA_ne _ _ (cNe hSh (i := 12) (j := 16) (by decide) (by decide) (by decide))).trans ((zA_ne _ _ (cNe hSh (i := 12) (j := 15) (by decide) (by decide) (by decide))).trans (zA_zsA _ _ _))))) k_).trans (hk1 k_ hk))) (fun i_ hi_ => ?_) (fun k_ hk => ?_) _ _ hw ls (lv_sub hl [1, 2, 3, 0] rfl)
              · rcases Nat.lt_or_ge i_ T.length with q_ | q_
                · rw [hc1 (cn + i_) (by omega), congrFun (show zA (zsI (zsA (zsA (zsA S_ (r_ 12) cod) (r_ 15) f10) (r_ 16) f11) 305 (r_ 10) (nI (cn + T.length))) (r_ 12) = cod from (zA_I.trans ((zA_ne _ _ (cNe hSh (i := 12) (j := 16) (by decide) (by decide) (by decide))).trans ((zA_ne _ _ (cNe hSh (i := 12) (j := 15) (by decide) (by decide) (by decide))).trans (zA_zsA _ _ _))))) (cn + i_), hk2 i_ q_, List.getD_eq_getElem?_getD, List.getD_eq_getElem?_getD, List.getElem?_append_left q_]
                · rw [List.length_append] at hi_
                  have := hc2 (i_ - T.length) (by omega)
                  rw [show cn + T.length + (i_ - T.length) = cn + i_ by omega] at this
                  rw [this, List.getD_eq_getElem?_getD, List.getD_eq_getElem?_getD, List.getElem?_append_right q_]
              · rw [hl2 k_ (by rw [List.length_append]; omega), congrFun (show zA (zsI (zsA (zsA (zsA S_ (r_ 12) cod) (r_ 15) f10) (r_ 16) f11) 305 (r_ 10) (nI (cn + T.length))) (r_ 16) = f11 from (zA_I.trans (zA_zsA _ _ _))) k_, hf11, upd_no _ _ (by omega)]; exact hla k_ hk
    exact JA (n_ + 1) 0 0 nI_0.symm (Nat.zero_le _) (by omega) (zA S_ (r_ 12)) (zA S_ (r_ 16)) [] rfl (fun k_ hk => rfl) (fun i_ hi_ => absurd hi_ (Nat.not_lt_zero i_)) hA2 _ _ (by rw [zsA_self, zsA_self, zsA_self, show cn + ([] : List (List Nat)).length = cn from rfl, zsI_self hcc]; exact hw) ls (lv_sub hl [1, 2, 3, 0] rfl)

set_option maxHeartbeats 1000000 in
set_option maxRecDepth 100000 in
theorem c_X3_grow_3 (lau : Launch) (cD : va_G) (cy : Nat → ClassId) (sz_ : Nat) (r_ : Nat → Nat) (S_ : zS) (hSh : ShC S_ r_) (n_ cn ee : Nat) (pre : List Nat) (hd : pre.length + 3 = 8) (hn : n_ ≤ 8) (hlen : pre.length + ee = n_) (hb8 : ∀ x_, x_ ∈ pre → x_ < 8) (hs : zI S_ 306 (r_ 10) = nI n_) (hcc : zI S_ 305 (r_ 10) = nI cn) (hct : cn + (cG n_ ee pre).length ≤ 2100) (hP : ∀ k_, k_ < 8 → zA S_ (r_ 15) k_ = pos pre k_) (hA2 : ∀ k_, k_ < pre.length → zA S_ (r_ 16) k_ = nI (pre.getD k_ 0)) : Met lau yX3_grow wsX3_grow ({ frames := 5, cells := 0, slots := 0, locals := 117 } : Room) (va_Pc [.ref (r_ 10), .int (nI pre.length), .int (cdI pre)] (zPre cD cy S_ sz_)) (va_Qv (fun (S1 : zS) => ∃ cod la : Nat → Int32, S1 = zsI (zsA (zsA (zsA S_ (r_ 12) cod) (r_ 15) (zA S_ (r_ 15))) (r_ 16) la) 305 (r_ 10) (nI (cn + (cG n_ ee pre).length)) ∧ (∀ k_, k_ < cn → cod k_ = zA S_ (r_ 12) k_) ∧ (∀ i_, i_ < (cG n_ ee pre).length → cod (cn + i_) = cdI ((cG n_ ee pre).getD i_ [])) ∧ (∀ k_, k_ < pre.length → la k_ = zA S_ (r_ 16) k_)) (zPost cD cy (zAd cy S_ sz_)) (zAd cy S_ sz_)) 0 0 (zAd cy S_ sz_) := by
  refine z_ofW (cc := cX3_grow) (maxL := 4) (ret := none) (own := RX3) (QQ := fun A_ => va_Qv (fun (S1 : zS) => ∃ cod la : Nat → Int32, S1 = zsI (zsA (zsA (zsA S_ (r_ 12) cod) (r_ 15) (zA S_ (r_ 15))) (r_ 16) la) 305 (r_ 10) (nI (cn + (cG n_ ee pre).length)) ∧ (∀ k_, k_ < cn → cod k_ = zA S_ (r_ 12) k_) ∧ (∀ i_, i_ < (cG n_ ee pre).length → cod (cn + i_) = cdI ((cG n_ ee pre).getD i_ [])) ∧ (∀ k_, k_ < pre.length → la k_ = zA S_ (r_ 16) k_)) (zPost cD cy A_) A_) (by decide) rfl rfl (Nat.le_of_ble_eq_true rfl) ?_
  intro p_ e_ s_ m_ args_ below_ meth_ c_ A_ ls hcf hr hlk hnm hK_ hE hw hA hl
  obtain ⟨hx, hb_, hml, hown, hts⟩ := id hcf
  have hin3 : ∀ w_ ∈ wsX30, w_ ∈ wsX3_grow := fun w_ h_ => (List.mem_cons_of_mem _ (List.mem_append_right _ h_))
  have hl : lv_has ls 4 [(0, .ref (r_ 10)), (1, .int (nI pre.length)), (2, .int (cdI pre))] := hl
  have hSh0 := hSh
  cases ee with
  | zero =>
    refine lv_iload_n hx hb_ dX3_grow_0 rfl (lv_at hl 1 rfl) ?_
    refine lv_aload_n hx hb_ dX3_grow_1 rfl (lv_at hl 0 rfl) ?_
    refine z_get (k := 3) (i := 6) (j := 306) (v := .int (nI n_)) (ref := "FoldedInHalf$Leaves") (C := RX3) (T := TX3) (N := 7) hcf hK_ hw hin3 (cL hSh 10) (cK hSh 10) rfl (by decide) (by decide) rfl rfl (congrArg Value.int hs) (List.mem_of_getElem? (i := 1) rfl) (fun _ h_ => h_) dX3_grow_2 ?_
    refine lv_icmp_ge (tgt := 14) hx hb_ dX3_grow_5 (by decide) (fun c_5 => ?_) (fun c_5 => absurd (nI_le (by omega) (by omega)) c_5)
    refine lv_aload_n hx hb_ dX3_grow_14 rfl (lv_at hl 0 rfl) ?_
    refine lv_iload_n hx hb_ dX3_grow_15 rfl (lv_at hl 2 rfl) ?_
    refine z_kv hw hA (va_runV (As := [.int (cdI pre)]) (rest := []) hcf (c_X3_keep lau cD cy _ r_ S_ hSh cn (cdI pre) (by have := hct; simp [cG] at this; omega) hcc) (cwV 1 hts gX3_grow_X3_keep rfl rfl rfl (by decide +kernel) ⟨Nat.le_of_ble_eq_true rfl, Nat.le_of_ble_eq_true rfl⟩) (z_preV (k := 3) hK_ hE hw (cL hSh 10) (cK hSh 10) (by decide) rfl) rfl rfl hl.1 rfl (lv_room (Nat.le_of_ble_eq_true rfl)) dX3_grow_16 ⟨Nat.le_of_ble_eq_true rfl, Nat.le_of_ble_eq_true rfl⟩) (fun S2 H_ locs_ hp hw => ?_)
    obtain rfl := hp
    obtain ⟨f3_, hf3⟩ : ∃ zz, zz = upd (zA S_ (r_ 12)) cn (cdI pre) := ⟨_, rfl⟩
    rw [← hf3] at hw
    have hSh : ShC (zsI (zsA S_ (r_ 12) f3_) 305 (r_ 10) (nI (cn + 1))) r_ := (sh_IC (sh_AC hSh0))
    exact z_vret hcf hr hlk hw (⟨f3_, zA S_ (r_ 16), by rw [zsA_same (S := zsA S_ (r_ 12) f3_) (a := r_ 15) (zA_ne _ _ (cNe hSh (i := 15) (j := 12) (by decide) (by decide) (by decide))), zsA_same (S := zsA S_ (r_ 12) f3_) (a := r_ 16) (zA_ne _ _ (cNe hSh (i := 16) (j := 12) (by decide) (by decide) (by decide)))]; rfl, fun k_ hk => by rw [hf3, upd_no _ _ (by omega)], fun i_ hi_ => by have e0 : i_ = 0 := (by simp [cG] at hi_; omega); subst e0; rw [hf3]; exact upd_at _ _ _, fun k_ hk => rfl⟩) dX3_grow_19
  | succ ee =>
    refine lv_iload_n hx hb_ dX3_grow_0 rfl (lv_at hl 1 rfl) ?_
    refine lv_aload_n hx hb_ dX3_grow_1 rfl (lv_at hl 0 rfl) ?_
    refine z_get (k := 3) (i := 6) (j := 306) (v := .int (nI n_)) (ref := "FoldedInHalf$Leaves") (C := RX3) (T := TX3) (N := 7) hcf hK_ hw hin3 (cL hSh 10) (cK hSh 10) rfl (by decide) (by decide) rfl rfl (congrArg Value.int hs) (List.mem_of_getElem? (i := 1) rfl) (fun _ h_ => h_) dX3_grow_2 ?_
    refine lv_icmp_ge (tgt := 14) hx hb_ dX3_grow_5 (by decide) (fun c_5 => absurd c_5 (nI_ge (show pre.length < n_ by omega) (by omega))) (fun c_5 => ?_)
    refine lv_iload_n hx hb_ dX3_grow_8 rfl (lv_at hl 1 rfl) ?_
    refine lv_bipush (v := 8) hx hb_ dX3_grow_9 (by decide) ?_
    refine lv_icmp_lt (tgt := 20) hx hb_ dX3_grow_11 (by decide) (fun c_11 => ?_) (fun c_11 => absurd (nI_lt (show pre.length < 8 by omega) (by decide)) c_11)
    refine lv_iconst (v := 0) hx hb_ dX3_grow_20 (by decide) ?_
    refine lv_istore_n (lv' := [(3, .int 0), (0, .ref (r_ 10)), (1, .int (nI pre.length)), (2, .int (cdI pre))]) hx hb_ dX3_grow_21 rfl hl (by decide) rfl (fun ls hl => ?_)
    have JA : ∀ (nA jA : Nat) (iA : Int32), iA = nI jA → jA ≤ n_ → n_ < jA + nA → ∀ (cod la : Nat → Int32) (T : List (List Nat)), T = (List.range jA).flatMap (cGf n_ ee pre) → (∀ k_, k_ < cn → cod k_ = zA S_ (r_ 12) k_) → (∀ i_, i_ < T.length → cod (cn + i_) = cdI (T.getD i_ [])) → (∀ k_, k_ < pre.length → la k_ = nI (pre.getD k_ 0)) → ∀ (H_ : Heap) (locs_ : List Loc), zPw cD cy A_ s_.heap (zsI (zsA (zsA (zsA S_ (r_ 12) cod) (r_ 15) (zA S_ (r_ 15))) (r_ 16) la) 305 (r_ 10) (nI (cn + T.length))) H_ locs_ → ∀ ls : Array Slot, lv_has ls 4 [(0, .ref (r_ 10)), (1, .int (nI pre.length)), (2, .int (cdI pre)), (3, .int iA)] → W p_ lau e_ ({ frames := 5, cells := 0, slots := 0, locals := 117 } : Room) s_ m_ args_ below_ meth_ c_ H_ locs_ 0 0 (MQ below_ (va_Qv (fun (S1 : zS) => ∃ cod la : Nat → Int32, S1 = zsI (zsA (zsA (zsA S_ (r_ 12) cod) (r_ 15) (zA S_ (r_ 15))) (r_ 16) la) 305 (r_ 10) (nI (cn + (cG n_ (ee + 1) pre).length)) ∧ (∀ k_, k_ < cn → cod k_ = zA S_ (r_ 12) k_) ∧ (∀ i_, i_ < (cG n_ (ee + 1) pre).length → cod (cn + i_) = cdI ((cG n_ (ee + 1) pre).getD i_ [])) ∧ (∀ k_, k_ < pre.length → la k_ = zA S_ (r_ 16) k_)) (zPost cD cy A_) A_) args_ s_ 0 0 A_) (F0 m_ 22 ls []) := by
      intro nA
      induction nA with
      | zero => intro jA iA _ hjA h_; exact absurd h_ (by omega)
      | succ nA ihA =>
        intro jA iA eiA hjA hmA cod la T hT hk1 hk2 hla H_ locs_ hw ls hl
        subst eiA
        have hSh : ShC (zsI (zsA (zsA (zsA S_ (r_ 12) cod) (r_ 15) (zA S_ (r_ 15))) (r_ 16) la) 305 (r_ 10) (nI (cn + T.length))) r_ := (sh_IC (sh_AC (sh_AC (sh_AC hSh0))))
        refine lv_iload_n hx hb_ dX3_grow_22 rfl (lv_at hl 3 rfl) ?_
        refine lv_aload_n hx hb_ dX3_grow_23 rfl (lv_at hl 0 rfl) ?_
        refine z_get (k := 3) (i := 6) (j := 306) (v := .int (nI n_)) (ref := "FoldedInHalf$Leaves") (C := RX3) (T := TX3) (N := 7) hcf hK_ hw hin3 (cL hSh 10) (cK hSh 10) rfl (by decide) (by decide) rfl rfl (congrArg Value.int ((zI_nj (by decide)).trans (zI_A.trans (zI_A.trans (zI_A.trans hs))))) (List.mem_of_getElem? (i := 1) rfl) (fun _ h_ => h_) dX3_grow_24 ?_
        refine lv_icmp_ge (tgt := 79) hx hb_ dX3_grow_27 (by decide) (fun c_27 => ?_) (fun c_27 => ?_)
        · exact z_vret hcf hr hlk hw (by have hj : jA = n_ := (by have := zn_ge rfl rfl (by omega) c_27; omega); have hTG : T = cG n_ (ee + 1) pre := (by rw [hT, hj]; rfl); exact ⟨cod, la, by rw [hTG], hk1, by rw [← hTG]; exact hk2, fun k_ hk => (hla k_ hk).trans (hA2 k_ hk).symm⟩) dX3_grow_79
        · have hlt : jA < n_ := zn_lt rfl rfl (by omega) c_27
          have hle : T.length + (cGf n_ ee pre jA).length ≤ (cG n_ (ee + 1) pre).length := by have := rg_le (cGf n_ ee pre) (show jA + 1 ≤ n_ by omega); rw [rg_fm, List.length_append, ← hT, ← cG_eq] at this; exact this
          refine lv_aload_n hx hb_ dX3_grow_30 rfl (lv_at hl 0 rfl) ?_
          refine lv_iload_n hx hb_ dX3_grow_31 rfl (lv_at hl 3 rfl) ?_
          refine z_ki hw hA (va_runV (As := [.int (nI jA)]) (rest := []) hcf (c_X3_placeOfLeaf lau cD cy _ r_ (zsI (zsA (zsA (zsA S_ (r_ 12) cod) (r_ 15) (zA S_ (r_ 15))) (r_ 16) la) 305 (r_ 10) (nI (cn + T.length))) hSh (nI jA)) (cwV 1 hts gX3_grow_X3_placeOfLeaf rfl rfl rfl (by decide +kernel) ⟨Nat.le_of_ble_eq_true rfl, Nat.le_of_ble_eq_true rfl⟩) (z_preV (k := 3) hK_ hE hw (cL hSh 10) (cK hSh 10) (by decide) rfl) rfl rfl hl.1 rfl (lv_room (Nat.le_of_ble_eq_true rfl)) dX3_grow_32 ⟨Nat.le_of_ble_eq_true rfl, Nat.le_of_ble_eq_true rfl⟩) (fun v4 S5 H_ locs_ hp hw => ?_)
          obtain ⟨hv4, rfl⟩ := hp
          have hpv : v4 = pos pre jA := by rw [hv4, pOf_nI (by omega), congrFun (show zA (zsI (zsA (zsA (zsA S_ (r_ 12) cod) (r_ 15) (zA S_ (r_ 15))) (r_ 16) la) 305 (r_ 10) (nI (cn + T.length))) (r_ 15) = (zA S_ (r_ 15)) from (zA_I.trans ((zA_ne _ _ (cNe hSh (i := 15) (j := 16) (by decide) (by decide) (by decide))).trans (zA_zsA _ _ _)))) jA]; exact hP jA (by omega)
          refine lv_iconst (v := (-1)) hx hb_ dX3_grow_35 (by decide) ?_
          refine lv_icmp_ne (tgt := 73) hx hb_ dX3_grow_36 (by decide) (fun c_36 => ?_) (fun c_36 => ?_)
          · obtain ⟨i2_, ei2⟩ : ∃ y_ : Int32, y_ = (nI jA) + 1 := ⟨_, rfl⟩
            refine lv_iinc (v := i2_) (lv' := [(3, .int i2_), (0, .ref (r_ 10)), (1, .int (nI pre.length)), (2, .int (cdI pre))]) hx hb_ dX3_grow_73 hl (k := 3) rfl (by rw [ei2]; rfl) (by decide) rfl (fun ls hl => ?_)
            refine lv_goto (tgt := 22) hx hb_ dX3_grow_76 (by decide) ?_
            have hG : cGf n_ ee pre jA = [] := by rw [cGf, if_pos (Classical.byContradiction fun q_ => c_36 (hpv.trans (pos_no q_)))]
            exact ihA (jA + 1) i2_ (by rw [ei2]; exact nI_1 jA) (by omega) (by omega) cod la T (by rw [rg_fm, hG, List.append_nil]; exact hT) hk1 hk2 hla _ _ hw ls (lv_sub hl [1, 2, 3, 0] rfl)
          · have hnm : jA ∉ pre := fun q_ => pos_in q_ (by omega) (hpv.symm.trans c_36)
            refine lv_aload_n hx hb_ dX3_grow_39 rfl (lv_at hl 0 rfl) ?_
            refine lv_iload_n hx hb_ dX3_grow_40 rfl (lv_at hl 3 rfl) ?_
            refine lv_iload_n hx hb_ dX3_grow_41 rfl (lv_at hl 1 rfl) ?_
            refine z_ki hw hA (va_runV (As := [.int (nI jA), .int (nI pre.length)]) (rest := []) hcf (c_X3_fits lau cD cy _ r_ (zsI (zsA (zsA (zsA S_ (r_ 12) cod) (r_ 15) (zA S_ (r_ 15))) (r_ 16) la) 305 (r_ 10) (nI (cn + T.length))) hSh n_ jA pre (by omega) hn ((zI_nj (by decide)).trans (zI_A.trans (zI_A.trans (zI_A.trans hs)))) (fun k_ hk => (congrFun (show zA (zsI (zsA (zsA (zsA S_ (r_ 12) cod) (r_ 15) (zA S_ (r_ 15))) (r_ 16) la) 305 (r_ 10) (nI (cn + T.length))) (r_ 15) = (zA S_ (r_ 15)) from (zA_I.trans ((zA_ne _ _ (cNe hSh (i := 15) (j := 16) (by decide) (by decide) (by decide))).trans (zA_zsA _ _ _)))) k_).trans (hP k_ hk)) (fun k_ hk => (congrFun (show zA (zsI (zsA (zsA (zsA S_ (r_ 12) cod) (r_ 15) (zA S_ (r_ 15))) (r_ 16) la) 305 (r_ 10) (nI (cn + T.length))) (r_ 16) = la from (zA_I.trans (zA_zsA _ _ _))) k_).trans (hla k_ hk)) hb8 (by omega)) (cwV 2 hts gX3_grow_X3_fits rfl rfl rfl (by decide +kernel) ⟨Nat.le_of_ble_eq_true rfl, Nat.le_of_ble_eq_true rfl⟩) (z_preV (k := 3) hK_ hE hw (cL hSh 10) (cK hSh 10) (by decide) rfl) rfl rfl hl.1 rfl (lv_room (Nat.le_of_ble_eq_true rfl)) dX3_grow_42 ⟨Nat.le_of_ble_eq_true rfl, Nat.le_of_ble_eq_true rfl⟩) (fun v6 S7 H_ locs_ hp hw => ?_)
            obtain ⟨hv6, rfl⟩ := hp
            refine lv_if_eq (tgt := 73) hx hb_ dX3_grow_45 (by decide) (fun c_45 => ?_) (fun c_45 => ?_)
            · obtain ⟨i2_, ei2⟩ : ∃ y_ : Int32, y_ = (nI jA) + 1 := ⟨_, rfl⟩
              refine lv_iinc (v := i2_) (lv' := [(3, .int i2_), (0, .ref (r_ 10)), (1, .int (nI pre.length)), (2, .int (cdI pre))]) hx hb_ dX3_grow_73 hl (k := 3) rfl (by rw [ei2]; rfl) (by decide) rfl (fun ls hl => ?_)
              refine lv_goto (tgt := 22) hx hb_ dX3_grow_76 (by decide) ?_
              have hG : cGf n_ ee pre jA = [] := by unfold cGf; exact (Decidable.em (jA ∈ pre)).elim (fun q_ => if_pos q_) (fun q_ => (if_neg q_).trans (if_neg (fun z_ => by rw [hv6, if_pos z_] at c_45; exact absurd c_45 (by decide))))
              exact ihA (jA + 1) i2_ (by rw [ei2]; exact nI_1 jA) (by omega) (by omega) cod la T (by rw [rg_fm, hG, List.append_nil]; exact hT) hk1 hk2 hla _ _ hw ls (lv_sub hl [1, 2, 3, 0] rfl)
            · have hft : cFit n_ pre jA = true := Classical.byContradiction fun q_ => c_45 (by rw [hv6, if_neg q_])
              refine lv_aload_n hx hb_ dX3_grow_48 rfl (lv_at hl 0 rfl) ?_
              refine lv_iload_n hx hb_ dX3_grow_49 rfl (lv_at hl 3 rfl) ?_
              refine lv_iload_n hx hb_ dX3_grow_50 rfl (lv_at hl 1 rfl) ?_
              refine z_kv hw hA (va_runV (As := [.int (nI jA), .int (nI pre.length)]) (rest := []) hcf (c_X3_lay lau cD cy _ r_ (zsI (zsA (zsA (zsA S_ (r_ 12) cod) (r_ 15) (zA S_ (r_ 15))) (r_ 16) la) 305 (r_ 10) (nI (cn + T.length))) hSh jA pre.length (by omega) (by omega)) (cwV 2 hts gX3_grow_X3_lay rfl rfl rfl (by decide +kernel) ⟨Nat.le_of_ble_eq_true rfl, Nat.le_of_ble_eq_true rfl⟩) (z_preV (k := 3) hK_ hE hw (cL hSh 10) (cK hSh 10) (by decide) rfl) rfl rfl hl.1 rfl (lv_room (Nat.le_of_ble_eq_true rfl)) dX3_grow_51 ⟨Nat.le_of_ble_eq_true rfl, Nat.le_of_ble_eq_true rfl⟩) (fun S9 H_ locs_ hp hw => ?_)
              obtain rfl := hp
              rw [show zA (zsI (zsA (zsA (zsA S_ (r_ 12) cod) (r_ 15) (zA S_ (r_ 15))) (r_ 16) la) 305 (r_ 10) (nI (cn + T.length))) (r_ 15) = _ from (zA_I.trans ((zA_ne _ _ (cNe hSh (i := 15) (j := 16) (by decide) (by decide) (by decide))).trans (zA_zsA _ _ _))), show zA (zsI (zsA (zsA (zsA S_ (r_ 12) cod) (r_ 15) (zA S_ (r_ 15))) (r_ 16) la) 305 (r_ 10) (nI (cn + T.length))) (r_ 16) = _ from (zA_I.trans (zA_zsA _ _ _))] at hw
              obtain ⟨f10, hf10⟩ : ∃ zz, zz = (upd (zA S_ (r_ 15)) jA (nI pre.length)) := ⟨_, rfl⟩
              rw [← hf10] at hw
              rw [zsA_zsI, zsA_comm _ _ _ (cNe hSh (i := 16) (j := 15) (by decide) (by decide) (by decide)), zsA_zsA] at hw
              obtain ⟨f11, hf11⟩ : ∃ zz, zz = (upd la pre.length (nI jA)) := ⟨_, rfl⟩
              rw [← hf11] at hw
              rw [zsA_zsI, zsA_zsA] at hw
              have hSh : ShC (zsI (zsA (zsA (zsA S_ (r_ 12) cod) (r_ 15) f10) (r_ 16) f11) 305 (r_ 10) (nI (cn + T.length))) r_ := (sh_IC (sh_AC (sh_AC (sh_AC hSh0))))
              refine lv_aload_n hx hb_ dX3_grow_54 rfl (lv_at hl 0 rfl) ?_
              refine lv_iload_n hx hb_ dX3_grow_55 rfl (lv_at hl 1 rfl) ?_
              refine lv_iconst (v := 1) hx hb_ dX3_grow_56 (by decide) ?_
              refine lv_iadd hx hb_ dX3_grow_57 ?_
              refine z_topi (y := (nI (pre ++ [jA]).length)) (by rw [nI_1, List.length_append]; rfl) ?_
              refine lv_iload_n hx hb_ dX3_grow_58 rfl (lv_at hl 2 rfl) ?_
              refine lv_iload_n hx hb_ dX3_grow_59 rfl (lv_at hl 3 rfl) ?_
              refine lv_iconst (v := 3) hx hb_ dX3_grow_60 (by decide) ?_
              refine lv_iload_n hx hb_ dX3_grow_61 rfl (lv_at hl 1 rfl) ?_
              refine lv_imul hx hb_ dX3_grow_62 ?_
              refine lv_ishl hx hb_ dX3_grow_63 ?_
              refine lv_ior hx hb_ dX3_grow_64 ?_
              refine z_topi (y := (cdI (pre ++ [jA]))) (cdI_app pre jA) ?_
              refine z_kv hw hA (va_runS (As := [.ref (r_ 10), .int (nI (pre ++ [jA]).length), .int (cdI (pre ++ [jA]))]) (rest := []) hcf (c_X3_grow_2 lau cD cy _ r_ (zsI (zsA (zsA (zsA S_ (r_ 12) cod) (r_ 15) f10) (r_ 16) f11) 305 (r_ 10) (nI (cn + T.length))) hSh n_ (cn + T.length) ee (pre ++ [jA]) (by rw [List.length_append, List.length_singleton]; omega) hn (by rw [List.length_append, List.length_singleton]; omega) (fun x_ hx => (List.mem_append.mp hx).elim (fun q_ => hb8 x_ q_) (fun q_ => by rw [List.mem_singleton] at q_; omega)) ((zI_nj (by decide)).trans (zI_A.trans (zI_A.trans (zI_A.trans hs)))) zI_at (by rw [cGf, if_neg hnm, if_pos hft] at hle; omega) (fun k_ hk => by rw [congrFun (show zA (zsI (zsA (zsA (zsA S_ (r_ 12) cod) (r_ 15) f10) (r_ 16) f11) 305 (r_ 10) (nI (cn + T.length))) (r_ 15) = f10 from (zA_I.trans ((zA_ne _ _ (cNe hSh (i := 15) (j := 16) (by decide) (by decide) (by decide))).trans (zA_zsA _ _ _)))) k_, hf10, pos_app hnm]; exact (Decidable.em (k_ = jA)).elim (fun q_ => by rw [q_, upd_at, if_pos rfl]) (fun q_ => by rw [upd_no _ _ q_, if_neg q_]; exact hP k_ hk)) (fun k_ hk => by rw [congrFun (show zA (zsI (zsA (zsA (zsA S_ (r_ 12) cod) (r_ 15) f10) (r_ 16) f11) 305 (r_ 10) (nI (cn + T.length))) (r_ 16) = f11 from (zA_I.trans (zA_zsA _ _ _))) k_, hf11]; rw [List.length_append, List.length_singleton] at hk; exact (Decidable.em (k_ = pre.length)).elim (fun q_ => by rw [q_, upd_at]; simp [List.getD_eq_getElem?_getD]) (fun q_ => by rw [upd_no _ _ q_, hla k_ (by omega), List.getD_eq_getElem?_getD, List.getD_eq_getElem?_getD, List.getElem?_append_left (by omega)]))) (va_cwS 3 hts gX3_grow_X3_grow rfl rfl rfl (by decide +kernel) ⟨Nat.le_of_ble_eq_true rfl, Nat.le_of_ble_eq_true rfl⟩) (z_preS hK_ hE hw) rfl rfl hl.1 rfl (lv_room (Nat.le_of_ble_eq_true rfl)) dX3_grow_65 ⟨Nat.le_of_ble_eq_true rfl, Nat.le_of_ble_eq_true rfl⟩) (fun S13 H_ locs_ hp hw => ?_)
              obtain ⟨cod14, la15, rfl, hc1, hc2, hl2⟩ := hp
              rw [show zA (zsI (zsA (zsA (zsA S_ (r_ 12) cod) (r_ 15) f10) (r_ 16) f11) 305 (r_ 10) (nI (cn + T.length))) (r_ 15) = _ from (zA_I.trans ((zA_ne _ _ (cNe hSh (i := 15) (j := 16) (by decide) (by decide) (by decide))).trans (zA_zsA _ _ _)))] at hw
              rw [zsA_zsI, zsA_comm _ _ _ (cNe hSh (i := 16) (j := 12) (by decide) (by decide) (by decide)), zsA_comm _ _ _ (cNe hSh (i := 15) (j := 12) (by decide) (by decide) (by decide)), zsA_zsA] at hw
              rw [zsA_zsI, zsA_comm _ _ _ (cNe hSh (i := 16) (j := 15) (by decide) (by decide) (by decide)), zsA_zsA] at hw
              rw [zsA_zsI, zsA_zsA] at hw
              rw [zsI_zsI] at hw
              have hSh : ShC (zsI (zsA (zsA (zsA S_ (r_ 12) cod14) (r_ 15) f10) (r_ 16) la15) 305 (r_ 10) (nI (cn + T.length + (cG n_ ee (pre ++ [jA])).length))) r_ := (sh_IC (sh_AC (sh_AC (sh_AC hSh0))))
              refine lv_aload_n hx hb_ dX3_grow_68 rfl (lv_at hl 0 rfl) ?_
              refine lv_iload_n hx hb_ dX3_grow_69 rfl (lv_at hl 3 rfl) ?_
              refine z_kv hw hA (va_runV (As := [.int (nI jA)]) (rest := []) hcf (c_X3_lift lau cD cy _ r_ (zsI (zsA (zsA (zsA S_ (r_ 12) cod14) (r_ 15) f10) (r_ 16) la15) 305 (r_ 10) (nI (cn + T.length + (cG n_ ee (pre ++ [jA])).length))) hSh jA (by omega)) (cwV 1 hts gX3_grow_X3_lift rfl rfl rfl (by decide +kernel) ⟨Nat.le_of_ble_eq_true rfl, Nat.le_of_ble_eq_true rfl⟩) (z_preV (k := 3) hK_ hE hw (cL hSh 10) (cK hSh 10) (by decide) rfl) rfl rfl hl.1 rfl (lv_room (Nat.le_of_ble_eq_true rfl)) dX3_grow_70 ⟨Nat.le_of_ble_eq_true rfl, Nat.le_of_ble_eq_true rfl⟩) (fun S17 H_ locs_ hp hw => ?_)
              obtain rfl := hp
              rw [show zA (zsI (zsA (zsA (zsA S_ (r_ 12) cod14) (r_ 15) f10) (r_ 16) la15) 305 (r_ 10) (nI (cn + T.length + (cG n_ ee (pre ++ [jA])).length))) (r_ 15) = _ from (zA_I.trans ((zA_ne _ _ (cNe hSh (i := 15) (j := 16) (by decide) (by decide) (by decide))).trans (zA_zsA _ _ _)))] at hw
              obtain ⟨f18, hf18⟩ : ∃ zz, zz = (upd f10 jA (-1)) := ⟨_, rfl⟩
              rw [← hf18] at hw
              rw [zsA_zsI, zsA_comm _ _ _ (cNe hSh (i := 16) (j := 15) (by decide) (by decide) (by decide)), zsA_zsA] at hw
              have hSh : ShC (zsI (zsA (zsA (zsA S_ (r_ 12) cod14) (r_ 15) f18) (r_ 16) la15) 305 (r_ 10) (nI (cn + T.length + (cG n_ ee (pre ++ [jA])).length))) r_ := (sh_IC (sh_AC (sh_AC (sh_AC hSh0))))
              have hpl : f18 = zA S_ (r_ 15) := funext fun k_ => by rw [hf18, hf10]; exact (Decidable.em (k_ = jA)).elim (fun q_ => by rw [q_, upd_at]; exact (pos_no hnm).symm.trans (hP jA (by omega)).symm) (fun q_ => by rw [upd_no _ _ q_, upd_no _ _ q_])
              rw [hpl] at hw
              have hSh : ShC (zsI (zsA (zsA (zsA S_ (r_ 12) cod14) (r_ 15) (zA S_ (r_ 15))) (r_ 16) la15) 305 (r_ 10) (nI (cn + T.length + (cG n_ ee (pre ++ [jA])).length))) r_ := (sh_IC (sh_AC (sh_AC (sh_AC hSh0))))
              obtain ⟨i2_, ei2⟩ : ∃ y_ : Int32, y_ = (nI jA) + 1 := ⟨_, rfl⟩
              refine lv_iinc (v := i2_) (lv' := [(3, .int i2_), (0, .ref (r_ 10)), (1, .int (nI pre.length)), (2, .int (cdI pre))]) hx hb_ dX3_grow_73 hl (k := 3) rfl (by rw [ei2]; rfl) (by decide) rfl (fun ls hl => ?_)
              refine lv_goto (tgt := 22) hx hb_ dX3_grow_76 (by decide) ?_
              have hG : cGf n_ ee pre jA = cG n_ ee (pre ++ [jA]) := by rw [cGf, if_neg hnm, if_pos hft]
              have ecc : cn + T.length + (cG n_ ee (pre ++ [jA])).length = cn + (T ++ cG n_ ee (pre ++ [jA])).length := by rw [List.length_append]; omega
              rw [ecc] at hw
              refine ihA (jA + 1) i2_ (by rw [ei2]; exact nI_1 jA) (by omega) (by omega) cod14 la15 (T ++ cG n_ ee (pre ++ [jA])) (by rw [rg_fm, hG, hT]) (fun k_ hk => (hc1 k_ (by omega)).trans ((congrFun (show zA (zsI (zsA (zsA (zsA S_ (r_ 12) cod) (r_ 15) f10) (r_ 16) f11) 305 (r_ 10) (nI (cn + T.length))) (r_ 12) = cod from (zA_I.trans ((zA_ne _ _ (cNe hSh (i := 12) (j := 16) (by decide) (by decide) (by decide))).trans ((zA_ne _ _ (cNe hSh (i := 12) (j := 15) (by decide) (by decide) (by decide))).trans (zA_zsA _ _ _))))) k_).trans (hk1 k_ hk))) (fun i_ hi_ => ?_) (fun k_ hk => ?_) _ _ hw ls (lv_sub hl [1, 2, 3, 0] rfl)
              · rcases Nat.lt_or_ge i_ T.length with q_ | q_
                · rw [hc1 (cn + i_) (by omega), congrFun (show zA (zsI (zsA (zsA (zsA S_ (r_ 12) cod) (r_ 15) f10) (r_ 16) f11) 305 (r_ 10) (nI (cn + T.length))) (r_ 12) = cod from (zA_I.trans ((zA_ne _ _ (cNe hSh (i := 12) (j := 16) (by decide) (by decide) (by decide))).trans ((zA_ne _ _ (cNe hSh (i := 12) (j := 15) (by decide) (by decide) (by decide))).trans (zA_zsA _ _ _))))) (cn + i_), hk2 i_ q_, List.getD_eq_getElem?_getD, List.getD_eq_getElem?_getD, List.getElem?_append_left q_]
                · rw [List.length_append] at hi_
                  have := hc2 (i_ - T.length) (by omega)
                  rw [show cn + T.length + (i_ - T.length) = cn + i_ by omega] at this
                  rw [this, List.getD_eq_getElem?_getD, List.getD_eq_getElem?_getD, List.getElem?_append_right q_]
              · rw [hl2 k_ (by rw [List.length_append]; omega), congrFun (show zA (zsI (zsA (zsA (zsA S_ (r_ 12) cod) (r_ 15) f10) (r_ 16) f11) 305 (r_ 10) (nI (cn + T.length))) (r_ 16) = f11 from (zA_I.trans (zA_zsA _ _ _))) k_, hf11, upd_no _ _ (by omega)]; exact hla k_ hk
    exact JA (n_ + 1) 0 0 nI_0.symm (Nat.zero_le _) (by omega) (zA S_ (r_ 12)) (zA S_ (r_ 16)) [] rfl (fun k_ hk => rfl) (fun i_ hi_ => absurd hi_ (Nat.not_lt_zero i_)) hA2 _ _ (by rw [zsA_self, zsA_self, zsA_self, show cn + ([] : List (List Nat)).length = cn from rfl, zsI_self hcc]; exact hw) ls (lv_sub hl [1, 2, 3, 0] rfl)

set_option maxHeartbeats 1000000 in
set_option maxRecDepth 100000 in
theorem c_X3_grow_4 (lau : Launch) (cD : va_G) (cy : Nat → ClassId) (sz_ : Nat) (r_ : Nat → Nat) (S_ : zS) (hSh : ShC S_ r_) (n_ cn ee : Nat) (pre : List Nat) (hd : pre.length + 4 = 8) (hn : n_ ≤ 8) (hlen : pre.length + ee = n_) (hb8 : ∀ x_, x_ ∈ pre → x_ < 8) (hs : zI S_ 306 (r_ 10) = nI n_) (hcc : zI S_ 305 (r_ 10) = nI cn) (hct : cn + (cG n_ ee pre).length ≤ 2100) (hP : ∀ k_, k_ < 8 → zA S_ (r_ 15) k_ = pos pre k_) (hA2 : ∀ k_, k_ < pre.length → zA S_ (r_ 16) k_ = nI (pre.getD k_ 0)) : Met lau yX3_grow wsX3_grow ({ frames := 6, cells := 0, slots := 0, locals := 140 } : Room) (va_Pc [.ref (r_ 10), .int (nI pre.length), .int (cdI pre)] (zPre cD cy S_ sz_)) (va_Qv (fun (S1 : zS) => ∃ cod la : Nat → Int32, S1 = zsI (zsA (zsA (zsA S_ (r_ 12) cod) (r_ 15) (zA S_ (r_ 15))) (r_ 16) la) 305 (r_ 10) (nI (cn + (cG n_ ee pre).length)) ∧ (∀ k_, k_ < cn → cod k_ = zA S_ (r_ 12) k_) ∧ (∀ i_, i_ < (cG n_ ee pre).length → cod (cn + i_) = cdI ((cG n_ ee pre).getD i_ [])) ∧ (∀ k_, k_ < pre.length → la k_ = zA S_ (r_ 16) k_)) (zPost cD cy (zAd cy S_ sz_)) (zAd cy S_ sz_)) 0 0 (zAd cy S_ sz_) := by
  refine z_ofW (cc := cX3_grow) (maxL := 4) (ret := none) (own := RX3) (QQ := fun A_ => va_Qv (fun (S1 : zS) => ∃ cod la : Nat → Int32, S1 = zsI (zsA (zsA (zsA S_ (r_ 12) cod) (r_ 15) (zA S_ (r_ 15))) (r_ 16) la) 305 (r_ 10) (nI (cn + (cG n_ ee pre).length)) ∧ (∀ k_, k_ < cn → cod k_ = zA S_ (r_ 12) k_) ∧ (∀ i_, i_ < (cG n_ ee pre).length → cod (cn + i_) = cdI ((cG n_ ee pre).getD i_ [])) ∧ (∀ k_, k_ < pre.length → la k_ = zA S_ (r_ 16) k_)) (zPost cD cy A_) A_) (by decide) rfl rfl (Nat.le_of_ble_eq_true rfl) ?_
  intro p_ e_ s_ m_ args_ below_ meth_ c_ A_ ls hcf hr hlk hnm hK_ hE hw hA hl
  obtain ⟨hx, hb_, hml, hown, hts⟩ := id hcf
  have hin3 : ∀ w_ ∈ wsX30, w_ ∈ wsX3_grow := fun w_ h_ => (List.mem_cons_of_mem _ (List.mem_append_right _ h_))
  have hl : lv_has ls 4 [(0, .ref (r_ 10)), (1, .int (nI pre.length)), (2, .int (cdI pre))] := hl
  have hSh0 := hSh
  cases ee with
  | zero =>
    refine lv_iload_n hx hb_ dX3_grow_0 rfl (lv_at hl 1 rfl) ?_
    refine lv_aload_n hx hb_ dX3_grow_1 rfl (lv_at hl 0 rfl) ?_
    refine z_get (k := 3) (i := 6) (j := 306) (v := .int (nI n_)) (ref := "FoldedInHalf$Leaves") (C := RX3) (T := TX3) (N := 7) hcf hK_ hw hin3 (cL hSh 10) (cK hSh 10) rfl (by decide) (by decide) rfl rfl (congrArg Value.int hs) (List.mem_of_getElem? (i := 1) rfl) (fun _ h_ => h_) dX3_grow_2 ?_
    refine lv_icmp_ge (tgt := 14) hx hb_ dX3_grow_5 (by decide) (fun c_5 => ?_) (fun c_5 => absurd (nI_le (by omega) (by omega)) c_5)
    refine lv_aload_n hx hb_ dX3_grow_14 rfl (lv_at hl 0 rfl) ?_
    refine lv_iload_n hx hb_ dX3_grow_15 rfl (lv_at hl 2 rfl) ?_
    refine z_kv hw hA (va_runV (As := [.int (cdI pre)]) (rest := []) hcf (c_X3_keep lau cD cy _ r_ S_ hSh cn (cdI pre) (by have := hct; simp [cG] at this; omega) hcc) (cwV 1 hts gX3_grow_X3_keep rfl rfl rfl (by decide +kernel) ⟨Nat.le_of_ble_eq_true rfl, Nat.le_of_ble_eq_true rfl⟩) (z_preV (k := 3) hK_ hE hw (cL hSh 10) (cK hSh 10) (by decide) rfl) rfl rfl hl.1 rfl (lv_room (Nat.le_of_ble_eq_true rfl)) dX3_grow_16 ⟨Nat.le_of_ble_eq_true rfl, Nat.le_of_ble_eq_true rfl⟩) (fun S2 H_ locs_ hp hw => ?_)
    obtain rfl := hp
    obtain ⟨f3_, hf3⟩ : ∃ zz, zz = upd (zA S_ (r_ 12)) cn (cdI pre) := ⟨_, rfl⟩
    rw [← hf3] at hw
    have hSh : ShC (zsI (zsA S_ (r_ 12) f3_) 305 (r_ 10) (nI (cn + 1))) r_ := (sh_IC (sh_AC hSh0))
    exact z_vret hcf hr hlk hw (⟨f3_, zA S_ (r_ 16), by rw [zsA_same (S := zsA S_ (r_ 12) f3_) (a := r_ 15) (zA_ne _ _ (cNe hSh (i := 15) (j := 12) (by decide) (by decide) (by decide))), zsA_same (S := zsA S_ (r_ 12) f3_) (a := r_ 16) (zA_ne _ _ (cNe hSh (i := 16) (j := 12) (by decide) (by decide) (by decide)))]; rfl, fun k_ hk => by rw [hf3, upd_no _ _ (by omega)], fun i_ hi_ => by have e0 : i_ = 0 := (by simp [cG] at hi_; omega); subst e0; rw [hf3]; exact upd_at _ _ _, fun k_ hk => rfl⟩) dX3_grow_19
  | succ ee =>
    refine lv_iload_n hx hb_ dX3_grow_0 rfl (lv_at hl 1 rfl) ?_
    refine lv_aload_n hx hb_ dX3_grow_1 rfl (lv_at hl 0 rfl) ?_
    refine z_get (k := 3) (i := 6) (j := 306) (v := .int (nI n_)) (ref := "FoldedInHalf$Leaves") (C := RX3) (T := TX3) (N := 7) hcf hK_ hw hin3 (cL hSh 10) (cK hSh 10) rfl (by decide) (by decide) rfl rfl (congrArg Value.int hs) (List.mem_of_getElem? (i := 1) rfl) (fun _ h_ => h_) dX3_grow_2 ?_
    refine lv_icmp_ge (tgt := 14) hx hb_ dX3_grow_5 (by decide) (fun c_5 => absurd c_5 (nI_ge (show pre.length < n_ by omega) (by omega))) (fun c_5 => ?_)
    refine lv_iload_n hx hb_ dX3_grow_8 rfl (lv_at hl 1 rfl) ?_
    refine lv_bipush (v := 8) hx hb_ dX3_grow_9 (by decide) ?_
    refine lv_icmp_lt (tgt := 20) hx hb_ dX3_grow_11 (by decide) (fun c_11 => ?_) (fun c_11 => absurd (nI_lt (show pre.length < 8 by omega) (by decide)) c_11)
    refine lv_iconst (v := 0) hx hb_ dX3_grow_20 (by decide) ?_
    refine lv_istore_n (lv' := [(3, .int 0), (0, .ref (r_ 10)), (1, .int (nI pre.length)), (2, .int (cdI pre))]) hx hb_ dX3_grow_21 rfl hl (by decide) rfl (fun ls hl => ?_)
    have JA : ∀ (nA jA : Nat) (iA : Int32), iA = nI jA → jA ≤ n_ → n_ < jA + nA → ∀ (cod la : Nat → Int32) (T : List (List Nat)), T = (List.range jA).flatMap (cGf n_ ee pre) → (∀ k_, k_ < cn → cod k_ = zA S_ (r_ 12) k_) → (∀ i_, i_ < T.length → cod (cn + i_) = cdI (T.getD i_ [])) → (∀ k_, k_ < pre.length → la k_ = nI (pre.getD k_ 0)) → ∀ (H_ : Heap) (locs_ : List Loc), zPw cD cy A_ s_.heap (zsI (zsA (zsA (zsA S_ (r_ 12) cod) (r_ 15) (zA S_ (r_ 15))) (r_ 16) la) 305 (r_ 10) (nI (cn + T.length))) H_ locs_ → ∀ ls : Array Slot, lv_has ls 4 [(0, .ref (r_ 10)), (1, .int (nI pre.length)), (2, .int (cdI pre)), (3, .int iA)] → W p_ lau e_ ({ frames := 6, cells := 0, slots := 0, locals := 140 } : Room) s_ m_ args_ below_ meth_ c_ H_ locs_ 0 0 (MQ below_ (va_Qv (fun (S1 : zS) => ∃ cod la : Nat → Int32, S1 = zsI (zsA (zsA (zsA S_ (r_ 12) cod) (r_ 15) (zA S_ (r_ 15))) (r_ 16) la) 305 (r_ 10) (nI (cn + (cG n_ (ee + 1) pre).length)) ∧ (∀ k_, k_ < cn → cod k_ = zA S_ (r_ 12) k_) ∧ (∀ i_, i_ < (cG n_ (ee + 1) pre).length → cod (cn + i_) = cdI ((cG n_ (ee + 1) pre).getD i_ [])) ∧ (∀ k_, k_ < pre.length → la k_ = zA S_ (r_ 16) k_)) (zPost cD cy A_) A_) args_ s_ 0 0 A_) (F0 m_ 22 ls []) := by
      intro nA
      induction nA with
      | zero => intro jA iA _ hjA h_; exact absurd h_ (by omega)
      | succ nA ihA =>
        intro jA iA eiA hjA hmA cod la T hT hk1 hk2 hla H_ locs_ hw ls hl
        subst eiA
        have hSh : ShC (zsI (zsA (zsA (zsA S_ (r_ 12) cod) (r_ 15) (zA S_ (r_ 15))) (r_ 16) la) 305 (r_ 10) (nI (cn + T.length))) r_ := (sh_IC (sh_AC (sh_AC (sh_AC hSh0))))
        refine lv_iload_n hx hb_ dX3_grow_22 rfl (lv_at hl 3 rfl) ?_
        refine lv_aload_n hx hb_ dX3_grow_23 rfl (lv_at hl 0 rfl) ?_
        refine z_get (k := 3) (i := 6) (j := 306) (v := .int (nI n_)) (ref := "FoldedInHalf$Leaves") (C := RX3) (T := TX3) (N := 7) hcf hK_ hw hin3 (cL hSh 10) (cK hSh 10) rfl (by decide) (by decide) rfl rfl (congrArg Value.int ((zI_nj (by decide)).trans (zI_A.trans (zI_A.trans (zI_A.trans hs))))) (List.mem_of_getElem? (i := 1) rfl) (fun _ h_ => h_) dX3_grow_24 ?_
        refine lv_icmp_ge (tgt := 79) hx hb_ dX3_grow_27 (by decide) (fun c_27 => ?_) (fun c_27 => ?_)
        · exact z_vret hcf hr hlk hw (by have hj : jA = n_ := (by have := zn_ge rfl rfl (by omega) c_27; omega); have hTG : T = cG n_ (ee + 1) pre := (by rw [hT, hj]; rfl); exact ⟨cod, la, by rw [hTG], hk1, by rw [← hTG]; exact hk2, fun k_ hk => (hla k_ hk).trans (hA2 k_ hk).symm⟩) dX3_grow_79
        · have hlt : jA < n_ := zn_lt rfl rfl (by omega) c_27
          have hle : T.length + (cGf n_ ee pre jA).length ≤ (cG n_ (ee + 1) pre).length := by have := rg_le (cGf n_ ee pre) (show jA + 1 ≤ n_ by omega); rw [rg_fm, List.length_append, ← hT, ← cG_eq] at this; exact this
          refine lv_aload_n hx hb_ dX3_grow_30 rfl (lv_at hl 0 rfl) ?_
          refine lv_iload_n hx hb_ dX3_grow_31 rfl (lv_at hl 3 rfl) ?_
          refine z_ki hw hA (va_runV (As := [.int (nI jA)]) (rest := []) hcf (c_X3_placeOfLeaf lau cD cy _ r_ (zsI (zsA (zsA (zsA S_ (r_ 12) cod) (r_ 15) (zA S_ (r_ 15))) (r_ 16) la) 305 (r_ 10) (nI (cn + T.length))) hSh (nI jA)) (cwV 1 hts gX3_grow_X3_placeOfLeaf rfl rfl rfl (by decide +kernel) ⟨Nat.le_of_ble_eq_true rfl, Nat.le_of_ble_eq_true rfl⟩) (z_preV (k := 3) hK_ hE hw (cL hSh 10) (cK hSh 10) (by decide) rfl) rfl rfl hl.1 rfl (lv_room (Nat.le_of_ble_eq_true rfl)) dX3_grow_32 ⟨Nat.le_of_ble_eq_true rfl, Nat.le_of_ble_eq_true rfl⟩) (fun v4 S5 H_ locs_ hp hw => ?_)
          obtain ⟨hv4, rfl⟩ := hp
          have hpv : v4 = pos pre jA := by rw [hv4, pOf_nI (by omega), congrFun (show zA (zsI (zsA (zsA (zsA S_ (r_ 12) cod) (r_ 15) (zA S_ (r_ 15))) (r_ 16) la) 305 (r_ 10) (nI (cn + T.length))) (r_ 15) = (zA S_ (r_ 15)) from (zA_I.trans ((zA_ne _ _ (cNe hSh (i := 15) (j := 16) (by decide) (by decide) (by decide))).trans (zA_zsA _ _ _)))) jA]; exact hP jA (by omega)
          refine lv_iconst (v := (-1)) hx hb_ dX3_grow_35 (by decide) ?_
          refine lv_icmp_ne (tgt := 73) hx hb_ dX3_grow_36 (by decide) (fun c_36 => ?_) (fun c_36 => ?_)
          · obtain ⟨i2_, ei2⟩ : ∃ y_ : Int32, y_ = (nI jA) + 1 := ⟨_, rfl⟩
            refine lv_iinc (v := i2_) (lv' := [(3, .int i2_), (0, .ref (r_ 10)), (1, .int (nI pre.length)), (2, .int (cdI pre))]) hx hb_ dX3_grow_73 hl (k := 3) rfl (by rw [ei2]; rfl) (by decide) rfl (fun ls hl => ?_)
            refine lv_goto (tgt := 22) hx hb_ dX3_grow_76 (by decide) ?_
            have hG : cGf n_ ee pre jA = [] := by rw [cGf, if_pos (Classical.byContradiction fun q_ => c_36 (hpv.trans (pos_no q_)))]
            exact ihA (jA + 1) i2_ (by rw [ei2]; exact nI_1 jA) (by omega) (by omega) cod la T (by rw [rg_fm, hG, List.append_nil]; exact hT) hk1 hk2 hla _ _ hw ls (lv_sub hl [1, 2, 3, 0] rfl)
          · have hnm : jA ∉ pre := fun q_ => pos_in q_ (by omega) (hpv.symm.trans c_36)
            refine lv_aload_n hx hb_ dX3_grow_39 rfl (lv_at hl 0 rfl) ?_
            refine lv_iload_n hx hb_ dX3_grow_40 rfl (lv_at hl 3 rfl) ?_
            refine lv_iload_n hx hb_ dX3_grow_41 rfl (lv_at hl 1 rfl) ?_
            refine z_ki hw hA (va_runV (As := [.int (nI jA), .int (nI pre.length)]) (rest := []) hcf (c_X3_fits lau cD cy _ r_ (zsI (zsA (zsA (zsA S_ (r_ 12) cod) (r_ 15) (zA S_ (r_ 15))) (r_ 16) la) 305 (r_ 10) (nI (cn + T.length))) hSh n_ jA pre (by omega) hn ((zI_nj (by decide)).trans (zI_A.trans (zI_A.trans (zI_A.trans hs)))) (fun k_ hk => (congrFun (show zA (zsI (zsA (zsA (zsA S_ (r_ 12) cod) (r_ 15) (zA S_ (r_ 15))) (r_ 16) la) 305 (r_ 10) (nI (cn + T.length))) (r_ 15) = (zA S_ (r_ 15)) from (zA_I.trans ((zA_ne _ _ (cNe hSh (i := 15) (j := 16) (by decide) (by decide) (by decide))).trans (zA_zsA _ _ _)))) k_).trans (hP k_ hk)) (fun k_ hk => (congrFun (show zA (zsI (zsA (zsA (zsA S_ (r_ 12) cod) (r_ 15) (zA S_ (r_ 15))) (r_ 16) la) 305 (r_ 10) (nI (cn + T.length))) (r_ 16) = la from (zA_I.trans (zA_zsA _ _ _))) k_).trans (hla k_ hk)) hb8 (by omega)) (cwV 2 hts gX3_grow_X3_fits rfl rfl rfl (by decide +kernel) ⟨Nat.le_of_ble_eq_true rfl, Nat.le_of_ble_eq_true rfl⟩) (z_preV (k := 3) hK_ hE hw (cL hSh 10) (cK hSh 10) (by decide) rfl) rfl rfl hl.1 rfl (lv_room (Nat.le_of_ble_eq_true rfl)) dX3_grow_42 ⟨Nat.le_of_ble_eq_true rfl, Nat.le_of_ble_eq_true rfl⟩) (fun v6 S7 H_ locs_ hp hw => ?_)
            obtain ⟨hv6, rfl⟩ := hp
            refine lv_if_eq (tgt := 73) hx hb_ dX3_grow_45 (by decide) (fun c_45 => ?_) (fun c_45 => ?_)
            · obtain ⟨i2_, ei2⟩ : ∃ y_ : Int32, y_ = (nI jA) + 1 := ⟨_, rfl⟩
              refine lv_iinc (v := i2_) (lv' := [(3, .int i2_), (0, .ref (r_ 10)), (1, .int (nI pre.length)), (2, .int (cdI pre))]) hx hb_ dX3_grow_73 hl (k := 3) rfl (by rw [ei2]; rfl) (by decide) rfl (fun ls hl => ?_)
              refine lv_goto (tgt := 22) hx hb_ dX3_grow_76 (by decide) ?_
              have hG : cGf n_ ee pre jA = [] := by unfold cGf; exact (Decidable.em (jA ∈ pre)).elim (fun q_ => if_pos q_) (fun q_ => (if_neg q_).trans (if_neg (fun z_ => by rw [hv6, if_pos z_] at c_45; exact absurd c_45 (by decide))))
              exact ihA (jA + 1) i2_ (by rw [ei2]; exact nI_1 jA) (by omega) (by omega) cod la T (by rw [rg_fm, hG, List.append_nil]; exact hT) hk1 hk2 hla _ _ hw ls (lv_sub hl [1, 2, 3, 0] rfl)
            · have hft : cFit n_ pre jA = true := Classical.byContradiction fun q_ => c_45 (by rw [hv6, if_neg q_])
              refine lv_aload_n hx hb_ dX3_grow_48 rfl (lv_at hl 0 rfl) ?_
              refine lv_iload_n hx hb_ dX3_grow_49 rfl (lv_at hl 3 rfl) ?_
              refine lv_iload_n hx hb_ dX3_grow_50 rfl (lv_at hl 1 rfl) ?_
              refine z_kv hw hA (va_runV (As := [.int (nI jA), .int (nI pre.length)]) (rest := []) hcf (c_X3_lay lau cD cy _ r_ (zsI (zsA (zsA (zsA S_ (r_ 12) cod) (r_ 15) (zA S_ (r_ 15))) (r_ 16) la) 305 (r_ 10) (nI (cn + T.length))) hSh jA pre.length (by omega) (by omega)) (cwV 2 hts gX3_grow_X3_lay rfl rfl rfl (by decide +kernel) ⟨Nat.le_of_ble_eq_true rfl, Nat.le_of_ble_eq_true rfl⟩) (z_preV (k := 3) hK_ hE hw (cL hSh 10) (cK hSh 10) (by decide) rfl) rfl rfl hl.1 rfl (lv_room (Nat.le_of_ble_eq_true rfl)) dX3_grow_51 ⟨Nat.le_of_ble_eq_true rfl, Nat.le_of_ble_eq_true rfl⟩) (fun S9 H_ locs_ hp hw => ?_)
              obtain rfl := hp
              rw [show zA (zsI (zsA (zsA (zsA S_ (r_ 12) cod) (r_ 15) (zA S_ (r_ 15))) (r_ 16) la) 305 (r_ 10) (nI (cn + T.length))) (r_ 15) = _ from (zA_I.trans ((zA_ne _ _ (cNe hSh (i := 15) (j := 16) (by decide) (by decide) (by decide))).trans (zA_zsA _ _ _))), show zA (zsI (zsA (zsA (zsA S_ (r_ 12) cod) (r_ 15) (zA S_ (r_ 15))) (r_ 16) la) 305 (r_ 10) (nI (cn + T.length))) (r_ 16) = _ from (zA_I.trans (zA_zsA _ _ _))] at hw
              obtain ⟨f10, hf10⟩ : ∃ zz, zz = (upd (zA S_ (r_ 15)) jA (nI pre.length)) := ⟨_, rfl⟩
              rw [← hf10] at hw
              rw [zsA_zsI, zsA_comm _ _ _ (cNe hSh (i := 16) (j := 15) (by decide) (by decide) (by decide)), zsA_zsA] at hw
              obtain ⟨f11, hf11⟩ : ∃ zz, zz = (upd la pre.length (nI jA)) := ⟨_, rfl⟩
              rw [← hf11] at hw
              rw [zsA_zsI, zsA_zsA] at hw
              have hSh : ShC (zsI (zsA (zsA (zsA S_ (r_ 12) cod) (r_ 15) f10) (r_ 16) f11) 305 (r_ 10) (nI (cn + T.length))) r_ := (sh_IC (sh_AC (sh_AC (sh_AC hSh0))))
              refine lv_aload_n hx hb_ dX3_grow_54 rfl (lv_at hl 0 rfl) ?_
              refine lv_iload_n hx hb_ dX3_grow_55 rfl (lv_at hl 1 rfl) ?_
              refine lv_iconst (v := 1) hx hb_ dX3_grow_56 (by decide) ?_
              refine lv_iadd hx hb_ dX3_grow_57 ?_
              refine z_topi (y := (nI (pre ++ [jA]).length)) (by rw [nI_1, List.length_append]; rfl) ?_
              refine lv_iload_n hx hb_ dX3_grow_58 rfl (lv_at hl 2 rfl) ?_
              refine lv_iload_n hx hb_ dX3_grow_59 rfl (lv_at hl 3 rfl) ?_
              refine lv_iconst (v := 3) hx hb_ dX3_grow_60 (by decide) ?_
              refine lv_iload_n hx hb_ dX3_grow_61 rfl (lv_at hl 1 rfl) ?_
              refine lv_imul hx hb_ dX3_grow_62 ?_
              refine lv_ishl hx hb_ dX3_grow_63 ?_
              refine lv_ior hx hb_ dX3_grow_64 ?_
              refine z_topi (y := (cdI (pre ++ [jA]))) (cdI_app pre jA) ?_
              refine z_kv hw hA (va_runS (As := [.ref (r_ 10), .int (nI (pre ++ [jA]).length), .int (cdI (pre ++ [jA]))]) (rest := []) hcf (c_X3_grow_3 lau cD cy _ r_ (zsI (zsA (zsA (zsA S_ (r_ 12) cod) (r_ 15) f10) (r_ 16) f11) 305 (r_ 10) (nI (cn + T.length))) hSh n_ (cn + T.length) ee (pre ++ [jA]) (by rw [List.length_append, List.length_singleton]; omega) hn (by rw [List.length_append, List.length_singleton]; omega) (fun x_ hx => (List.mem_append.mp hx).elim (fun q_ => hb8 x_ q_) (fun q_ => by rw [List.mem_singleton] at q_; omega)) ((zI_nj (by decide)).trans (zI_A.trans (zI_A.trans (zI_A.trans hs)))) zI_at (by rw [cGf, if_neg hnm, if_pos hft] at hle; omega) (fun k_ hk => by rw [congrFun (show zA (zsI (zsA (zsA (zsA S_ (r_ 12) cod) (r_ 15) f10) (r_ 16) f11) 305 (r_ 10) (nI (cn + T.length))) (r_ 15) = f10 from (zA_I.trans ((zA_ne _ _ (cNe hSh (i := 15) (j := 16) (by decide) (by decide) (by decide))).trans (zA_zsA _ _ _)))) k_, hf10, pos_app hnm]; exact (Decidable.em (k_ = jA)).elim (fun q_ => by rw [q_, upd_at, if_pos rfl]) (fun q_ => by rw [upd_no _ _ q_, if_neg q_]; exact hP k_ hk)) (fun k_ hk => by rw [congrFun (show zA (zsI (zsA (zsA (zsA S_ (r_ 12) cod) (r_ 15) f10) (r_ 16) f11) 305 (r_ 10) (nI (cn + T.length))) (r_ 16) = f11 from (zA_I.trans (zA_zsA _ _ _))) k_, hf11]; rw [List.length_append, List.length_singleton] at hk; exact (Decidable.em (k_ = pre.length)).elim (fun q_ => by rw [q_, upd_at]; simp [List.getD_eq_getElem?_getD]) (fun q_ => by rw [upd_no _ _ q_, hla k_ (by omega), List.getD_eq_getElem?_getD, List.getD_eq_getElem?_getD, List.getElem?_append_left (by omega)]))) (va_cwS 3 hts gX3_grow_X3_grow rfl rfl rfl (by decide +kernel) ⟨Nat.le_of_ble_eq_true rfl, Nat.le_of_ble_eq_true rfl⟩) (z_preS hK_ hE hw) rfl rfl hl.1 rfl (lv_room (Nat.le_of_ble_eq_true rfl)) dX3_grow_65 ⟨Nat.le_of_ble_eq_true rfl, Nat.le_of_ble_eq_true rfl⟩) (fun S13 H_ locs_ hp hw => ?_)
              obtain ⟨cod14, la15, rfl, hc1, hc2, hl2⟩ := hp
              rw [show zA (zsI (zsA (zsA (zsA S_ (r_ 12) cod) (r_ 15) f10) (r_ 16) f11) 305 (r_ 10) (nI (cn + T.length))) (r_ 15) = _ from (zA_I.trans ((zA_ne _ _ (cNe hSh (i := 15) (j := 16) (by decide) (by decide) (by decide))).trans (zA_zsA _ _ _)))] at hw
              rw [zsA_zsI, zsA_comm _ _ _ (cNe hSh (i := 16) (j := 12) (by decide) (by decide) (by decide)), zsA_comm _ _ _ (cNe hSh (i := 15) (j := 12) (by decide) (by decide) (by decide)), zsA_zsA] at hw
              rw [zsA_zsI, zsA_comm _ _ _ (cNe hSh (i := 16) (j := 15) (by decide) (by decide) (by decide)), zsA_zsA] at hw
              rw [zsA_zsI, zsA_zsA] at hw
              rw [zsI_zsI] at hw
              have hSh : ShC (zsI (zsA (zsA (zsA S_ (r_ 12) cod14) (r_ 15) f10) (r_ 16) la15) 305 (r_ 10) (nI (cn + T.length + (cG n_ ee (pre ++ [jA])).length))) r_ := (sh_IC (sh_AC (sh_AC (sh_AC hSh0))))
              refine lv_aload_n hx hb_ dX3_grow_68 rfl (lv_at hl 0 rfl) ?_
              refine lv_iload_n hx hb_ dX3_grow_69 rfl (lv_at hl 3 rfl) ?_
              refine z_kv hw hA (va_runV (As := [.int (nI jA)]) (rest := []) hcf (c_X3_lift lau cD cy _ r_ (zsI (zsA (zsA (zsA S_ (r_ 12) cod14) (r_ 15) f10) (r_ 16) la15) 305 (r_ 10) (nI (cn + T.length + (cG n_ ee (pre ++ [jA])).length))) hSh jA (by omega)) (cwV 1 hts gX3_grow_X3_lift rfl rfl rfl (by decide +kernel) ⟨Nat.le_of_ble_eq_true rfl, Nat.le_of_ble_eq_true rfl⟩) (z_preV (k := 3) hK_ hE hw (cL hSh 10) (cK hSh 10) (by decide) rfl) rfl rfl hl.1 rfl (lv_room (Nat.le_of_ble_eq_true rfl)) dX3_grow_70 ⟨Nat.le_of_ble_eq_true rfl, Nat.le_of_ble_eq_true rfl⟩) (fun S17 H_ locs_ hp hw => ?_)
              obtain rfl := hp
              rw [show zA (zsI (zsA (zsA (zsA S_ (r_ 12) cod14) (r_ 15) f10) (r_ 16) la15) 305 (r_ 10) (nI (cn + T.length + (cG n_ ee (pre ++ [jA])).length))) (r_ 15) = _ from (zA_I.trans ((zA_ne _ _ (cNe hSh (i := 15) (j := 16) (by decide) (by decide) (by decide))).trans (zA_zsA _ _ _)))] at hw
              obtain ⟨f18, hf18⟩ : ∃ zz, zz = (upd f10 jA (-1)) := ⟨_, rfl⟩
              rw [← hf18] at hw
              rw [zsA_zsI, zsA_comm _ _ _ (cNe hSh (i := 16) (j := 15) (by decide) (by decide) (by decide)), zsA_zsA] at hw
              have hSh : ShC (zsI (zsA (zsA (zsA S_ (r_ 12) cod14) (r_ 15) f18) (r_ 16) la15) 305 (r_ 10) (nI (cn + T.length + (cG n_ ee (pre ++ [jA])).length))) r_ := (sh_IC (sh_AC (sh_AC (sh_AC hSh0))))
              have hpl : f18 = zA S_ (r_ 15) := funext fun k_ => by rw [hf18, hf10]; exact (Decidable.em (k_ = jA)).elim (fun q_ => by rw [q_, upd_at]; exact (pos_no hnm).symm.trans (hP jA (by omega)).symm) (fun q_ => by rw [upd_no _ _ q_, upd_no _ _ q_])
              rw [hpl] at hw
              have hSh : ShC (zsI (zsA (zsA (zsA S_ (r_ 12) cod14) (r_ 15) (zA S_ (r_ 15))) (r_ 16) la15) 305 (r_ 10) (nI (cn + T.length + (cG n_ ee (pre ++ [jA])).length))) r_ := (sh_IC (sh_AC (sh_AC (sh_AC hSh0))))
              obtain ⟨i2_, ei2⟩ : ∃ y_ : Int32, y_ = (nI jA) + 1 := ⟨_, rfl⟩
              refine lv_iinc (v := i2_) (lv' := [(3, .int i2_), (0, .ref (r_ 10)), (1, .int (nI pre.length)), (2, .int (cdI pre))]) hx hb_ dX3_grow_73 hl (k := 3) rfl (by rw [ei2]; rfl) (by decide) rfl (fun ls hl => ?_)
              refine lv_goto (tgt := 22) hx hb_ dX3_grow_76 (by decide) ?_
              have hG : cGf n_ ee pre jA = cG n_ ee (pre ++ [jA]) := by rw [cGf, if_neg hnm, if_pos hft]
              have ecc : cn + T.length + (cG n_ ee (pre ++ [jA])).length = cn + (T ++ cG n_ ee (pre ++ [jA])).length := by rw [List.length_append]; omega
              rw [ecc] at hw
              refine ihA (jA + 1) i2_ (by rw [ei2]; exact nI_1 jA) (by omega) (by omega) cod14 la15 (T ++ cG n_ ee (pre ++ [jA])) (by rw [rg_fm, hG, hT]) (fun k_ hk => (hc1 k_ (by omega)).trans ((congrFun (show zA (zsI (zsA (zsA (zsA S_ (r_ 12) cod) (r_ 15) f10) (r_ 16) f11) 305 (r_ 10) (nI (cn + T.length))) (r_ 12) = cod from (zA_I.trans ((zA_ne _ _ (cNe hSh (i := 12) (j := 16) (by decide) (by decide) (by decide))).trans ((zA_ne _ _ (cNe hSh (i := 12) (j := 15) (by decide) (by decide) (by decide))).trans (zA_zsA _ _ _))))) k_).trans (hk1 k_ hk))) (fun i_ hi_ => ?_) (fun k_ hk => ?_) _ _ hw ls (lv_sub hl [1, 2, 3, 0] rfl)
              · rcases Nat.lt_or_ge i_ T.length with q_ | q_
                · rw [hc1 (cn + i_) (by omega), congrFun (show zA (zsI (zsA (zsA (zsA S_ (r_ 12) cod) (r_ 15) f10) (r_ 16) f11) 305 (r_ 10) (nI (cn + T.length))) (r_ 12) = cod from (zA_I.trans ((zA_ne _ _ (cNe hSh (i := 12) (j := 16) (by decide) (by decide) (by decide))).trans ((zA_ne _ _ (cNe hSh (i := 12) (j := 15) (by decide) (by decide) (by decide))).trans (zA_zsA _ _ _))))) (cn + i_), hk2 i_ q_, List.getD_eq_getElem?_getD, List.getD_eq_getElem?_getD, List.getElem?_append_left q_]
                · rw [List.length_append] at hi_
                  have := hc2 (i_ - T.length) (by omega)
                  rw [show cn + T.length + (i_ - T.length) = cn + i_ by omega] at this
                  rw [this, List.getD_eq_getElem?_getD, List.getD_eq_getElem?_getD, List.getElem?_append_right q_]
              · rw [hl2 k_ (by rw [List.length_append]; omega), congrFun (show zA (zsI (zsA (zsA (zsA S_ (r_ 12) cod) (r_ 15) f10) (r_ 16) f11) 305 (r_ 10) (nI (cn + T.length))) (r_ 16) = f11 from (zA_I.trans (zA_zsA _ _ _))) k_, hf11, upd_no _ _ (by omega)]; exact hla k_ hk
    exact JA (n_ + 1) 0 0 nI_0.symm (Nat.zero_le _) (by omega) (zA S_ (r_ 12)) (zA S_ (r_ 16)) [] rfl (fun k_ hk => rfl) (fun i_ hi_ => absurd hi_ (Nat.not_lt_zero i_)) hA2 _ _ (by rw [zsA_self, zsA_self, zsA_self, show cn + ([] : List (List Nat)).length = cn from rfl, zsI_self hcc]; exact hw) ls (lv_sub hl [1, 2, 3, 0] rfl)

set_option maxHeartbeats 1000000 in
set_option maxRecDepth 100000 in
theorem c_X3_grow_5 (lau : Launch) (cD : va_G) (cy : Nat → ClassId) (sz_ : Nat) (r_ : Nat → Nat) (S_ : zS) (hSh : ShC S_ r_) (n_ cn ee : Nat) (pre : List Nat) (hd : pre.length + 5 = 8) (hn : n_ ≤ 8) (hlen : pre.length + ee = n_) (hb8 : ∀ x_, x_ ∈ pre → x_ < 8) (hs : zI S_ 306 (r_ 10) = nI n_) (hcc : zI S_ 305 (r_ 10) = nI cn) (hct : cn + (cG n_ ee pre).length ≤ 2100) (hP : ∀ k_, k_ < 8 → zA S_ (r_ 15) k_ = pos pre k_) (hA2 : ∀ k_, k_ < pre.length → zA S_ (r_ 16) k_ = nI (pre.getD k_ 0)) : Met lau yX3_grow wsX3_grow ({ frames := 7, cells := 0, slots := 0, locals := 163 } : Room) (va_Pc [.ref (r_ 10), .int (nI pre.length), .int (cdI pre)] (zPre cD cy S_ sz_)) (va_Qv (fun (S1 : zS) => ∃ cod la : Nat → Int32, S1 = zsI (zsA (zsA (zsA S_ (r_ 12) cod) (r_ 15) (zA S_ (r_ 15))) (r_ 16) la) 305 (r_ 10) (nI (cn + (cG n_ ee pre).length)) ∧ (∀ k_, k_ < cn → cod k_ = zA S_ (r_ 12) k_) ∧ (∀ i_, i_ < (cG n_ ee pre).length → cod (cn + i_) = cdI ((cG n_ ee pre).getD i_ [])) ∧ (∀ k_, k_ < pre.length → la k_ = zA S_ (r_ 16) k_)) (zPost cD cy (zAd cy S_ sz_)) (zAd cy S_ sz_)) 0 0 (zAd cy S_ sz_) := by
  refine z_ofW (cc := cX3_grow) (maxL := 4) (ret := none) (own := RX3) (QQ := fun A_ => va_Qv (fun (S1 : zS) => ∃ cod la : Nat → Int32, S1 = zsI (zsA (zsA (zsA S_ (r_ 12) cod) (r_ 15) (zA S_ (r_ 15))) (r_ 16) la) 305 (r_ 10) (nI (cn + (cG n_ ee pre).length)) ∧ (∀ k_, k_ < cn → cod k_ = zA S_ (r_ 12) k_) ∧ (∀ i_, i_ < (cG n_ ee pre).length → cod (cn + i_) = cdI ((cG n_ ee pre).getD i_ [])) ∧ (∀ k_, k_ < pre.length → la k_ = zA S_ (r_ 16) k_)) (zPost cD cy A_) A_) (by decide) rfl rfl (Nat.le_of_ble_eq_true rfl) ?_
  intro p_ e_ s_ m_ args_ below_ meth_ c_ A_ ls hcf hr hlk hnm hK_ hE hw hA hl
  obtain ⟨hx, hb_, hml, hown, hts⟩ := id hcf
  have hin3 : ∀ w_ ∈ wsX30, w_ ∈ wsX3_grow := fun w_ h_ => (List.mem_cons_of_mem _ (List.mem_append_right _ h_))
  have hl : lv_has ls 4 [(0, .ref (r_ 10)), (1, .int (nI pre.length)), (2, .int (cdI pre))] := hl
  have hSh0 := hSh
  cases ee with
  | zero =>
    refine lv_iload_n hx hb_ dX3_grow_0 rfl (lv_at hl 1 rfl) ?_
    refine lv_aload_n hx hb_ dX3_grow_1 rfl (lv_at hl 0 rfl) ?_
    refine z_get (k := 3) (i := 6) (j := 306) (v := .int (nI n_)) (ref := "FoldedInHalf$Leaves") (C := RX3) (T := TX3) (N := 7) hcf hK_ hw hin3 (cL hSh 10) (cK hSh 10) rfl (by decide) (by decide) rfl rfl (congrArg Value.int hs) (List.mem_of_getElem? (i := 1) rfl) (fun _ h_ => h_) dX3_grow_2 ?_
    refine lv_icmp_ge (tgt := 14) hx hb_ dX3_grow_5 (by decide) (fun c_5 => ?_) (fun c_5 => absurd (nI_le (by omega) (by omega)) c_5)
    refine lv_aload_n hx hb_ dX3_grow_14 rfl (lv_at hl 0 rfl) ?_
    refine lv_iload_n hx hb_ dX3_grow_15 rfl (lv_at hl 2 rfl) ?_
    refine z_kv hw hA (va_runV (As := [.int (cdI pre)]) (rest := []) hcf (c_X3_keep lau cD cy _ r_ S_ hSh cn (cdI pre) (by have := hct; simp [cG] at this; omega) hcc) (cwV 1 hts gX3_grow_X3_keep rfl rfl rfl (by decide +kernel) ⟨Nat.le_of_ble_eq_true rfl, Nat.le_of_ble_eq_true rfl⟩) (z_preV (k := 3) hK_ hE hw (cL hSh 10) (cK hSh 10) (by decide) rfl) rfl rfl hl.1 rfl (lv_room (Nat.le_of_ble_eq_true rfl)) dX3_grow_16 ⟨Nat.le_of_ble_eq_true rfl, Nat.le_of_ble_eq_true rfl⟩) (fun S2 H_ locs_ hp hw => ?_)
    obtain rfl := hp
    obtain ⟨f3_, hf3⟩ : ∃ zz, zz = upd (zA S_ (r_ 12)) cn (cdI pre) := ⟨_, rfl⟩
    rw [← hf3] at hw
    have hSh : ShC (zsI (zsA S_ (r_ 12) f3_) 305 (r_ 10) (nI (cn + 1))) r_ := (sh_IC (sh_AC hSh0))
    exact z_vret hcf hr hlk hw (⟨f3_, zA S_ (r_ 16), by rw [zsA_same (S := zsA S_ (r_ 12) f3_) (a := r_ 15) (zA_ne _ _ (cNe hSh (i := 15) (j := 12) (by decide) (by decide) (by decide))), zsA_same (S := zsA S_ (r_ 12) f3_) (a := r_ 16) (zA_ne _ _ (cNe hSh (i := 16) (j := 12) (by decide) (by decide) (by decide)))]; rfl, fun k_ hk => by rw [hf3, upd_no _ _ (by omega)], fun i_ hi_ => by have e0 : i_ = 0 := (by simp [cG] at hi_; omega); subst e0; rw [hf3]; exact upd_at _ _ _, fun k_ hk => rfl⟩) dX3_grow_19
  | succ ee =>
    refine lv_iload_n hx hb_ dX3_grow_0 rfl (lv_at hl 1 rfl) ?_
    refine lv_aload_n hx hb_ dX3_grow_1 rfl (lv_at hl 0 rfl) ?_
    refine z_get (k := 3) (i := 6) (j := 306) (v := .int (nI n_)) (ref := "FoldedInHalf$Leaves") (C := RX3) (T := TX3) (N := 7) hcf hK_ hw hin3 (cL hSh 10) (cK hSh 10) rfl (by decide) (by decide) rfl rfl (congrArg Value.int hs) (List.mem_of_getElem? (i := 1) rfl) (fun _ h_ => h_) dX3_grow_2 ?_
    refine lv_icmp_ge (tgt := 14) hx hb_ dX3_grow_5 (by decide) (fun c_5 => absurd c_5 (nI_ge (show pre.length < n_ by omega) (by omega))) (fun c_5 => ?_)
    refine lv_iload_n hx hb_ dX3_grow_8 rfl (lv_at hl 1 rfl) ?_
    refine lv_bipush (v := 8) hx hb_ dX3_grow_9 (by decide) ?_
    refine lv_icmp_lt (tgt := 20) hx hb_ dX3_grow_11 (by decide) (fun c_11 => ?_) (fun c_11 => absurd (nI_lt (show pre.length < 8 by omega) (by decide)) c_11)
    refine lv_iconst (v := 0) hx hb_ dX3_grow_20 (by decide) ?_
    refine lv_istore_n (lv' := [(3, .int 0), (0, .ref (r_ 10)), (1, .int (nI pre.length)), (2, .int (cdI pre))]) hx hb_ dX3_grow_21 rfl hl (by decide) rfl (fun ls hl => ?_)
    have JA : ∀ (nA jA : Nat) (iA : Int32), iA = nI jA → jA ≤ n_ → n_ < jA + nA → ∀ (cod la : Nat → Int32) (T : List (List Nat)), T = (List.range jA).flatMap (cGf n_ ee pre) → (∀ k_, k_ < cn → cod k_ = zA S_ (r_ 12) k_) → (∀ i_, i_ < T.length → cod (cn + i_) = cdI (T.getD i_ [])) → (∀ k_, k_ < pre.length → la k_ = nI (pre.getD k_ 0)) → ∀ (H_ : Heap) (locs_ : List Loc), zPw cD cy A_ s_.heap (zsI (zsA (zsA (zsA S_ (r_ 12) cod) (r_ 15) (zA S_ (r_ 15))) (r_ 16) la) 305 (r_ 10) (nI (cn + T.length))) H_ locs_ → ∀ ls : Array Slot, lv_has ls 4 [(0, .ref (r_ 10)), (1, .int (nI pre.length)), (2, .int (cdI pre)), (3, .int iA)] → W p_ lau e_ ({ frames := 7, cells := 0, slots := 0, locals := 163 } : Room) s_ m_ args_ below_ meth_ c_ H_ locs_ 0 0 (MQ below_ (va_Qv (fun (S1 : zS) => ∃ cod la : Nat → Int32, S1 = zsI (zsA (zsA (zsA S_ (r_ 12) cod) (r_ 15) (zA S_ (r_ 15))) (r_ 16) la) 305 (r_ 10) (nI (cn + (cG n_ (ee + 1) pre).length)) ∧ (∀ k_, k_ < cn → cod k_ = zA S_ (r_ 12) k_) ∧ (∀ i_, i_ < (cG n_ (ee + 1) pre).length → cod (cn + i_) = cdI ((cG n_ (ee + 1) pre).getD i_ [])) ∧ (∀ k_, k_ < pre.length → la k_ = zA S_ (r_ 16) k_)) (zPost cD cy A_) A_) args_ s_ 0 0 A_) (F0 m_ 22 ls []) := by
      intro nA
      induction nA with
      | zero => intro jA iA _ hjA h_; exact absurd h_ (by omega)
      | succ nA ihA =>
        intro jA iA eiA hjA hmA cod la T hT hk1 hk2 hla H_ locs_ hw ls hl
        subst eiA
        have hSh : ShC (zsI (zsA (zsA (zsA S_ (r_ 12) cod) (r_ 15) (zA S_ (r_ 15))) (r_ 16) la) 305 (r_ 10) (nI (cn + T.length))) r_ := (sh_IC (sh_AC (sh_AC (sh_AC hSh0))))
        refine lv_iload_n hx hb_ dX3_grow_22 rfl (lv_at hl 3 rfl) ?_
        refine lv_aload_n hx hb_ dX3_grow_23 rfl (lv_at hl 0 rfl) ?_
        refine z_get (k := 3) (i := 6) (j := 306) (v := .int (nI n_)) (ref := "FoldedInHalf$Leaves") (C := RX3) (T := TX3) (N := 7) hcf hK_ hw hin3 (cL hSh 10) (cK hSh 10) rfl (by decide) (by decide) rfl rfl (congrArg Value.int ((zI_nj (by decide)).trans (zI_A.trans (zI_A.trans (zI_A.trans hs))))) (List.mem_of_getElem? (i := 1) rfl) (fun _ h_ => h_) dX3_grow_24 ?_
        refine lv_icmp_ge (tgt := 79) hx hb_ dX3_grow_27 (by decide) (fun c_27 => ?_) (fun c_27 => ?_)
        · exact z_vret hcf hr hlk hw (by have hj : jA = n_ := (by have := zn_ge rfl rfl (by omega) c_27; omega); have hTG : T = cG n_ (ee + 1) pre := (by rw [hT, hj]; rfl); exact ⟨cod, la, by rw [hTG], hk1, by rw [← hTG]; exact hk2, fun k_ hk => (hla k_ hk).trans (hA2 k_ hk).symm⟩) dX3_grow_79
        · have hlt : jA < n_ := zn_lt rfl rfl (by omega) c_27
          have hle : T.length + (cGf n_ ee pre jA).length ≤ (cG n_ (ee + 1) pre).length := by have := rg_le (cGf n_ ee pre) (show jA + 1 ≤ n_ by omega); rw [rg_fm, List.length_append, ← hT, ← cG_eq] at this; exact this
          refine lv_aload_n hx hb_ dX3_grow_30 rfl (lv_at hl 0 rfl) ?_
          refine lv_iload_n hx hb_ dX3_grow_31 rfl (lv_at hl 3 rfl) ?_
          refine z_ki hw hA (va_runV (As := [.int (nI jA)]) (rest := []) hcf (c_X3_placeOfLeaf lau cD cy _ r_ (zsI (zsA (zsA (zsA S_ (r_ 12) cod) (r_ 15) (zA S_ (r_ 15))) (r_ 16) la) 305 (r_ 10) (nI (cn + T.length))) hSh (nI jA)) (cwV 1 hts gX3_grow_X3_placeOfLeaf rfl rfl rfl (by decide +kernel) ⟨Nat.le_of_ble_eq_true rfl, Nat.le_of_ble_eq_true rfl⟩) (z_preV (k := 3) hK_ hE hw (cL hSh 10) (cK hSh 10) (by decide) rfl) rfl rfl hl.1 rfl (lv_room (Nat.le_of_ble_eq_true rfl)) dX3_grow_32 ⟨Nat.le_of_ble_eq_true rfl, Nat.le_of_ble_eq_true rfl⟩) (fun v4 S5 H_ locs_ hp hw => ?_)
          obtain ⟨hv4, rfl⟩ := hp
          have hpv : v4 = pos pre jA := by rw [hv4, pOf_nI (by omega), congrFun (show zA (zsI (zsA (zsA (zsA S_ (r_ 12) cod) (r_ 15) (zA S_ (r_ 15))) (r_ 16) la) 305 (r_ 10) (nI (cn + T.length))) (r_ 15) = (zA S_ (r_ 15)) from (zA_I.trans ((zA_ne _ _ (cNe hSh (i := 15) (j := 16) (by decide) (by decide) (by decide))).trans (zA_zsA _ _ _)))) jA]; exact hP jA (by omega)
          refine lv_iconst (v := (-1)) hx hb_ dX3_grow_35 (by decide) ?_
          refine lv_icmp_ne (tgt := 73) hx hb_ dX3_grow_36 (by decide) (fun c_36 => ?_) (fun c_36 => ?_)
          · obtain ⟨i2_, ei2⟩ : ∃ y_ : Int32, y_ = (nI jA) + 1 := ⟨_, rfl⟩
            refine lv_iinc (v := i2_) (lv' := [(3, .int i2_), (0, .ref (r_ 10)), (1, .int (nI pre.length)), (2, .int (cdI pre))]) hx hb_ dX3_grow_73 hl (k := 3) rfl (by rw [ei2]; rfl) (by decide) rfl (fun ls hl => ?_)
            refine lv_goto (tgt := 22) hx hb_ dX3_grow_76 (by decide) ?_
            have hG : cGf n_ ee pre jA = [] := by rw [cGf, if_pos (Classical.byContradiction fun q_ => c_36 (hpv.trans (pos_no q_)))]
            exact ihA (jA + 1) i2_ (by rw [ei2]; exact nI_1 jA) (by omega) (by omega) cod la T (by rw [rg_fm, hG, List.append_nil]; exact hT) hk1 hk2 hla _ _ hw ls (lv_sub hl [1, 2, 3, 0] rfl)
          · have hnm : jA ∉ pre := fun q_ => pos_in q_ (by omega) (hpv.symm.trans c_36)
            refine lv_aload_n hx hb_ dX3_grow_39 rfl (lv_at hl 0 rfl) ?_
            refine lv_iload_n hx hb_ dX3_grow_40 rfl (lv_at hl 3 rfl) ?_
            refine lv_iload_n hx hb_ dX3_grow_41 rfl (lv_at hl 1 rfl) ?_
            refine z_ki hw hA (va_runV (As := [.int (nI jA), .int (nI pre.length)]) (rest := []) hcf (c_X3_fits lau cD cy _ r_ (zsI (zsA (zsA (zsA S_ (r_ 12) cod) (r_ 15) (zA S_ (r_ 15))) (r_ 16) la) 305 (r_ 10) (nI (cn + T.length))) hSh n_ jA pre (by omega) hn ((zI_nj (by decide)).trans (zI_A.trans (zI_A.trans (zI_A.trans hs)))) (fun k_ hk => (congrFun (show zA (zsI (zsA (zsA (zsA S_ (r_ 12) cod) (r_ 15) (zA S_ (r_ 15))) (r_ 16) la) 305 (r_ 10) (nI (cn + T.length))) (r_ 15) = (zA S_ (r_ 15)) from (zA_I.trans ((zA_ne _ _ (cNe hSh (i := 15) (j := 16) (by decide) (by decide) (by decide))).trans (zA_zsA _ _ _)))) k_).trans (hP k_ hk)) (fun k_ hk => (congrFun (show zA (zsI (zsA (zsA (zsA S_ (r_ 12) cod) (r_ 15) (zA S_ (r_ 15))) (r_ 16) la) 305 (r_ 10) (nI (cn + T.length))) (r_ 16) = la from (zA_I.trans (zA_zsA _ _ _))) k_).trans (hla k_ hk)) hb8 (by omega)) (cwV 2 hts gX3_grow_X3_fits rfl rfl rfl (by decide +kernel) ⟨Nat.le_of_ble_eq_true rfl, Nat.le_of_ble_eq_true rfl⟩) (z_preV (k := 3) hK_ hE hw (cL hSh 10) (cK hSh 10) (by decide) rfl) rfl rfl hl.1 rfl (lv_room (Nat.le_of_ble_eq_true rfl)) dX3_grow_42 ⟨Nat.le_of_ble_eq_true rfl, Nat.le_of_ble_eq_true rfl⟩) (fun v6 S7 H_ locs_ hp hw => ?_)
            obtain ⟨hv6, rfl⟩ := hp
            refine lv_if_eq (tgt := 73) hx hb_ dX3_grow_45 (by decide) (fun c_45 => ?_) (fun c_45 => ?_)
            · obtain ⟨i2_, ei2⟩ : ∃ y_ : Int32, y_ = (nI jA) + 1 := ⟨_, rfl⟩
              refine lv_iinc (v := i2_) (lv' := [(3, .int i2_), (0, .ref (r_ 10)), (1, .int (nI pre.length)), (2, .int (cdI pre))]) hx hb_ dX3_grow_73 hl (k := 3) rfl (by rw [ei2]; rfl) (by decide) rfl (fun ls hl => ?_)
              refine lv_goto (tgt := 22) hx hb_ dX3_grow_76 (by decide) ?_
              have hG : cGf n_ ee pre jA = [] := by unfold cGf; exact (Decidable.em (jA ∈ pre)).elim (fun q_ => if_pos q_) (fun q_ => (if_neg q_).trans (if_neg (fun z_ => by rw [hv6, if_pos z_] at c_45; exact absurd c_45 (by decide))))
              exact ihA (jA + 1) i2_ (by rw [ei2]; exact nI_1 jA) (by omega) (by omega) cod la T (by rw [rg_fm, hG, List.append_nil]; exact hT) hk1 hk2 hla _ _ hw ls (lv_sub hl [1, 2, 3, 0] rfl)
            · have hft : cFit n_ pre jA = true := Classical.byContradiction fun q_ => c_45 (by rw [hv6, if_neg q_])
              refine lv_aload_n hx hb_ dX3_grow_48 rfl (lv_at hl 0 rfl) ?_
              refine lv_iload_n hx hb_ dX3_grow_49 rfl (lv_at hl 3 rfl) ?_
              refine lv_iload_n hx hb_ dX3_grow_50 rfl (lv_at hl 1 rfl) ?_
              refine z_kv hw hA (va_runV (As := [.int (nI jA), .int (nI pre.length)]) (rest := []) hcf (c_X3_lay lau cD cy _ r_ (zsI (zsA (zsA (zsA S_ (r_ 12) cod) (r_ 15) (zA S_ (r_ 15))) (r_ 16) la) 305 (r_ 10) (nI (cn + T.length))) hSh jA pre.length (by omega) (by omega)) (cwV 2 hts gX3_grow_X3_lay rfl rfl rfl (by decide +kernel) ⟨Nat.le_of_ble_eq_true rfl, Nat.le_of_ble_eq_true rfl⟩) (z_preV (k := 3) hK_ hE hw (cL hSh 10) (cK hSh 10) (by decide) rfl) rfl rfl hl.1 rfl (lv_room (Nat.le_of_ble_eq_true rfl)) dX3_grow_51 ⟨Nat.le_of_ble_eq_true rfl, Nat.le_of_ble_eq_true rfl⟩) (fun S9 H_ locs_ hp hw => ?_)
              obtain rfl := hp
              rw [show zA (zsI (zsA (zsA (zsA S_ (r_ 12) cod) (r_ 15) (zA S_ (r_ 15))) (r_ 16) la) 305 (r_ 10) (nI (cn + T.length))) (r_ 15) = _ from (zA_I.trans ((zA_ne _ _ (cNe hSh (i := 15) (j := 16) (by decide) (by decide) (by decide))).trans (zA_zsA _ _ _))), show zA (zsI (zsA (zsA (zsA S_ (r_ 12) cod) (r_ 15) (zA S_ (r_ 15))) (r_ 16) la) 305 (r_ 10) (nI (cn + T.length))) (r_ 16) = _ from (zA_I.trans (zA_zsA _ _ _))] at hw
              obtain ⟨f10, hf10⟩ : ∃ zz, zz = (upd (zA S_ (r_ 15)) jA (nI pre.length)) := ⟨_, rfl⟩
              rw [← hf10] at hw
              rw [zsA_zsI, zsA_comm _ _ _ (cNe hSh (i := 16) (j := 15) (by decide) (by decide) (by decide)), zsA_zsA] at hw
              obtain ⟨f11, hf11⟩ : ∃ zz, zz = (upd la pre.length (nI jA)) := ⟨_, rfl⟩
              rw [← hf11] at hw
              rw [zsA_zsI, zsA_zsA] at hw
              have hSh : ShC (zsI (zsA (zsA (zsA S_ (r_ 12) cod) (r_ 15) f10) (r_ 16) f11) 305 (r_ 10) (nI (cn + T.length))) r_ := (sh_IC (sh_AC (sh_AC (sh_AC hSh0))))
              refine lv_aload_n hx hb_ dX3_grow_54 rfl (lv_at hl 0 rfl) ?_
              refine lv_iload_n hx hb_ dX3_grow_55 rfl (lv_at hl 1 rfl) ?_
              refine lv_iconst (v := 1) hx hb_ dX3_grow_56 (by decide) ?_
              refine lv_iadd hx hb_ dX3_grow_57 ?_
              refine z_topi (y := (nI (pre ++ [jA]).length)) (by rw [nI_1, List.length_append]; rfl) ?_
              refine lv_iload_n hx hb_ dX3_grow_58 rfl (lv_at hl 2 rfl) ?_
              refine lv_iload_n hx hb_ dX3_grow_59 rfl (lv_at hl 3 rfl) ?_
              refine lv_iconst (v := 3) hx hb_ dX3_grow_60 (by decide) ?_
              refine lv_iload_n hx hb_ dX3_grow_61 rfl (lv_at hl 1 rfl) ?_
              refine lv_imul hx hb_ dX3_grow_62 ?_
              refine lv_ishl hx hb_ dX3_grow_63 ?_
              refine lv_ior hx hb_ dX3_grow_64 ?_
              refine z_topi (y := (cdI (pre ++ [jA]))) (cdI_app pre jA) ?_
              refine z_kv hw hA (va_runS (As := [.ref (r_ 10), .int (nI (pre ++ [jA]).length), .int (cdI (pre ++ [jA]))]) (rest := []) hcf (c_X3_grow_4 lau cD cy _ r_ (zsI (zsA (zsA (zsA S_ (r_ 12) cod) (r_ 15) f10) (r_ 16) f11) 305 (r_ 10) (nI (cn + T.length))) hSh n_ (cn + T.length) ee (pre ++ [jA]) (by rw [List.length_append, List.length_singleton]; omega) hn (by rw [List.length_append, List.length_singleton]; omega) (fun x_ hx => (List.mem_append.mp hx).elim (fun q_ => hb8 x_ q_) (fun q_ => by rw [List.mem_singleton] at q_; omega)) ((zI_nj (by decide)).trans (zI_A.trans (zI_A.trans (zI_A.trans hs)))) zI_at (by rw [cGf, if_neg hnm, if_pos hft] at hle; omega) (fun k_ hk => by rw [congrFun (show zA (zsI (zsA (zsA (zsA S_ (r_ 12) cod) (r_ 15) f10) (r_ 16) f11) 305 (r_ 10) (nI (cn + T.length))) (r_ 15) = f10 from (zA_I.trans ((zA_ne _ _ (cNe hSh (i := 15) (j := 16) (by decide) (by decide) (by decide))).trans (zA_zsA _ _ _)))) k_, hf10, pos_app hnm]; exact (Decidable.em (k_ = jA)).elim (fun q_ => by rw [q_, upd_at, if_pos rfl]) (fun q_ => by rw [upd_no _ _ q_, if_neg q_]; exact hP k_ hk)) (fun k_ hk => by rw [congrFun (show zA (zsI (zsA (zsA (zsA S_ (r_ 12) cod) (r_ 15) f10) (r_ 16) f11) 305 (r_ 10) (nI (cn + T.length))) (r_ 16) = f11 from (zA_I.trans (zA_zsA _ _ _))) k_, hf11]; rw [List.length_append, List.length_singleton] at hk; exact (Decidable.em (k_ = pre.length)).elim (fun q_ => by rw [q_, upd_at]; simp [List.getD_eq_getElem?_getD]) (fun q_ => by rw [upd_no _ _ q_, hla k_ (by omega), List.getD_eq_getElem?_getD, List.getD_eq_getElem?_getD, List.getElem?_append_left (by omega)]))) (va_cwS 3 hts gX3_grow_X3_grow rfl rfl rfl (by decide +kernel) ⟨Nat.le_of_ble_eq_true rfl, Nat.le_of_ble_eq_true rfl⟩) (z_preS hK_ hE hw) rfl rfl hl.1 rfl (lv_room (Nat.le_of_ble_eq_true rfl)) dX3_grow_65 ⟨Nat.le_of_ble_eq_true rfl, Nat.le_of_ble_eq_true rfl⟩) (fun S13 H_ locs_ hp hw => ?_)
              obtain ⟨cod14, la15, rfl, hc1, hc2, hl2⟩ := hp
              rw [show zA (zsI (zsA (zsA (zsA S_ (r_ 12) cod) (r_ 15) f10) (r_ 16) f11) 305 (r_ 10) (nI (cn + T.length))) (r_ 15) = _ from (zA_I.trans ((zA_ne _ _ (cNe hSh (i := 15) (j := 16) (by decide) (by decide) (by decide))).trans (zA_zsA _ _ _)))] at hw
              rw [zsA_zsI, zsA_comm _ _ _ (cNe hSh (i := 16) (j := 12) (by decide) (by decide) (by decide)), zsA_comm _ _ _ (cNe hSh (i := 15) (j := 12) (by decide) (by decide) (by decide)), zsA_zsA] at hw
              rw [zsA_zsI, zsA_comm _ _ _ (cNe hSh (i := 16) (j := 15) (by decide) (by decide) (by decide)), zsA_zsA] at hw
              rw [zsA_zsI, zsA_zsA] at hw
              rw [zsI_zsI] at hw
              have hSh : ShC (zsI (zsA (zsA (zsA S_ (r_ 12) cod14) (r_ 15) f10) (r_ 16) la15) 305 (r_ 10) (nI (cn + T.length + (cG n_ ee (pre ++ [jA])).length))) r_ := (sh_IC (sh_AC (sh_AC (sh_AC hSh0))))
              refine lv_aload_n hx hb_ dX3_grow_68 rfl (lv_at hl 0 rfl) ?_
              refine lv_iload_n hx hb_ dX3_grow_69 rfl (lv_at hl 3 rfl) ?_
              refine z_kv hw hA (va_runV (As := [.int (nI jA)]) (rest := []) hcf (c_X3_lift lau cD cy _ r_ (zsI (zsA (zsA (zsA S_ (r_ 12) cod14) (r_ 15) f10) (r_ 16) la15) 305 (r_ 10) (nI (cn + T.length + (cG n_ ee (pre ++ [jA])).length))) hSh jA (by omega)) (cwV 1 hts gX3_grow_X3_lift rfl rfl rfl (by decide +kernel) ⟨Nat.le_of_ble_eq_true rfl, Nat.le_of_ble_eq_true rfl⟩) (z_preV (k := 3) hK_ hE hw (cL hSh 10) (cK hSh 10) (by decide) rfl) rfl rfl hl.1 rfl (lv_room (Nat.le_of_ble_eq_true rfl)) dX3_grow_70 ⟨Nat.le_of_ble_eq_true rfl, Nat.le_of_ble_eq_true rfl⟩) (fun S17 H_ locs_ hp hw => ?_)
              obtain rfl := hp
              rw [show zA (zsI (zsA (zsA (zsA S_ (r_ 12) cod14) (r_ 15) f10) (r_ 16) la15) 305 (r_ 10) (nI (cn + T.length + (cG n_ ee (pre ++ [jA])).length))) (r_ 15) = _ from (zA_I.trans ((zA_ne _ _ (cNe hSh (i := 15) (j := 16) (by decide) (by decide) (by decide))).trans (zA_zsA _ _ _)))] at hw
              obtain ⟨f18, hf18⟩ : ∃ zz, zz = (upd f10 jA (-1)) := ⟨_, rfl⟩
              rw [← hf18] at hw
              rw [zsA_zsI, zsA_comm _ _ _ (cNe hSh (i := 16) (j := 15) (by decide) (by decide) (by decide)), zsA_zsA] at hw
              have hSh : ShC (zsI (zsA (zsA (zsA S_ (r_ 12) cod14) (r_ 15) f18) (r_ 16) la15) 305 (r_ 10) (nI (cn + T.length + (cG n_ ee (pre ++ [jA])).length))) r_ := (sh_IC (sh_AC (sh_AC (sh_AC hSh0))))
              have hpl : f18 = zA S_ (r_ 15) := funext fun k_ => by rw [hf18, hf10]; exact (Decidable.em (k_ = jA)).elim (fun q_ => by rw [q_, upd_at]; exact (pos_no hnm).symm.trans (hP jA (by omega)).symm) (fun q_ => by rw [upd_no _ _ q_, upd_no _ _ q_])
              rw [hpl] at hw
              have hSh : ShC (zsI (zsA (zsA (zsA S_ (r_ 12) cod14) (r_ 15) (zA S_ (r_ 15))) (r_ 16) la15) 305 (r_ 10) (nI (cn + T.length + (cG n_ ee (pre ++ [jA])).length))) r_ := (sh_IC (sh_AC (sh_AC (sh_AC hSh0))))
              obtain ⟨i2_, ei2⟩ : ∃ y_ : Int32, y_ = (nI jA) + 1 := ⟨_, rfl⟩
              refine lv_iinc (v := i2_) (lv' := [(3, .int i2_), (0, .ref (r_ 10)), (1, .int (nI pre.length)), (2, .int (cdI pre))]) hx hb_ dX3_grow_73 hl (k := 3) rfl (by rw [ei2]; rfl) (by decide) rfl (fun ls hl => ?_)
              refine lv_goto (tgt := 22) hx hb_ dX3_grow_76 (by decide) ?_
              have hG : cGf n_ ee pre jA = cG n_ ee (pre ++ [jA]) := by rw [cGf, if_neg hnm, if_pos hft]
              have ecc : cn + T.length + (cG n_ ee (pre ++ [jA])).length = cn + (T ++ cG n_ ee (pre ++ [jA])).length := by rw [List.length_append]; omega
              rw [ecc] at hw
              refine ihA (jA + 1) i2_ (by rw [ei2]; exact nI_1 jA) (by omega) (by omega) cod14 la15 (T ++ cG n_ ee (pre ++ [jA])) (by rw [rg_fm, hG, hT]) (fun k_ hk => (hc1 k_ (by omega)).trans ((congrFun (show zA (zsI (zsA (zsA (zsA S_ (r_ 12) cod) (r_ 15) f10) (r_ 16) f11) 305 (r_ 10) (nI (cn + T.length))) (r_ 12) = cod from (zA_I.trans ((zA_ne _ _ (cNe hSh (i := 12) (j := 16) (by decide) (by decide) (by decide))).trans ((zA_ne _ _ (cNe hSh (i := 12) (j := 15) (by decide) (by decide) (by decide))).trans (zA_zsA _ _ _))))) k_).trans (hk1 k_ hk))) (fun i_ hi_ => ?_) (fun k_ hk => ?_) _ _ hw ls (lv_sub hl [1, 2, 3, 0] rfl)
              · rcases Nat.lt_or_ge i_ T.length with q_ | q_
                · rw [hc1 (cn + i_) (by omega), congrFun (show zA (zsI (zsA (zsA (zsA S_ (r_ 12) cod) (r_ 15) f10) (r_ 16) f11) 305 (r_ 10) (nI (cn + T.length))) (r_ 12) = cod from (zA_I.trans ((zA_ne _ _ (cNe hSh (i := 12) (j := 16) (by decide) (by decide) (by decide))).trans ((zA_ne _ _ (cNe hSh (i := 12) (j := 15) (by decide) (by decide) (by decide))).trans (zA_zsA _ _ _))))) (cn + i_), hk2 i_ q_, List.getD_eq_getElem?_getD, List.getD_eq_getElem?_getD, List.getElem?_append_left q_]
                · rw [List.length_append] at hi_
                  have := hc2 (i_ - T.length) (by omega)
                  rw [show cn + T.length + (i_ - T.length) = cn + i_ by omega] at this
                  rw [this, List.getD_eq_getElem?_getD, List.getD_eq_getElem?_getD, List.getElem?_append_right q_]
              · rw [hl2 k_ (by rw [List.length_append]; omega), congrFun (show zA (zsI (zsA (zsA (zsA S_ (r_ 12) cod) (r_ 15) f10) (r_ 16) f11) 305 (r_ 10) (nI (cn + T.length))) (r_ 16) = f11 from (zA_I.trans (zA_zsA _ _ _))) k_, hf11, upd_no _ _ (by omega)]; exact hla k_ hk
    exact JA (n_ + 1) 0 0 nI_0.symm (Nat.zero_le _) (by omega) (zA S_ (r_ 12)) (zA S_ (r_ 16)) [] rfl (fun k_ hk => rfl) (fun i_ hi_ => absurd hi_ (Nat.not_lt_zero i_)) hA2 _ _ (by rw [zsA_self, zsA_self, zsA_self, show cn + ([] : List (List Nat)).length = cn from rfl, zsI_self hcc]; exact hw) ls (lv_sub hl [1, 2, 3, 0] rfl)

set_option maxHeartbeats 1000000 in
set_option maxRecDepth 100000 in
theorem c_X3_grow_6 (lau : Launch) (cD : va_G) (cy : Nat → ClassId) (sz_ : Nat) (r_ : Nat → Nat) (S_ : zS) (hSh : ShC S_ r_) (n_ cn ee : Nat) (pre : List Nat) (hd : pre.length + 6 = 8) (hn : n_ ≤ 8) (hlen : pre.length + ee = n_) (hb8 : ∀ x_, x_ ∈ pre → x_ < 8) (hs : zI S_ 306 (r_ 10) = nI n_) (hcc : zI S_ 305 (r_ 10) = nI cn) (hct : cn + (cG n_ ee pre).length ≤ 2100) (hP : ∀ k_, k_ < 8 → zA S_ (r_ 15) k_ = pos pre k_) (hA2 : ∀ k_, k_ < pre.length → zA S_ (r_ 16) k_ = nI (pre.getD k_ 0)) : Met lau yX3_grow wsX3_grow ({ frames := 8, cells := 0, slots := 0, locals := 186 } : Room) (va_Pc [.ref (r_ 10), .int (nI pre.length), .int (cdI pre)] (zPre cD cy S_ sz_)) (va_Qv (fun (S1 : zS) => ∃ cod la : Nat → Int32, S1 = zsI (zsA (zsA (zsA S_ (r_ 12) cod) (r_ 15) (zA S_ (r_ 15))) (r_ 16) la) 305 (r_ 10) (nI (cn + (cG n_ ee pre).length)) ∧ (∀ k_, k_ < cn → cod k_ = zA S_ (r_ 12) k_) ∧ (∀ i_, i_ < (cG n_ ee pre).length → cod (cn + i_) = cdI ((cG n_ ee pre).getD i_ [])) ∧ (∀ k_, k_ < pre.length → la k_ = zA S_ (r_ 16) k_)) (zPost cD cy (zAd cy S_ sz_)) (zAd cy S_ sz_)) 0 0 (zAd cy S_ sz_) := by
  refine z_ofW (cc := cX3_grow) (maxL := 4) (ret := none) (own := RX3) (QQ := fun A_ => va_Qv (fun (S1 : zS) => ∃ cod la : Nat → Int32, S1 = zsI (zsA (zsA (zsA S_ (r_ 12) cod) (r_ 15) (zA S_ (r_ 15))) (r_ 16) la) 305 (r_ 10) (nI (cn + (cG n_ ee pre).length)) ∧ (∀ k_, k_ < cn → cod k_ = zA S_ (r_ 12) k_) ∧ (∀ i_, i_ < (cG n_ ee pre).length → cod (cn + i_) = cdI ((cG n_ ee pre).getD i_ [])) ∧ (∀ k_, k_ < pre.length → la k_ = zA S_ (r_ 16) k_)) (zPost cD cy A_) A_) (by decide) rfl rfl (Nat.le_of_ble_eq_true rfl) ?_
  intro p_ e_ s_ m_ args_ below_ meth_ c_ A_ ls hcf hr hlk hnm hK_ hE hw hA hl
  obtain ⟨hx, hb_, hml, hown, hts⟩ := id hcf
  have hin3 : ∀ w_ ∈ wsX30, w_ ∈ wsX3_grow := fun w_ h_ => (List.mem_cons_of_mem _ (List.mem_append_right _ h_))
  have hl : lv_has ls 4 [(0, .ref (r_ 10)), (1, .int (nI pre.length)), (2, .int (cdI pre))] := hl
  have hSh0 := hSh
  cases ee with
  | zero =>
    refine lv_iload_n hx hb_ dX3_grow_0 rfl (lv_at hl 1 rfl) ?_
    refine lv_aload_n hx hb_ dX3_grow_1 rfl (lv_at hl 0 rfl) ?_
    refine z_get (k := 3) (i := 6) (j := 306) (v := .int (nI n_)) (ref := "FoldedInHalf$Leaves") (C := RX3) (T := TX3) (N := 7) hcf hK_ hw hin3 (cL hSh 10) (cK hSh 10) rfl (by decide) (by decide) rfl rfl (congrArg Value.int hs) (List.mem_of_getElem? (i := 1) rfl) (fun _ h_ => h_) dX3_grow_2 ?_
    refine lv_icmp_ge (tgt := 14) hx hb_ dX3_grow_5 (by decide) (fun c_5 => ?_) (fun c_5 => absurd (nI_le (by omega) (by omega)) c_5)
    refine lv_aload_n hx hb_ dX3_grow_14 rfl (lv_at hl 0 rfl) ?_
    refine lv_iload_n hx hb_ dX3_grow_15 rfl (lv_at hl 2 rfl) ?_
    refine z_kv hw hA (va_runV (As := [.int (cdI pre)]) (rest := []) hcf (c_X3_keep lau cD cy _ r_ S_ hSh cn (cdI pre) (by have := hct; simp [cG] at this; omega) hcc) (cwV 1 hts gX3_grow_X3_keep rfl rfl rfl (by decide +kernel) ⟨Nat.le_of_ble_eq_true rfl, Nat.le_of_ble_eq_true rfl⟩) (z_preV (k := 3) hK_ hE hw (cL hSh 10) (cK hSh 10) (by decide) rfl) rfl rfl hl.1 rfl (lv_room (Nat.le_of_ble_eq_true rfl)) dX3_grow_16 ⟨Nat.le_of_ble_eq_true rfl, Nat.le_of_ble_eq_true rfl⟩) (fun S2 H_ locs_ hp hw => ?_)
    obtain rfl := hp
    obtain ⟨f3_, hf3⟩ : ∃ zz, zz = upd (zA S_ (r_ 12)) cn (cdI pre) := ⟨_, rfl⟩
    rw [← hf3] at hw
    have hSh : ShC (zsI (zsA S_ (r_ 12) f3_) 305 (r_ 10) (nI (cn + 1))) r_ := (sh_IC (sh_AC hSh0))
    exact z_vret hcf hr hlk hw (⟨f3_, zA S_ (r_ 16), by rw [zsA_same (S := zsA S_ (r_ 12) f3_) (a := r_ 15) (zA_ne _ _ (cNe hSh (i := 15) (j := 12) (by decide) (by decide) (by decide))), zsA_same (S := zsA S_ (r_ 12) f3_) (a := r_ 16) (zA_ne _ _ (cNe hSh (i := 16) (j := 12) (by decide) (by decide) (by decide)))]; rfl, fun k_ hk => by rw [hf3, upd_no _ _ (by omega)], fun i_ hi_ => by have e0 : i_ = 0 := (by simp [cG] at hi_; omega); subst e0; rw [hf3]; exact upd_at _ _ _, fun k_ hk => rfl⟩) dX3_grow_19
  | succ ee =>
    refine lv_iload_n hx hb_ dX3_grow_0 rfl (lv_at hl 1 rfl) ?_
    refine lv_aload_n hx hb_ dX3_grow_1 rfl (lv_at hl 0 rfl) ?_
    refine z_get (k := 3) (i := 6) (j := 306) (v := .int (nI n_)) (ref := "FoldedInHalf$Leaves") (C := RX3) (T := TX3) (N := 7) hcf hK_ hw hin3 (cL hSh 10) (cK hSh 10) rfl (by decide) (by decide) rfl rfl (congrArg Value.int hs) (List.mem_of_getElem? (i := 1) rfl) (fun _ h_ => h_) dX3_grow_2 ?_
    refine lv_icmp_ge (tgt := 14) hx hb_ dX3_grow_5 (by decide) (fun c_5 => absurd c_5 (nI_ge (show pre.length < n_ by omega) (by omega))) (fun c_5 => ?_)
    refine lv_iload_n hx hb_ dX3_grow_8 rfl (lv_at hl 1 rfl) ?_
    refine lv_bipush (v := 8) hx hb_ dX3_grow_9 (by decide) ?_
    refine lv_icmp_lt (tgt := 20) hx hb_ dX3_grow_11 (by decide) (fun c_11 => ?_) (fun c_11 => absurd (nI_lt (show pre.length < 8 by omega) (by decide)) c_11)
    refine lv_iconst (v := 0) hx hb_ dX3_grow_20 (by decide) ?_
    refine lv_istore_n (lv' := [(3, .int 0), (0, .ref (r_ 10)), (1, .int (nI pre.length)), (2, .int (cdI pre))]) hx hb_ dX3_grow_21 rfl hl (by decide) rfl (fun ls hl => ?_)
    have JA : ∀ (nA jA : Nat) (iA : Int32), iA = nI jA → jA ≤ n_ → n_ < jA + nA → ∀ (cod la : Nat → Int32) (T : List (List Nat)), T = (List.range jA).flatMap (cGf n_ ee pre) → (∀ k_, k_ < cn → cod k_ = zA S_ (r_ 12) k_) → (∀ i_, i_ < T.length → cod (cn + i_) = cdI (T.getD i_ [])) → (∀ k_, k_ < pre.length → la k_ = nI (pre.getD k_ 0)) → ∀ (H_ : Heap) (locs_ : List Loc), zPw cD cy A_ s_.heap (zsI (zsA (zsA (zsA S_ (r_ 12) cod) (r_ 15) (zA S_ (r_ 15))) (r_ 16) la) 305 (r_ 10) (nI (cn + T.length))) H_ locs_ → ∀ ls : Array Slot, lv_has ls 4 [(0, .ref (r_ 10)), (1, .int (nI pre.length)), (2, .int (cdI pre)), (3, .int iA)] → W p_ lau e_ ({ frames := 8, cells := 0, slots := 0, locals := 186 } : Room) s_ m_ args_ below_ meth_ c_ H_ locs_ 0 0 (MQ below_ (va_Qv (fun (S1 : zS) => ∃ cod la : Nat → Int32, S1 = zsI (zsA (zsA (zsA S_ (r_ 12) cod) (r_ 15) (zA S_ (r_ 15))) (r_ 16) la) 305 (r_ 10) (nI (cn + (cG n_ (ee + 1) pre).length)) ∧ (∀ k_, k_ < cn → cod k_ = zA S_ (r_ 12) k_) ∧ (∀ i_, i_ < (cG n_ (ee + 1) pre).length → cod (cn + i_) = cdI ((cG n_ (ee + 1) pre).getD i_ [])) ∧ (∀ k_, k_ < pre.length → la k_ = zA S_ (r_ 16) k_)) (zPost cD cy A_) A_) args_ s_ 0 0 A_) (F0 m_ 22 ls []) := by
      intro nA
      induction nA with
      | zero => intro jA iA _ hjA h_; exact absurd h_ (by omega)
      | succ nA ihA =>
        intro jA iA eiA hjA hmA cod la T hT hk1 hk2 hla H_ locs_ hw ls hl
        subst eiA
        have hSh : ShC (zsI (zsA (zsA (zsA S_ (r_ 12) cod) (r_ 15) (zA S_ (r_ 15))) (r_ 16) la) 305 (r_ 10) (nI (cn + T.length))) r_ := (sh_IC (sh_AC (sh_AC (sh_AC hSh0))))
        refine lv_iload_n hx hb_ dX3_grow_22 rfl (lv_at hl 3 rfl) ?_
        refine lv_aload_n hx hb_ dX3_grow_23 rfl (lv_at hl 0 rfl) ?_
        refine z_get (k := 3) (i := 6) (j := 306) (v := .int (nI n_)) (ref := "FoldedInHalf$Leaves") (C := RX3) (T := TX3) (N := 7) hcf hK_ hw hin3 (cL hSh 10) (cK hSh 10) rfl (by decide) (by decide) rfl rfl (congrArg Value.int ((zI_nj (by decide)).trans (zI_A.trans (zI_A.trans (zI_A.trans hs))))) (List.mem_of_getElem? (i := 1) rfl) (fun _ h_ => h_) dX3_grow_24 ?_
        refine lv_icmp_ge (tgt := 79) hx hb_ dX3_grow_27 (by decide) (fun c_27 => ?_) (fun c_27 => ?_)
        · exact z_vret hcf hr hlk hw (by have hj : jA = n_ := (by have := zn_ge rfl rfl (by omega) c_27; omega); have hTG : T = cG n_ (ee + 1) pre := (by rw [hT, hj]; rfl); exact ⟨cod, la, by rw [hTG], hk1, by rw [← hTG]; exact hk2, fun k_ hk => (hla k_ hk).trans (hA2 k_ hk).symm⟩) dX3_grow_79
        · have hlt : jA < n_ := zn_lt rfl rfl (by omega) c_27
          have hle : T.length + (cGf n_ ee pre jA).length ≤ (cG n_ (ee + 1) pre).length := by have := rg_le (cGf n_ ee pre) (show jA + 1 ≤ n_ by omega); rw [rg_fm, List.length_append, ← hT, ← cG_eq] at this; exact this
          refine lv_aload_n hx hb_ dX3_grow_30 rfl (lv_at hl 0 rfl) ?_
          refine lv_iload_n hx hb_ dX3_grow_31 rfl (lv_at hl 3 rfl) ?_
          refine z_ki hw hA (va_runV (As := [.int (nI jA)]) (rest := []) hcf (c_X3_placeOfLeaf lau cD cy _ r_ (zsI (zsA (zsA (zsA S_ (r_ 12) cod) (r_ 15) (zA S_ (r_ 15))) (r_ 16) la) 305 (r_ 10) (nI (cn + T.length))) hSh (nI jA)) (cwV 1 hts gX3_grow_X3_placeOfLeaf rfl rfl rfl (by decide +kernel) ⟨Nat.le_of_ble_eq_true rfl, Nat.le_of_ble_eq_true rfl⟩) (z_preV (k := 3) hK_ hE hw (cL hSh 10) (cK hSh 10) (by decide) rfl) rfl rfl hl.1 rfl (lv_room (Nat.le_of_ble_eq_true rfl)) dX3_grow_32 ⟨Nat.le_of_ble_eq_true rfl, Nat.le_of_ble_eq_true rfl⟩) (fun v4 S5 H_ locs_ hp hw => ?_)
          obtain ⟨hv4, rfl⟩ := hp
          have hpv : v4 = pos pre jA := by rw [hv4, pOf_nI (by omega), congrFun (show zA (zsI (zsA (zsA (zsA S_ (r_ 12) cod) (r_ 15) (zA S_ (r_ 15))) (r_ 16) la) 305 (r_ 10) (nI (cn + T.length))) (r_ 15) = (zA S_ (r_ 15)) from (zA_I.trans ((zA_ne _ _ (cNe hSh (i := 15) (j := 16) (by decide) (by decide) (by decide))).trans (zA_zsA _ _ _)))) jA]; exact hP jA (by omega)
          refine lv_iconst (v := (-1)) hx hb_ dX3_grow_35 (by decide) ?_
          refine lv_icmp_ne (tgt := 73) hx hb_ dX3_grow_36 (by decide) (fun c_36 => ?_) (fun c_36 => ?_)
          · obtain ⟨i2_, ei2⟩ : ∃ y_ : Int32, y_ = (nI jA) + 1 := ⟨_, rfl⟩
            refine lv_iinc (v := i2_) (lv' := [(3, .int i2_), (0, .ref (r_ 10)), (1, .int (nI pre.length)), (2, .int (cdI pre))]) hx hb_ dX3_grow_73 hl (k := 3) rfl (by rw [ei2]; rfl) (by decide) rfl (fun ls hl => ?_)
            refine lv_goto (tgt := 22) hx hb_ dX3_grow_76 (by decide) ?_
            have hG : cGf n_ ee pre jA = [] := by rw [cGf, if_pos (Classical.byContradiction fun q_ => c_36 (hpv.trans (pos_no q_)))]
            exact ihA (jA + 1) i2_ (by rw [ei2]; exact nI_1 jA) (by omega) (by omega) cod la T (by rw [rg_fm, hG, List.append_nil]; exact hT) hk1 hk2 hla _ _ hw ls (lv_sub hl [1, 2, 3, 0] rfl)
          · have hnm : jA ∉ pre := fun q_ => pos_in q_ (by omega) (hpv.symm.trans c_36)
            refine lv_aload_n hx hb_ dX3_grow_39 rfl (lv_at hl 0 rfl) ?_
            refine lv_iload_n hx hb_ dX3_grow_40 rfl (lv_at hl 3 rfl) ?_
            refine lv_iload_n hx hb_ dX3_grow_41 rfl (lv_at hl 1 rfl) ?_
            refine z_ki hw hA (va_runV (As := [.int (nI jA), .int (nI pre.length)]) (rest := []) hcf (c_X3_fits lau cD cy _ r_ (zsI (zsA (zsA (zsA S_ (r_ 12) cod) (r_ 15) (zA S_ (r_ 15))) (r_ 16) la) 305 (r_ 10) (nI (cn + T.length))) hSh n_ jA pre (by omega) hn ((zI_nj (by decide)).trans (zI_A.trans (zI_A.trans (zI_A.trans hs)))) (fun k_ hk => (congrFun (show zA (zsI (zsA (zsA (zsA S_ (r_ 12) cod) (r_ 15) (zA S_ (r_ 15))) (r_ 16) la) 305 (r_ 10) (nI (cn + T.length))) (r_ 15) = (zA S_ (r_ 15)) from (zA_I.trans ((zA_ne _ _ (cNe hSh (i := 15) (j := 16) (by decide) (by decide) (by decide))).trans (zA_zsA _ _ _)))) k_).trans (hP k_ hk)) (fun k_ hk => (congrFun (show zA (zsI (zsA (zsA (zsA S_ (r_ 12) cod) (r_ 15) (zA S_ (r_ 15))) (r_ 16) la) 305 (r_ 10) (nI (cn + T.length))) (r_ 16) = la from (zA_I.trans (zA_zsA _ _ _))) k_).trans (hla k_ hk)) hb8 (by omega)) (cwV 2 hts gX3_grow_X3_fits rfl rfl rfl (by decide +kernel) ⟨Nat.le_of_ble_eq_true rfl, Nat.le_of_ble_eq_true rfl⟩) (z_preV (k := 3) hK_ hE hw (cL hSh 10) (cK hSh 10) (by decide) rfl) rfl rfl hl.1 rfl (lv_room (Nat.le_of_ble_eq_true rfl)) dX3_grow_42 ⟨Nat.le_of_ble_eq_true rfl, Nat.le_of_ble_eq_true rfl⟩) (fun v6 S7 H_ locs_ hp hw => ?_)
            obtain ⟨hv6, rfl⟩ := hp
            refine lv_if_eq (tgt := 73) hx hb_ dX3_grow_45 (by decide) (fun c_45 => ?_) (fun c_45 => ?_)
            · obtain ⟨i2_, ei2⟩ : ∃ y_ : Int32, y_ = (nI jA) + 1 := ⟨_, rfl⟩
              refine lv_iinc (v := i2_) (lv' := [(3, .int i2_), (0, .ref (r_ 10)), (1, .int (nI pre.length)), (2, .int (cdI pre))]) hx hb_ dX3_grow_73 hl (k := 3) rfl (by rw [ei2]; rfl) (by decide) rfl (fun ls hl => ?_)
              refine lv_goto (tgt := 22) hx hb_ dX3_grow_76 (by decide) ?_
              have hG : cGf n_ ee pre jA = [] := by unfold cGf; exact (Decidable.em (jA ∈ pre)).elim (fun q_ => if_pos q_) (fun q_ => (if_neg q_).trans (if_neg (fun z_ => by rw [hv6, if_pos z_] at c_45; exact absurd c_45 (by decide))))
              exact ihA (jA + 1) i2_ (by rw [ei2]; exact nI_1 jA) (by omega) (by omega) cod la T (by rw [rg_fm, hG, List.append_nil]; exact hT) hk1 hk2 hla _ _ hw ls (lv_sub hl [1, 2, 3, 0] rfl)
            · have hft : cFit n_ pre jA = true := Classical.byContradiction fun q_ => c_45 (by rw [hv6, if_neg q_])
              refine lv_aload_n hx hb_ dX3_grow_48 rfl (lv_at hl 0 rfl) ?_
              refine lv_iload_n hx hb_ dX3_grow_49 rfl (lv_at hl 3 rfl) ?_
              refine lv_iload_n hx hb_ dX3_grow_50 rfl (lv_at hl 1 rfl) ?_
              refine z_kv hw hA (va_runV (As := [.int (nI jA), .int (nI pre.length)]) (rest := []) hcf (c_X3_lay lau cD cy _ r_ (zsI (zsA (zsA (zsA S_ (r_ 12) cod) (r_ 15) (zA S_ (r_ 15))) (r_ 16) la) 305 (r_ 10) (nI (cn + T.length))) hSh jA pre.length (by omega) (by omega)) (cwV 2 hts gX3_grow_X3_lay rfl rfl rfl (by decide +kernel) ⟨Nat.le_of_ble_eq_true rfl, Nat.le_of_ble_eq_true rfl⟩) (z_preV (k := 3) hK_ hE hw (cL hSh 10) (cK hSh 10) (by decide) rfl) rfl rfl hl.1 rfl (lv_room (Nat.le_of_ble_eq_true rfl)) dX3_grow_51 ⟨Nat.le_of_ble_eq_true rfl, Nat.le_of_ble_eq_true rfl⟩) (fun S9 H_ locs_ hp hw => ?_)
              obtain rfl := hp
              rw [show zA (zsI (zsA (zsA (zsA S_ (r_ 12) cod) (r_ 15) (zA S_ (r_ 15))) (r_ 16) la) 305 (r_ 10) (nI (cn + T.length))) (r_ 15) = _ from (zA_I.trans ((zA_ne _ _ (cNe hSh (i := 15) (j := 16) (by decide) (by decide) (by decide))).trans (zA_zsA _ _ _))), show zA (zsI (zsA (zsA (zsA S_ (r_ 12) cod) (r_ 15) (zA S_ (r_ 15))) (r_ 16) la) 305 (r_ 10) (nI (cn + T.length))) (r_ 16) = _ from (zA_I.trans (zA_zsA _ _ _))] at hw
              obtain ⟨f10, hf10⟩ : ∃ zz, zz = (upd (zA S_ (r_ 15)) jA (nI pre.length)) := ⟨_, rfl⟩
              rw [← hf10] at hw
              rw [zsA_zsI, zsA_comm _ _ _ (cNe hSh (i := 16) (j := 15) (by decide) (by decide) (by decide)), zsA_zsA] at hw
              obtain ⟨f11, hf11⟩ : ∃ zz, zz = (upd la pre.length (nI jA)) := ⟨_, rfl⟩
              rw [← hf11] at hw
              rw [zsA_zsI, zsA_zsA] at hw
              have hSh : ShC (zsI (zsA (zsA (zsA S_ (r_ 12) cod) (r_ 15) f10) (r_ 16) f11) 305 (r_ 10) (nI (cn + T.length))) r_ := (sh_IC (sh_AC (sh_AC (sh_AC hSh0))))
              refine lv_aload_n hx hb_ dX3_grow_54 rfl (lv_at hl 0 rfl) ?_
              refine lv_iload_n hx hb_ dX3_grow_55 rfl (lv_at hl 1 rfl) ?_
              refine lv_iconst (v := 1) hx hb_ dX3_grow_56 (by decide) ?_
              refine lv_iadd hx hb_ dX3_grow_57 ?_
              refine z_topi (y := (nI (pre ++ [jA]).length)) (by rw [nI_1, List.length_append]; rfl) ?_
              refine lv_iload_n hx hb_ dX3_grow_58 rfl (lv_at hl 2 rfl) ?_
              refine lv_iload_n hx hb_ dX3_grow_59 rfl (lv_at hl 3 rfl) ?_
              refine lv_iconst (v := 3) hx hb_ dX3_grow_60 (by decide) ?_
              refine lv_iload_n hx hb_ dX3_grow_61 rfl (lv_at hl 1 rfl) ?_
              refine lv_imul hx hb_ dX3_grow_62 ?_
              refine lv_ishl hx hb_ dX3_grow_63 ?_
              refine lv_ior hx hb_ dX3_grow_64 ?_
              refine z_topi (y := (cdI (pre ++ [jA]))) (cdI_app pre jA) ?_
              refine z_kv hw hA (va_runS (As := [.ref (r_ 10), .int (nI (pre ++ [jA]).length), .int (cdI (pre ++ [jA]))]) (rest := []) hcf (c_X3_grow_5 lau cD cy _ r_ (zsI (zsA (zsA (zsA S_ (r_ 12) cod) (r_ 15) f10) (r_ 16) f11) 305 (r_ 10) (nI (cn + T.length))) hSh n_ (cn + T.length) ee (pre ++ [jA]) (by rw [List.length_append, List.length_singleton]; omega) hn (by rw [List.length_append, List.length_singleton]; omega) (fun x_ hx => (List.mem_append.mp hx).elim (fun q_ => hb8 x_ q_) (fun q_ => by rw [List.mem_singleton] at q_; omega)) ((zI_nj (by decide)).trans (zI_A.trans (zI_A.trans (zI_A.trans hs)))) zI_at (by rw [cGf, if_neg hnm, if_pos hft] at hle; omega) (fun k_ hk => by rw [congrFun (show zA (zsI (zsA (zsA (zsA S_ (r_ 12) cod) (r_ 15) f10) (r_ 16) f11) 305 (r_ 10) (nI (cn + T.length))) (r_ 15) = f10 from (zA_I.trans ((zA_ne _ _ (cNe hSh (i := 15) (j := 16) (by decide) (by decide) (by decide))).trans (zA_zsA _ _ _)))) k_, hf10, pos_app hnm]; exact (Decidable.em (k_ = jA)).elim (fun q_ => by rw [q_, upd_at, if_pos rfl]) (fun q_ => by rw [upd_no _ _ q_, if_neg q_]; exact hP k_ hk)) (fun k_ hk => by rw [congrFun (show zA (zsI (zsA (zsA (zsA S_ (r_ 12) cod) (r_ 15) f10) (r_ 16) f11) 305 (r_ 10) (nI (cn + T.length))) (r_ 16) = f11 from (zA_I.trans (zA_zsA _ _ _))) k_, hf11]; rw [List.length_append, List.length_singleton] at hk; exact (Decidable.em (k_ = pre.length)).elim (fun q_ => by rw [q_, upd_at]; simp [List.getD_eq_getElem?_getD]) (fun q_ => by rw [upd_no _ _ q_, hla k_ (by omega), List.getD_eq_getElem?_getD, List.getD_eq_getElem?_getD, List.getElem?_append_left (by omega)]))) (va_cwS 3 hts gX3_grow_X3_grow rfl rfl rfl (by decide +kernel) ⟨Nat.le_of_ble_eq_true rfl, Nat.le_of_ble_eq_true rfl⟩) (z_preS hK_ hE hw) rfl rfl hl.1 rfl (lv_room (Nat.le_of_ble_eq_true rfl)) dX3_grow_65 ⟨Nat.le_of_ble_eq_true rfl, Nat.le_of_ble_eq_true rfl⟩) (fun S13 H_ locs_ hp hw => ?_)
              obtain ⟨cod14, la15, rfl, hc1, hc2, hl2⟩ := hp
              rw [show zA (zsI (zsA (zsA (zsA S_ (r_ 12) cod) (r_ 15) f10) (r_ 16) f11) 305 (r_ 10) (nI (cn + T.length))) (r_ 15) = _ from (zA_I.trans ((zA_ne _ _ (cNe hSh (i := 15) (j := 16) (by decide) (by decide) (by decide))).trans (zA_zsA _ _ _)))] at hw
              rw [zsA_zsI, zsA_comm _ _ _ (cNe hSh (i := 16) (j := 12) (by decide) (by decide) (by decide)), zsA_comm _ _ _ (cNe hSh (i := 15) (j := 12) (by decide) (by decide) (by decide)), zsA_zsA] at hw
              rw [zsA_zsI, zsA_comm _ _ _ (cNe hSh (i := 16) (j := 15) (by decide) (by decide) (by decide)), zsA_zsA] at hw
              rw [zsA_zsI, zsA_zsA] at hw
              rw [zsI_zsI] at hw
              have hSh : ShC (zsI (zsA (zsA (zsA S_ (r_ 12) cod14) (r_ 15) f10) (r_ 16) la15) 305 (r_ 10) (nI (cn + T.length + (cG n_ ee (pre ++ [jA])).length))) r_ := (sh_IC (sh_AC (sh_AC (sh_AC hSh0))))
              refine lv_aload_n hx hb_ dX3_grow_68 rfl (lv_at hl 0 rfl) ?_
              refine lv_iload_n hx hb_ dX3_grow_69 rfl (lv_at hl 3 rfl) ?_
              refine z_kv hw hA (va_runV (As := [.int (nI jA)]) (rest := []) hcf (c_X3_lift lau cD cy _ r_ (zsI (zsA (zsA (zsA S_ (r_ 12) cod14) (r_ 15) f10) (r_ 16) la15) 305 (r_ 10) (nI (cn + T.length + (cG n_ ee (pre ++ [jA])).length))) hSh jA (by omega)) (cwV 1 hts gX3_grow_X3_lift rfl rfl rfl (by decide +kernel) ⟨Nat.le_of_ble_eq_true rfl, Nat.le_of_ble_eq_true rfl⟩) (z_preV (k := 3) hK_ hE hw (cL hSh 10) (cK hSh 10) (by decide) rfl) rfl rfl hl.1 rfl (lv_room (Nat.le_of_ble_eq_true rfl)) dX3_grow_70 ⟨Nat.le_of_ble_eq_true rfl, Nat.le_of_ble_eq_true rfl⟩) (fun S17 H_ locs_ hp hw => ?_)
              obtain rfl := hp
              rw [show zA (zsI (zsA (zsA (zsA S_ (r_ 12) cod14) (r_ 15) f10) (r_ 16) la15) 305 (r_ 10) (nI (cn + T.length + (cG n_ ee (pre ++ [jA])).length))) (r_ 15) = _ from (zA_I.trans ((zA_ne _ _ (cNe hSh (i := 15) (j := 16) (by decide) (by decide) (by decide))).trans (zA_zsA _ _ _)))] at hw
              obtain ⟨f18, hf18⟩ : ∃ zz, zz = (upd f10 jA (-1)) := ⟨_, rfl⟩
              rw [← hf18] at hw
              rw [zsA_zsI, zsA_comm _ _ _ (cNe hSh (i := 16) (j := 15) (by decide) (by decide) (by decide)), zsA_zsA] at hw
              have hSh : ShC (zsI (zsA (zsA (zsA S_ (r_ 12) cod14) (r_ 15) f18) (r_ 16) la15) 305 (r_ 10) (nI (cn + T.length + (cG n_ ee (pre ++ [jA])).length))) r_ := (sh_IC (sh_AC (sh_AC (sh_AC hSh0))))
              have hpl : f18 = zA S_ (r_ 15) := funext fun k_ => by rw [hf18, hf10]; exact (Decidable.em (k_ = jA)).elim (fun q_ => by rw [q_, upd_at]; exact (pos_no hnm).symm.trans (hP jA (by omega)).symm) (fun q_ => by rw [upd_no _ _ q_, upd_no _ _ q_])
              rw [hpl] at hw
              have hSh : ShC (zsI (zsA (zsA (zsA S_ (r_ 12) cod14) (r_ 15) (zA S_ (r_ 15))) (r_ 16) la15) 305 (r_ 10) (nI (cn + T.length + (cG n_ ee (pre ++ [jA])).length))) r_ := (sh_IC (sh_AC (sh_AC (sh_AC hSh0))))
              obtain ⟨i2_, ei2⟩ : ∃ y_ : Int32, y_ = (nI jA) + 1 := ⟨_, rfl⟩
              refine lv_iinc (v := i2_) (lv' := [(3, .int i2_), (0, .ref (r_ 10)), (1, .int (nI pre.length)), (2, .int (cdI pre))]) hx hb_ dX3_grow_73 hl (k := 3) rfl (by rw [ei2]; rfl) (by decide) rfl (fun ls hl => ?_)
              refine lv_goto (tgt := 22) hx hb_ dX3_grow_76 (by decide) ?_
              have hG : cGf n_ ee pre jA = cG n_ ee (pre ++ [jA]) := by rw [cGf, if_neg hnm, if_pos hft]
              have ecc : cn + T.length + (cG n_ ee (pre ++ [jA])).length = cn + (T ++ cG n_ ee (pre ++ [jA])).length := by rw [List.length_append]; omega
              rw [ecc] at hw
              refine ihA (jA + 1) i2_ (by rw [ei2]; exact nI_1 jA) (by omega) (by omega) cod14 la15 (T ++ cG n_ ee (pre ++ [jA])) (by rw [rg_fm, hG, hT]) (fun k_ hk => (hc1 k_ (by omega)).trans ((congrFun (show zA (zsI (zsA (zsA (zsA S_ (r_ 12) cod) (r_ 15) f10) (r_ 16) f11) 305 (r_ 10) (nI (cn + T.length))) (r_ 12) = cod from (zA_I.trans ((zA_ne _ _ (cNe hSh (i := 12) (j := 16) (by decide) (by decide) (by decide))).trans ((zA_ne _ _ (cNe hSh (i := 12) (j := 15) (by decide) (by decide) (by decide))).trans (zA_zsA _ _ _))))) k_).trans (hk1 k_ hk))) (fun i_ hi_ => ?_) (fun k_ hk => ?_) _ _ hw ls (lv_sub hl [1, 2, 3, 0] rfl)
              · rcases Nat.lt_or_ge i_ T.length with q_ | q_
                · rw [hc1 (cn + i_) (by omega), congrFun (show zA (zsI (zsA (zsA (zsA S_ (r_ 12) cod) (r_ 15) f10) (r_ 16) f11) 305 (r_ 10) (nI (cn + T.length))) (r_ 12) = cod from (zA_I.trans ((zA_ne _ _ (cNe hSh (i := 12) (j := 16) (by decide) (by decide) (by decide))).trans ((zA_ne _ _ (cNe hSh (i := 12) (j := 15) (by decide) (by decide) (by decide))).trans (zA_zsA _ _ _))))) (cn + i_), hk2 i_ q_, List.getD_eq_getElem?_getD, List.getD_eq_getElem?_getD, List.getElem?_append_left q_]
                · rw [List.length_append] at hi_
                  have := hc2 (i_ - T.length) (by omega)
                  rw [show cn + T.length + (i_ - T.length) = cn + i_ by omega] at this
                  rw [this, List.getD_eq_getElem?_getD, List.getD_eq_getElem?_getD, List.getElem?_append_right q_]
              · rw [hl2 k_ (by rw [List.length_append]; omega), congrFun (show zA (zsI (zsA (zsA (zsA S_ (r_ 12) cod) (r_ 15) f10) (r_ 16) f11) 305 (r_ 10) (nI (cn + T.length))) (r_ 16) = f11 from (zA_I.trans (zA_zsA _ _ _))) k_, hf11, upd_no _ _ (by omega)]; exact hla k_ hk
    exact JA (n_ + 1) 0 0 nI_0.symm (Nat.zero_le _) (by omega) (zA S_ (r_ 12)) (zA S_ (r_ 16)) [] rfl (fun k_ hk => rfl) (fun i_ hi_ => absurd hi_ (Nat.not_lt_zero i_)) hA2 _ _ (by rw [zsA_self, zsA_self, zsA_self, show cn + ([] : List (List Nat)).length = cn from rfl, zsI_self hcc]; exact hw) ls (lv_sub hl [1, 2, 3, 0] rfl)

set_option maxHeartbeats 1000000 in
set_option maxRecDepth 100000 in
theorem c_X3_grow_7 (lau : Launch) (cD : va_G) (cy : Nat → ClassId) (sz_ : Nat) (r_ : Nat → Nat) (S_ : zS) (hSh : ShC S_ r_) (n_ cn ee : Nat) (pre : List Nat) (hd : pre.length + 7 = 8) (hn : n_ ≤ 8) (hlen : pre.length + ee = n_) (hb8 : ∀ x_, x_ ∈ pre → x_ < 8) (hs : zI S_ 306 (r_ 10) = nI n_) (hcc : zI S_ 305 (r_ 10) = nI cn) (hct : cn + (cG n_ ee pre).length ≤ 2100) (hP : ∀ k_, k_ < 8 → zA S_ (r_ 15) k_ = pos pre k_) (hA2 : ∀ k_, k_ < pre.length → zA S_ (r_ 16) k_ = nI (pre.getD k_ 0)) : Met lau yX3_grow wsX3_grow ({ frames := 9, cells := 0, slots := 0, locals := 209 } : Room) (va_Pc [.ref (r_ 10), .int (nI pre.length), .int (cdI pre)] (zPre cD cy S_ sz_)) (va_Qv (fun (S1 : zS) => ∃ cod la : Nat → Int32, S1 = zsI (zsA (zsA (zsA S_ (r_ 12) cod) (r_ 15) (zA S_ (r_ 15))) (r_ 16) la) 305 (r_ 10) (nI (cn + (cG n_ ee pre).length)) ∧ (∀ k_, k_ < cn → cod k_ = zA S_ (r_ 12) k_) ∧ (∀ i_, i_ < (cG n_ ee pre).length → cod (cn + i_) = cdI ((cG n_ ee pre).getD i_ [])) ∧ (∀ k_, k_ < pre.length → la k_ = zA S_ (r_ 16) k_)) (zPost cD cy (zAd cy S_ sz_)) (zAd cy S_ sz_)) 0 0 (zAd cy S_ sz_) := by
  refine z_ofW (cc := cX3_grow) (maxL := 4) (ret := none) (own := RX3) (QQ := fun A_ => va_Qv (fun (S1 : zS) => ∃ cod la : Nat → Int32, S1 = zsI (zsA (zsA (zsA S_ (r_ 12) cod) (r_ 15) (zA S_ (r_ 15))) (r_ 16) la) 305 (r_ 10) (nI (cn + (cG n_ ee pre).length)) ∧ (∀ k_, k_ < cn → cod k_ = zA S_ (r_ 12) k_) ∧ (∀ i_, i_ < (cG n_ ee pre).length → cod (cn + i_) = cdI ((cG n_ ee pre).getD i_ [])) ∧ (∀ k_, k_ < pre.length → la k_ = zA S_ (r_ 16) k_)) (zPost cD cy A_) A_) (by decide) rfl rfl (Nat.le_of_ble_eq_true rfl) ?_
  intro p_ e_ s_ m_ args_ below_ meth_ c_ A_ ls hcf hr hlk hnm hK_ hE hw hA hl
  obtain ⟨hx, hb_, hml, hown, hts⟩ := id hcf
  have hin3 : ∀ w_ ∈ wsX30, w_ ∈ wsX3_grow := fun w_ h_ => (List.mem_cons_of_mem _ (List.mem_append_right _ h_))
  have hl : lv_has ls 4 [(0, .ref (r_ 10)), (1, .int (nI pre.length)), (2, .int (cdI pre))] := hl
  have hSh0 := hSh
  cases ee with
  | zero =>
    refine lv_iload_n hx hb_ dX3_grow_0 rfl (lv_at hl 1 rfl) ?_
    refine lv_aload_n hx hb_ dX3_grow_1 rfl (lv_at hl 0 rfl) ?_
    refine z_get (k := 3) (i := 6) (j := 306) (v := .int (nI n_)) (ref := "FoldedInHalf$Leaves") (C := RX3) (T := TX3) (N := 7) hcf hK_ hw hin3 (cL hSh 10) (cK hSh 10) rfl (by decide) (by decide) rfl rfl (congrArg Value.int hs) (List.mem_of_getElem? (i := 1) rfl) (fun _ h_ => h_) dX3_grow_2 ?_
    refine lv_icmp_ge (tgt := 14) hx hb_ dX3_grow_5 (by decide) (fun c_5 => ?_) (fun c_5 => absurd (nI_le (by omega) (by omega)) c_5)
    refine lv_aload_n hx hb_ dX3_grow_14 rfl (lv_at hl 0 rfl) ?_
    refine lv_iload_n hx hb_ dX3_grow_15 rfl (lv_at hl 2 rfl) ?_
    refine z_kv hw hA (va_runV (As := [.int (cdI pre)]) (rest := []) hcf (c_X3_keep lau cD cy _ r_ S_ hSh cn (cdI pre) (by have := hct; simp [cG] at this; omega) hcc) (cwV 1 hts gX3_grow_X3_keep rfl rfl rfl (by decide +kernel) ⟨Nat.le_of_ble_eq_true rfl, Nat.le_of_ble_eq_true rfl⟩) (z_preV (k := 3) hK_ hE hw (cL hSh 10) (cK hSh 10) (by decide) rfl) rfl rfl hl.1 rfl (lv_room (Nat.le_of_ble_eq_true rfl)) dX3_grow_16 ⟨Nat.le_of_ble_eq_true rfl, Nat.le_of_ble_eq_true rfl⟩) (fun S2 H_ locs_ hp hw => ?_)
    obtain rfl := hp
    obtain ⟨f3_, hf3⟩ : ∃ zz, zz = upd (zA S_ (r_ 12)) cn (cdI pre) := ⟨_, rfl⟩
    rw [← hf3] at hw
    have hSh : ShC (zsI (zsA S_ (r_ 12) f3_) 305 (r_ 10) (nI (cn + 1))) r_ := (sh_IC (sh_AC hSh0))
    exact z_vret hcf hr hlk hw (⟨f3_, zA S_ (r_ 16), by rw [zsA_same (S := zsA S_ (r_ 12) f3_) (a := r_ 15) (zA_ne _ _ (cNe hSh (i := 15) (j := 12) (by decide) (by decide) (by decide))), zsA_same (S := zsA S_ (r_ 12) f3_) (a := r_ 16) (zA_ne _ _ (cNe hSh (i := 16) (j := 12) (by decide) (by decide) (by decide)))]; rfl, fun k_ hk => by rw [hf3, upd_no _ _ (by omega)], fun i_ hi_ => by have e0 : i_ = 0 := (by simp [cG] at hi_; omega); subst e0; rw [hf3]; exact upd_at _ _ _, fun k_ hk => rfl⟩) dX3_grow_19
  | succ ee =>
    refine lv_iload_n hx hb_ dX3_grow_0 rfl (lv_at hl 1 rfl) ?_
    refine lv_aload_n hx hb_ dX3_grow_1 rfl (lv_at hl 0 rfl) ?_
    refine z_get (k := 3) (i := 6) (j := 306) (v := .int (nI n_)) (ref := "FoldedInHalf$Leaves") (C := RX3) (T := TX3) (N := 7) hcf hK_ hw hin3 (cL hSh 10) (cK hSh 10) rfl (by decide) (by decide) rfl rfl (congrArg Value.int hs) (List.mem_of_getElem? (i := 1) rfl) (fun _ h_ => h_) dX3_grow_2 ?_
    refine lv_icmp_ge (tgt := 14) hx hb_ dX3_grow_5 (by decide) (fun c_5 => absurd c_5 (nI_ge (show pre.length < n_ by omega) (by omega))) (fun c_5 => ?_)
    refine lv_iload_n hx hb_ dX3_grow_8 rfl (lv_at hl 1 rfl) ?_
    refine lv_bipush (v := 8) hx hb_ dX3_grow_9 (by decide) ?_
    refine lv_icmp_lt (tgt := 20) hx hb_ dX3_grow_11 (by decide) (fun c_11 => ?_) (fun c_11 => absurd (nI_lt (show pre.length < 8 by omega) (by decide)) c_11)
    refine lv_iconst (v := 0) hx hb_ dX3_grow_20 (by decide) ?_
    refine lv_istore_n (lv' := [(3, .int 0), (0, .ref (r_ 10)), (1, .int (nI pre.length)), (2, .int (cdI pre))]) hx hb_ dX3_grow_21 rfl hl (by decide) rfl (fun ls hl => ?_)
    have JA : ∀ (nA jA : Nat) (iA : Int32), iA = nI jA → jA ≤ n_ → n_ < jA + nA → ∀ (cod la : Nat → Int32) (T : List (List Nat)), T = (List.range jA).flatMap (cGf n_ ee pre) → (∀ k_, k_ < cn → cod k_ = zA S_ (r_ 12) k_) → (∀ i_, i_ < T.length → cod (cn + i_) = cdI (T.getD i_ [])) → (∀ k_, k_ < pre.length → la k_ = nI (pre.getD k_ 0)) → ∀ (H_ : Heap) (locs_ : List Loc), zPw cD cy A_ s_.heap (zsI (zsA (zsA (zsA S_ (r_ 12) cod) (r_ 15) (zA S_ (r_ 15))) (r_ 16) la) 305 (r_ 10) (nI (cn + T.length))) H_ locs_ → ∀ ls : Array Slot, lv_has ls 4 [(0, .ref (r_ 10)), (1, .int (nI pre.length)), (2, .int (cdI pre)), (3, .int iA)] → W p_ lau e_ ({ frames := 9, cells := 0, slots := 0, locals := 209 } : Room) s_ m_ args_ below_ meth_ c_ H_ locs_ 0 0 (MQ below_ (va_Qv (fun (S1 : zS) => ∃ cod la : Nat → Int32, S1 = zsI (zsA (zsA (zsA S_ (r_ 12) cod) (r_ 15) (zA S_ (r_ 15))) (r_ 16) la) 305 (r_ 10) (nI (cn + (cG n_ (ee + 1) pre).length)) ∧ (∀ k_, k_ < cn → cod k_ = zA S_ (r_ 12) k_) ∧ (∀ i_, i_ < (cG n_ (ee + 1) pre).length → cod (cn + i_) = cdI ((cG n_ (ee + 1) pre).getD i_ [])) ∧ (∀ k_, k_ < pre.length → la k_ = zA S_ (r_ 16) k_)) (zPost cD cy A_) A_) args_ s_ 0 0 A_) (F0 m_ 22 ls []) := by
      intro nA
      induction nA with
      | zero => intro jA iA _ hjA h_; exact absurd h_ (by omega)
      | succ nA ihA =>
        intro jA iA eiA hjA hmA cod la T hT hk1 hk2 hla H_ locs_ hw ls hl
        subst eiA
        have hSh : ShC (zsI (zsA (zsA (zsA S_ (r_ 12) cod) (r_ 15) (zA S_ (r_ 15))) (r_ 16) la) 305 (r_ 10) (nI (cn + T.length))) r_ := (sh_IC (sh_AC (sh_AC (sh_AC hSh0))))
        refine lv_iload_n hx hb_ dX3_grow_22 rfl (lv_at hl 3 rfl) ?_
        refine lv_aload_n hx hb_ dX3_grow_23 rfl (lv_at hl 0 rfl) ?_
        refine z_get (k := 3) (i := 6) (j := 306) (v := .int (nI n_)) (ref := "FoldedInHalf$Leaves") (C := RX3) (T := TX3) (N := 7) hcf hK_ hw hin3 (cL hSh 10) (cK hSh 10) rfl (by decide) (by decide) rfl rfl (congrArg Value.int ((zI_nj (by decide)).trans (zI_A.trans (zI_A.trans (zI_A.trans hs))))) (List.mem_of_getElem? (i := 1) rfl) (fun _ h_ => h_) dX3_grow_24 ?_
        refine lv_icmp_ge (tgt := 79) hx hb_ dX3_grow_27 (by decide) (fun c_27 => ?_) (fun c_27 => ?_)
        · exact z_vret hcf hr hlk hw (by have hj : jA = n_ := (by have := zn_ge rfl rfl (by omega) c_27; omega); have hTG : T = cG n_ (ee + 1) pre := (by rw [hT, hj]; rfl); exact ⟨cod, la, by rw [hTG], hk1, by rw [← hTG]; exact hk2, fun k_ hk => (hla k_ hk).trans (hA2 k_ hk).symm⟩) dX3_grow_79
        · have hlt : jA < n_ := zn_lt rfl rfl (by omega) c_27
          have hle : T.length + (cGf n_ ee pre jA).length ≤ (cG n_ (ee + 1) pre).length := by have := rg_le (cGf n_ ee pre) (show jA + 1 ≤ n_ by omega); rw [rg_fm, List.length_append, ← hT, ← cG_eq] at this; exact this
          refine lv_aload_n hx hb_ dX3_grow_30 rfl (lv_at hl 0 rfl) ?_
          refine lv_iload_n hx hb_ dX3_grow_31 rfl (lv_at hl 3 rfl) ?_
          refine z_ki hw hA (va_runV (As := [.int (nI jA)]) (rest := []) hcf (c_X3_placeOfLeaf lau cD cy _ r_ (zsI (zsA (zsA (zsA S_ (r_ 12) cod) (r_ 15) (zA S_ (r_ 15))) (r_ 16) la) 305 (r_ 10) (nI (cn + T.length))) hSh (nI jA)) (cwV 1 hts gX3_grow_X3_placeOfLeaf rfl rfl rfl (by decide +kernel) ⟨Nat.le_of_ble_eq_true rfl, Nat.le_of_ble_eq_true rfl⟩) (z_preV (k := 3) hK_ hE hw (cL hSh 10) (cK hSh 10) (by decide) rfl) rfl rfl hl.1 rfl (lv_room (Nat.le_of_ble_eq_true rfl)) dX3_grow_32 ⟨Nat.le_of_ble_eq_true rfl, Nat.le_of_ble_eq_true rfl⟩) (fun v4 S5 H_ locs_ hp hw => ?_)
          obtain ⟨hv4, rfl⟩ := hp
          have hpv : v4 = pos pre jA := by rw [hv4, pOf_nI (by omega), congrFun (show zA (zsI (zsA (zsA (zsA S_ (r_ 12) cod) (r_ 15) (zA S_ (r_ 15))) (r_ 16) la) 305 (r_ 10) (nI (cn + T.length))) (r_ 15) = (zA S_ (r_ 15)) from (zA_I.trans ((zA_ne _ _ (cNe hSh (i := 15) (j := 16) (by decide) (by decide) (by decide))).trans (zA_zsA _ _ _)))) jA]; exact hP jA (by omega)
          refine lv_iconst (v := (-1)) hx hb_ dX3_grow_35 (by decide) ?_
          refine lv_icmp_ne (tgt := 73) hx hb_ dX3_grow_36 (by decide) (fun c_36 => ?_) (fun c_36 => ?_)
          · obtain ⟨i2_, ei2⟩ : ∃ y_ : Int32, y_ = (nI jA) + 1 := ⟨_, rfl⟩
            refine lv_iinc (v := i2_) (lv' := [(3, .int i2_), (0, .ref (r_ 10)), (1, .int (nI pre.length)), (2, .int (cdI pre))]) hx hb_ dX3_grow_73 hl (k := 3) rfl (by rw [ei2]; rfl) (by decide) rfl (fun ls hl => ?_)
            refine lv_goto (tgt := 22) hx hb_ dX3_grow_76 (by decide) ?_
            have hG : cGf n_ ee pre jA = [] := by rw [cGf, if_pos (Classical.byContradiction fun q_ => c_36 (hpv.trans (pos_no q_)))]
            exact ihA (jA + 1) i2_ (by rw [ei2]; exact nI_1 jA) (by omega) (by omega) cod la T (by rw [rg_fm, hG, List.append_nil]; exact hT) hk1 hk2 hla _ _ hw ls (lv_sub hl [1, 2, 3, 0] rfl)
          · have hnm : jA ∉ pre := fun q_ => pos_in q_ (by omega) (hpv.symm.trans c_36)
            refine lv_aload_n hx hb_ dX3_grow_39 rfl (lv_at hl 0 rfl) ?_
            refine lv_iload_n hx hb_ dX3_grow_40 rfl (lv_at hl 3 rfl) ?_
            refine lv_iload_n hx hb_ dX3_grow_41 rfl (lv_at hl 1 rfl) ?_
            refine z_ki hw hA (va_runV (As := [.int (nI jA), .int (nI pre.length)]) (rest := []) hcf (c_X3_fits lau cD cy _ r_ (zsI (zsA (zsA (zsA S_ (r_ 12) cod) (r_ 15) (zA S_ (r_ 15))) (r_ 16) la) 305 (r_ 10) (nI (cn + T.length))) hSh n_ jA pre (by omega) hn ((zI_nj (by decide)).trans (zI_A.trans (zI_A.trans (zI_A.trans hs)))) (fun k_ hk => (congrFun (show zA (zsI (zsA (zsA (zsA S_ (r_ 12) cod) (r_ 15) (zA S_ (r_ 15))) (r_ 16) la) 305 (r_ 10) (nI (cn + T.length))) (r_ 15) = (zA S_ (r_ 15)) from (zA_I.trans ((zA_ne _ _ (cNe hSh (i := 15) (j := 16) (by decide) (by decide) (by decide))).trans (zA_zsA _ _ _)))) k_).trans (hP k_ hk)) (fun k_ hk => (congrFun (show zA (zsI (zsA (zsA (zsA S_ (r_ 12) cod) (r_ 15) (zA S_ (r_ 15))) (r_ 16) la) 305 (r_ 10) (nI (cn + T.length))) (r_ 16) = la from (zA_I.trans (zA_zsA _ _ _))) k_).trans (hla k_ hk)) hb8 (by omega)) (cwV 2 hts gX3_grow_X3_fits rfl rfl rfl (by decide +kernel) ⟨Nat.le_of_ble_eq_true rfl, Nat.le_of_ble_eq_true rfl⟩) (z_preV (k := 3) hK_ hE hw (cL hSh 10) (cK hSh 10) (by decide) rfl) rfl rfl hl.1 rfl (lv_room (Nat.le_of_ble_eq_true rfl)) dX3_grow_42 ⟨Nat.le_of_ble_eq_true rfl, Nat.le_of_ble_eq_true rfl⟩) (fun v6 S7 H_ locs_ hp hw => ?_)
            obtain ⟨hv6, rfl⟩ := hp
            refine lv_if_eq (tgt := 73) hx hb_ dX3_grow_45 (by decide) (fun c_45 => ?_) (fun c_45 => ?_)
            · obtain ⟨i2_, ei2⟩ : ∃ y_ : Int32, y_ = (nI jA) + 1 := ⟨_, rfl⟩
              refine lv_iinc (v := i2_) (lv' := [(3, .int i2_), (0, .ref (r_ 10)), (1, .int (nI pre.length)), (2, .int (cdI pre))]) hx hb_ dX3_grow_73 hl (k := 3) rfl (by rw [ei2]; rfl) (by decide) rfl (fun ls hl => ?_)
              refine lv_goto (tgt := 22) hx hb_ dX3_grow_76 (by decide) ?_
              have hG : cGf n_ ee pre jA = [] := by unfold cGf; exact (Decidable.em (jA ∈ pre)).elim (fun q_ => if_pos q_) (fun q_ => (if_neg q_).trans (if_neg (fun z_ => by rw [hv6, if_pos z_] at c_45; exact absurd c_45 (by decide))))
              exact ihA (jA + 1) i2_ (by rw [ei2]; exact nI_1 jA) (by omega) (by omega) cod la T (by rw [rg_fm, hG, List.append_nil]; exact hT) hk1 hk2 hla _ _ hw ls (lv_sub hl [1, 2, 3, 0] rfl)
            · have hft : cFit n_ pre jA = true := Classical.byContradiction fun q_ => c_45 (by rw [hv6, if_neg q_])
              refine lv_aload_n hx hb_ dX3_grow_48 rfl (lv_at hl 0 rfl) ?_
              refine lv_iload_n hx hb_ dX3_grow_49 rfl (lv_at hl 3 rfl) ?_
              refine lv_iload_n hx hb_ dX3_grow_50 rfl (lv_at hl 1 rfl) ?_
              refine z_kv hw hA (va_runV (As := [.int (nI jA), .int (nI pre.length)]) (rest := []) hcf (c_X3_lay lau cD cy _ r_ (zsI (zsA (zsA (zsA S_ (r_ 12) cod) (r_ 15) (zA S_ (r_ 15))) (r_ 16) la) 305 (r_ 10) (nI (cn + T.length))) hSh jA pre.length (by omega) (by omega)) (cwV 2 hts gX3_grow_X3_lay rfl rfl rfl (by decide +kernel) ⟨Nat.le_of_ble_eq_true rfl, Nat.le_of_ble_eq_true rfl⟩) (z_preV (k := 3) hK_ hE hw (cL hSh 10) (cK hSh 10) (by decide) rfl) rfl rfl hl.1 rfl (lv_room (Nat.le_of_ble_eq_true rfl)) dX3_grow_51 ⟨Nat.le_of_ble_eq_true rfl, Nat.le_of_ble_eq_true rfl⟩) (fun S9 H_ locs_ hp hw => ?_)
              obtain rfl := hp
              rw [show zA (zsI (zsA (zsA (zsA S_ (r_ 12) cod) (r_ 15) (zA S_ (r_ 15))) (r_ 16) la) 305 (r_ 10) (nI (cn + T.length))) (r_ 15) = _ from (zA_I.trans ((zA_ne _ _ (cNe hSh (i := 15) (j := 16) (by decide) (by decide) (by decide))).trans (zA_zsA _ _ _))), show zA (zsI (zsA (zsA (zsA S_ (r_ 12) cod) (r_ 15) (zA S_ (r_ 15))) (r_ 16) la) 305 (r_ 10) (nI (cn + T.length))) (r_ 16) = _ from (zA_I.trans (zA_zsA _ _ _))] at hw
              obtain ⟨f10, hf10⟩ : ∃ zz, zz = (upd (zA S_ (r_ 15)) jA (nI pre.length)) := ⟨_, rfl⟩
              rw [← hf10] at hw
              rw [zsA_zsI, zsA_comm _ _ _ (cNe hSh (i := 16) (j := 15) (by decide) (by decide) (by decide)), zsA_zsA] at hw
              obtain ⟨f11, hf11⟩ : ∃ zz, zz = (upd la pre.length (nI jA)) := ⟨_, rfl⟩
              rw [← hf11] at hw
              rw [zsA_zsI, zsA_zsA] at hw
              have hSh : ShC (zsI (zsA (zsA (zsA S_ (r_ 12) cod) (r_ 15) f10) (r_ 16) f11) 305 (r_ 10) (nI (cn + T.length))) r_ := (sh_IC (sh_AC (sh_AC (sh_AC hSh0))))
              refine lv_aload_n hx hb_ dX3_grow_54 rfl (lv_at hl 0 rfl) ?_
              refine lv_iload_n hx hb_ dX3_grow_55 rfl (lv_at hl 1 rfl) ?_
              refine lv_iconst (v := 1) hx hb_ dX3_grow_56 (by decide) ?_
              refine lv_iadd hx hb_ dX3_grow_57 ?_
              refine z_topi (y := (nI (pre ++ [jA]).length)) (by rw [nI_1, List.length_append]; rfl) ?_
              refine lv_iload_n hx hb_ dX3_grow_58 rfl (lv_at hl 2 rfl) ?_
              refine lv_iload_n hx hb_ dX3_grow_59 rfl (lv_at hl 3 rfl) ?_
              refine lv_iconst (v := 3) hx hb_ dX3_grow_60 (by decide) ?_
              refine lv_iload_n hx hb_ dX3_grow_61 rfl (lv_at hl 1 rfl) ?_
              refine lv_imul hx hb_ dX3_grow_62 ?_
              refine lv_ishl hx hb_ dX3_grow_63 ?_
              refine lv_ior hx hb_ dX3_grow_64 ?_
              refine z_topi (y := (cdI (pre ++ [jA]))) (cdI_app pre jA) ?_
              refine z_kv hw hA (va_runS (As := [.ref (r_ 10), .int (nI (pre ++ [jA]).length), .int (cdI (pre ++ [jA]))]) (rest := []) hcf (c_X3_grow_6 lau cD cy _ r_ (zsI (zsA (zsA (zsA S_ (r_ 12) cod) (r_ 15) f10) (r_ 16) f11) 305 (r_ 10) (nI (cn + T.length))) hSh n_ (cn + T.length) ee (pre ++ [jA]) (by rw [List.length_append, List.length_singleton]; omega) hn (by rw [List.length_append, List.length_singleton]; omega) (fun x_ hx => (List.mem_append.mp hx).elim (fun q_ => hb8 x_ q_) (fun q_ => by rw [List.mem_singleton] at q_; omega)) ((zI_nj (by decide)).trans (zI_A.trans (zI_A.trans (zI_A.trans hs)))) zI_at (by rw [cGf, if_neg hnm, if_pos hft] at hle; omega) (fun k_ hk => by rw [congrFun (show zA (zsI (zsA (zsA (zsA S_ (r_ 12) cod) (r_ 15) f10) (r_ 16) f11) 305 (r_ 10) (nI (cn + T.length))) (r_ 15) = f10 from (zA_I.trans ((zA_ne _ _ (cNe hSh (i := 15) (j := 16) (by decide) (by decide) (by decide))).trans (zA_zsA _ _ _)))) k_, hf10, pos_app hnm]; exact (Decidable.em (k_ = jA)).elim (fun q_ => by rw [q_, upd_at, if_pos rfl]) (fun q_ => by rw [upd_no _ _ q_, if_neg q_]; exact hP k_ hk)) (fun k_ hk => by rw [congrFun (show zA (zsI (zsA (zsA (zsA S_ (r_ 12) cod) (r_ 15) f10) (r_ 16) f11) 305 (r_ 10) (nI (cn + T.length))) (r_ 16) = f11 from (zA_I.trans (zA_zsA _ _ _))) k_, hf11]; rw [List.length_append, List.length_singleton] at hk; exact (Decidable.em (k_ = pre.length)).elim (fun q_ => by rw [q_, upd_at]; simp [List.getD_eq_getElem?_getD]) (fun q_ => by rw [upd_no _ _ q_, hla k_ (by omega), List.getD_eq_getElem?_getD, List.getD_eq_getElem?_getD, List.getElem?_append_left (by omega)]))) (va_cwS 3 hts gX3_grow_X3_grow rfl rfl rfl (by decide +kernel) ⟨Nat.le_of_ble_eq_true rfl, Nat.le_of_ble_eq_true rfl⟩) (z_preS hK_ hE hw) rfl rfl hl.1 rfl (lv_room (Nat.le_of_ble_eq_true rfl)) dX3_grow_65 ⟨Nat.le_of_ble_eq_true rfl, Nat.le_of_ble_eq_true rfl⟩) (fun S13 H_ locs_ hp hw => ?_)
              obtain ⟨cod14, la15, rfl, hc1, hc2, hl2⟩ := hp
              rw [show zA (zsI (zsA (zsA (zsA S_ (r_ 12) cod) (r_ 15) f10) (r_ 16) f11) 305 (r_ 10) (nI (cn + T.length))) (r_ 15) = _ from (zA_I.trans ((zA_ne _ _ (cNe hSh (i := 15) (j := 16) (by decide) (by decide) (by decide))).trans (zA_zsA _ _ _)))] at hw
              rw [zsA_zsI, zsA_comm _ _ _ (cNe hSh (i := 16) (j := 12) (by decide) (by decide) (by decide)), zsA_comm _ _ _ (cNe hSh (i := 15) (j := 12) (by decide) (by decide) (by decide)), zsA_zsA] at hw
              rw [zsA_zsI, zsA_comm _ _ _ (cNe hSh (i := 16) (j := 15) (by decide) (by decide) (by decide)), zsA_zsA] at hw
              rw [zsA_zsI, zsA_zsA] at hw
              rw [zsI_zsI] at hw
              have hSh : ShC (zsI (zsA (zsA (zsA S_ (r_ 12) cod14) (r_ 15) f10) (r_ 16) la15) 305 (r_ 10) (nI (cn + T.length + (cG n_ ee (pre ++ [jA])).length))) r_ := (sh_IC (sh_AC (sh_AC (sh_AC hSh0))))
              refine lv_aload_n hx hb_ dX3_grow_68 rfl (lv_at hl 0 rfl) ?_
              refine lv_iload_n hx hb_ dX3_grow_69 rfl (lv_at hl 3 rfl) ?_
              refine z_kv hw hA (va_runV (As := [.int (nI jA)]) (rest := []) hcf (c_X3_lift lau cD cy _ r_ (zsI (zsA (zsA (zsA S_ (r_ 12) cod14) (r_ 15) f10) (r_ 16) la15) 305 (r_ 10) (nI (cn + T.length + (cG n_ ee (pre ++ [jA])).length))) hSh jA (by omega)) (cwV 1 hts gX3_grow_X3_lift rfl rfl rfl (by decide +kernel) ⟨Nat.le_of_ble_eq_true rfl, Nat.le_of_ble_eq_true rfl⟩) (z_preV (k := 3) hK_ hE hw (cL hSh 10) (cK hSh 10) (by decide) rfl) rfl rfl hl.1 rfl (lv_room (Nat.le_of_ble_eq_true rfl)) dX3_grow_70 ⟨Nat.le_of_ble_eq_true rfl, Nat.le_of_ble_eq_true rfl⟩) (fun S17 H_ locs_ hp hw => ?_)
              obtain rfl := hp
              rw [show zA (zsI (zsA (zsA (zsA S_ (r_ 12) cod14) (r_ 15) f10) (r_ 16) la15) 305 (r_ 10) (nI (cn + T.length + (cG n_ ee (pre ++ [jA])).length))) (r_ 15) = _ from (zA_I.trans ((zA_ne _ _ (cNe hSh (i := 15) (j := 16) (by decide) (by decide) (by decide))).trans (zA_zsA _ _ _)))] at hw
              obtain ⟨f18, hf18⟩ : ∃ zz, zz = (upd f10 jA (-1)) := ⟨_, rfl⟩
              rw [← hf18] at hw
              rw [zsA_zsI, zsA_comm _ _ _ (cNe hSh (i := 16) (j := 15) (by decide) (by decide) (by decide)), zsA_zsA] at hw
              have hSh : ShC (zsI (zsA (zsA (zsA S_ (r_ 12) cod14) (r_ 15) f18) (r_ 16) la15) 305 (r_ 10) (nI (cn + T.length + (cG n_ ee (pre ++ [jA])).length))) r_ := (sh_IC (sh_AC (sh_AC (sh_AC hSh0))))
              have hpl : f18 = zA S_ (r_ 15) := funext fun k_ => by rw [hf18, hf10]; exact (Decidable.em (k_ = jA)).elim (fun q_ => by rw [q_, upd_at]; exact (pos_no hnm).symm.trans (hP jA (by omega)).symm) (fun q_ => by rw [upd_no _ _ q_, upd_no _ _ q_])
              rw [hpl] at hw
              have hSh : ShC (zsI (zsA (zsA (zsA S_ (r_ 12) cod14) (r_ 15) (zA S_ (r_ 15))) (r_ 16) la15) 305 (r_ 10) (nI (cn + T.length + (cG n_ ee (pre ++ [jA])).length))) r_ := (sh_IC (sh_AC (sh_AC (sh_AC hSh0))))
              obtain ⟨i2_, ei2⟩ : ∃ y_ : Int32, y_ = (nI jA) + 1 := ⟨_, rfl⟩
              refine lv_iinc (v := i2_) (lv' := [(3, .int i2_), (0, .ref (r_ 10)), (1, .int (nI pre.length)), (2, .int (cdI pre))]) hx hb_ dX3_grow_73 hl (k := 3) rfl (by rw [ei2]; rfl) (by decide) rfl (fun ls hl => ?_)
              refine lv_goto (tgt := 22) hx hb_ dX3_grow_76 (by decide) ?_
              have hG : cGf n_ ee pre jA = cG n_ ee (pre ++ [jA]) := by rw [cGf, if_neg hnm, if_pos hft]
              have ecc : cn + T.length + (cG n_ ee (pre ++ [jA])).length = cn + (T ++ cG n_ ee (pre ++ [jA])).length := by rw [List.length_append]; omega
              rw [ecc] at hw
              refine ihA (jA + 1) i2_ (by rw [ei2]; exact nI_1 jA) (by omega) (by omega) cod14 la15 (T ++ cG n_ ee (pre ++ [jA])) (by rw [rg_fm, hG, hT]) (fun k_ hk => (hc1 k_ (by omega)).trans ((congrFun (show zA (zsI (zsA (zsA (zsA S_ (r_ 12) cod) (r_ 15) f10) (r_ 16) f11) 305 (r_ 10) (nI (cn + T.length))) (r_ 12) = cod from (zA_I.trans ((zA_ne _ _ (cNe hSh (i := 12) (j := 16) (by decide) (by decide) (by decide))).trans ((zA_ne _ _ (cNe hSh (i := 12) (j := 15) (by decide) (by decide) (by decide))).trans (zA_zsA _ _ _))))) k_).trans (hk1 k_ hk))) (fun i_ hi_ => ?_) (fun k_ hk => ?_) _ _ hw ls (lv_sub hl [1, 2, 3, 0] rfl)
              · rcases Nat.lt_or_ge i_ T.length with q_ | q_
                · rw [hc1 (cn + i_) (by omega), congrFun (show zA (zsI (zsA (zsA (zsA S_ (r_ 12) cod) (r_ 15) f10) (r_ 16) f11) 305 (r_ 10) (nI (cn + T.length))) (r_ 12) = cod from (zA_I.trans ((zA_ne _ _ (cNe hSh (i := 12) (j := 16) (by decide) (by decide) (by decide))).trans ((zA_ne _ _ (cNe hSh (i := 12) (j := 15) (by decide) (by decide) (by decide))).trans (zA_zsA _ _ _))))) (cn + i_), hk2 i_ q_, List.getD_eq_getElem?_getD, List.getD_eq_getElem?_getD, List.getElem?_append_left q_]
                · rw [List.length_append] at hi_
                  have := hc2 (i_ - T.length) (by omega)
                  rw [show cn + T.length + (i_ - T.length) = cn + i_ by omega] at this
                  rw [this, List.getD_eq_getElem?_getD, List.getD_eq_getElem?_getD, List.getElem?_append_right q_]
              · rw [hl2 k_ (by rw [List.length_append]; omega), congrFun (show zA (zsI (zsA (zsA (zsA S_ (r_ 12) cod) (r_ 15) f10) (r_ 16) f11) 305 (r_ 10) (nI (cn + T.length))) (r_ 16) = f11 from (zA_I.trans (zA_zsA _ _ _))) k_, hf11, upd_no _ _ (by omega)]; exact hla k_ hk
    exact JA (n_ + 1) 0 0 nI_0.symm (Nat.zero_le _) (by omega) (zA S_ (r_ 12)) (zA S_ (r_ 16)) [] rfl (fun k_ hk => rfl) (fun i_ hi_ => absurd hi_ (Nat.not_lt_zero i_)) hA2 _ _ (by rw [zsA_self, zsA_self, zsA_self, show cn + ([] : List (List Nat)).length = cn from rfl, zsI_self hcc]; exact hw) ls (lv_sub hl [1, 2, 3, 0] rfl)

set_option maxHeartbeats 1000000 in
set_option maxRecDepth 100000 in
theorem c_X3_grow_8 (lau : Launch) (cD : va_G) (cy : Nat → ClassId) (sz_ : Nat) (r_ : Nat → Nat) (S_ : zS) (hSh : ShC S_ r_) (n_ cn ee : Nat) (pre : List Nat) (hd : pre.length + 8 = 8) (hn : n_ ≤ 8) (hlen : pre.length + ee = n_) (hb8 : ∀ x_, x_ ∈ pre → x_ < 8) (hs : zI S_ 306 (r_ 10) = nI n_) (hcc : zI S_ 305 (r_ 10) = nI cn) (hct : cn + (cG n_ ee pre).length ≤ 2100) (hP : ∀ k_, k_ < 8 → zA S_ (r_ 15) k_ = pos pre k_) (hA2 : ∀ k_, k_ < pre.length → zA S_ (r_ 16) k_ = nI (pre.getD k_ 0)) : Met lau yX3_grow wsX3_grow ({ frames := 10, cells := 0, slots := 0, locals := 232 } : Room) (va_Pc [.ref (r_ 10), .int (nI pre.length), .int (cdI pre)] (zPre cD cy S_ sz_)) (va_Qv (fun (S1 : zS) => ∃ cod la : Nat → Int32, S1 = zsI (zsA (zsA (zsA S_ (r_ 12) cod) (r_ 15) (zA S_ (r_ 15))) (r_ 16) la) 305 (r_ 10) (nI (cn + (cG n_ ee pre).length)) ∧ (∀ k_, k_ < cn → cod k_ = zA S_ (r_ 12) k_) ∧ (∀ i_, i_ < (cG n_ ee pre).length → cod (cn + i_) = cdI ((cG n_ ee pre).getD i_ [])) ∧ (∀ k_, k_ < pre.length → la k_ = zA S_ (r_ 16) k_)) (zPost cD cy (zAd cy S_ sz_)) (zAd cy S_ sz_)) 0 0 (zAd cy S_ sz_) := by
  refine z_ofW (cc := cX3_grow) (maxL := 4) (ret := none) (own := RX3) (QQ := fun A_ => va_Qv (fun (S1 : zS) => ∃ cod la : Nat → Int32, S1 = zsI (zsA (zsA (zsA S_ (r_ 12) cod) (r_ 15) (zA S_ (r_ 15))) (r_ 16) la) 305 (r_ 10) (nI (cn + (cG n_ ee pre).length)) ∧ (∀ k_, k_ < cn → cod k_ = zA S_ (r_ 12) k_) ∧ (∀ i_, i_ < (cG n_ ee pre).length → cod (cn + i_) = cdI ((cG n_ ee pre).getD i_ [])) ∧ (∀ k_, k_ < pre.length → la k_ = zA S_ (r_ 16) k_)) (zPost cD cy A_) A_) (by decide) rfl rfl (Nat.le_of_ble_eq_true rfl) ?_
  intro p_ e_ s_ m_ args_ below_ meth_ c_ A_ ls hcf hr hlk hnm hK_ hE hw hA hl
  obtain ⟨hx, hb_, hml, hown, hts⟩ := id hcf
  have hin3 : ∀ w_ ∈ wsX30, w_ ∈ wsX3_grow := fun w_ h_ => (List.mem_cons_of_mem _ (List.mem_append_right _ h_))
  have hl : lv_has ls 4 [(0, .ref (r_ 10)), (1, .int (nI pre.length)), (2, .int (cdI pre))] := hl
  have hSh0 := hSh
  cases ee with
  | zero =>
    refine lv_iload_n hx hb_ dX3_grow_0 rfl (lv_at hl 1 rfl) ?_
    refine lv_aload_n hx hb_ dX3_grow_1 rfl (lv_at hl 0 rfl) ?_
    refine z_get (k := 3) (i := 6) (j := 306) (v := .int (nI n_)) (ref := "FoldedInHalf$Leaves") (C := RX3) (T := TX3) (N := 7) hcf hK_ hw hin3 (cL hSh 10) (cK hSh 10) rfl (by decide) (by decide) rfl rfl (congrArg Value.int hs) (List.mem_of_getElem? (i := 1) rfl) (fun _ h_ => h_) dX3_grow_2 ?_
    refine lv_icmp_ge (tgt := 14) hx hb_ dX3_grow_5 (by decide) (fun c_5 => ?_) (fun c_5 => absurd (nI_le (by omega) (by omega)) c_5)
    refine lv_aload_n hx hb_ dX3_grow_14 rfl (lv_at hl 0 rfl) ?_
    refine lv_iload_n hx hb_ dX3_grow_15 rfl (lv_at hl 2 rfl) ?_
    refine z_kv hw hA (va_runV (As := [.int (cdI pre)]) (rest := []) hcf (c_X3_keep lau cD cy _ r_ S_ hSh cn (cdI pre) (by have := hct; simp [cG] at this; omega) hcc) (cwV 1 hts gX3_grow_X3_keep rfl rfl rfl (by decide +kernel) ⟨Nat.le_of_ble_eq_true rfl, Nat.le_of_ble_eq_true rfl⟩) (z_preV (k := 3) hK_ hE hw (cL hSh 10) (cK hSh 10) (by decide) rfl) rfl rfl hl.1 rfl (lv_room (Nat.le_of_ble_eq_true rfl)) dX3_grow_16 ⟨Nat.le_of_ble_eq_true rfl, Nat.le_of_ble_eq_true rfl⟩) (fun S2 H_ locs_ hp hw => ?_)
    obtain rfl := hp
    obtain ⟨f3_, hf3⟩ : ∃ zz, zz = upd (zA S_ (r_ 12)) cn (cdI pre) := ⟨_, rfl⟩
    rw [← hf3] at hw
    have hSh : ShC (zsI (zsA S_ (r_ 12) f3_) 305 (r_ 10) (nI (cn + 1))) r_ := (sh_IC (sh_AC hSh0))
    exact z_vret hcf hr hlk hw (⟨f3_, zA S_ (r_ 16), by rw [zsA_same (S := zsA S_ (r_ 12) f3_) (a := r_ 15) (zA_ne _ _ (cNe hSh (i := 15) (j := 12) (by decide) (by decide) (by decide))), zsA_same (S := zsA S_ (r_ 12) f3_) (a := r_ 16) (zA_ne _ _ (cNe hSh (i := 16) (j := 12) (by decide) (by decide) (by decide)))]; rfl, fun k_ hk => by rw [hf3, upd_no _ _ (by omega)], fun i_ hi_ => by have e0 : i_ = 0 := (by simp [cG] at hi_; omega); subst e0; rw [hf3]; exact upd_at _ _ _, fun k_ hk => rfl⟩) dX3_grow_19
  | succ ee =>
    refine lv_iload_n hx hb_ dX3_grow_0 rfl (lv_at hl 1 rfl) ?_
    refine lv_aload_n hx hb_ dX3_grow_1 rfl (lv_at hl 0 rfl) ?_
    refine z_get (k := 3) (i := 6) (j := 306) (v := .int (nI n_)) (ref := "FoldedInHalf$Leaves") (C := RX3) (T := TX3) (N := 7) hcf hK_ hw hin3 (cL hSh 10) (cK hSh 10) rfl (by decide) (by decide) rfl rfl (congrArg Value.int hs) (List.mem_of_getElem? (i := 1) rfl) (fun _ h_ => h_) dX3_grow_2 ?_
    refine lv_icmp_ge (tgt := 14) hx hb_ dX3_grow_5 (by decide) (fun c_5 => absurd c_5 (nI_ge (show pre.length < n_ by omega) (by omega))) (fun c_5 => ?_)
    refine lv_iload_n hx hb_ dX3_grow_8 rfl (lv_at hl 1 rfl) ?_
    refine lv_bipush (v := 8) hx hb_ dX3_grow_9 (by decide) ?_
    refine lv_icmp_lt (tgt := 20) hx hb_ dX3_grow_11 (by decide) (fun c_11 => ?_) (fun c_11 => absurd (nI_lt (show pre.length < 8 by omega) (by decide)) c_11)
    refine lv_iconst (v := 0) hx hb_ dX3_grow_20 (by decide) ?_
    refine lv_istore_n (lv' := [(3, .int 0), (0, .ref (r_ 10)), (1, .int (nI pre.length)), (2, .int (cdI pre))]) hx hb_ dX3_grow_21 rfl hl (by decide) rfl (fun ls hl => ?_)
    have JA : ∀ (nA jA : Nat) (iA : Int32), iA = nI jA → jA ≤ n_ → n_ < jA + nA → ∀ (cod la : Nat → Int32) (T : List (List Nat)), T = (List.range jA).flatMap (cGf n_ ee pre) → (∀ k_, k_ < cn → cod k_ = zA S_ (r_ 12) k_) → (∀ i_, i_ < T.length → cod (cn + i_) = cdI (T.getD i_ [])) → (∀ k_, k_ < pre.length → la k_ = nI (pre.getD k_ 0)) → ∀ (H_ : Heap) (locs_ : List Loc), zPw cD cy A_ s_.heap (zsI (zsA (zsA (zsA S_ (r_ 12) cod) (r_ 15) (zA S_ (r_ 15))) (r_ 16) la) 305 (r_ 10) (nI (cn + T.length))) H_ locs_ → ∀ ls : Array Slot, lv_has ls 4 [(0, .ref (r_ 10)), (1, .int (nI pre.length)), (2, .int (cdI pre)), (3, .int iA)] → W p_ lau e_ ({ frames := 10, cells := 0, slots := 0, locals := 232 } : Room) s_ m_ args_ below_ meth_ c_ H_ locs_ 0 0 (MQ below_ (va_Qv (fun (S1 : zS) => ∃ cod la : Nat → Int32, S1 = zsI (zsA (zsA (zsA S_ (r_ 12) cod) (r_ 15) (zA S_ (r_ 15))) (r_ 16) la) 305 (r_ 10) (nI (cn + (cG n_ (ee + 1) pre).length)) ∧ (∀ k_, k_ < cn → cod k_ = zA S_ (r_ 12) k_) ∧ (∀ i_, i_ < (cG n_ (ee + 1) pre).length → cod (cn + i_) = cdI ((cG n_ (ee + 1) pre).getD i_ [])) ∧ (∀ k_, k_ < pre.length → la k_ = zA S_ (r_ 16) k_)) (zPost cD cy A_) A_) args_ s_ 0 0 A_) (F0 m_ 22 ls []) := by
      intro nA
      induction nA with
      | zero => intro jA iA _ hjA h_; exact absurd h_ (by omega)
      | succ nA ihA =>
        intro jA iA eiA hjA hmA cod la T hT hk1 hk2 hla H_ locs_ hw ls hl
        subst eiA
        have hSh : ShC (zsI (zsA (zsA (zsA S_ (r_ 12) cod) (r_ 15) (zA S_ (r_ 15))) (r_ 16) la) 305 (r_ 10) (nI (cn + T.length))) r_ := (sh_IC (sh_AC (sh_AC (sh_AC hSh0))))
        refine lv_iload_n hx hb_ dX3_grow_22 rfl (lv_at hl 3 rfl) ?_
        refine lv_aload_n hx hb_ dX3_grow_23 rfl (lv_at hl 0 rfl) ?_
        refine z_get (k := 3) (i := 6) (j := 306) (v := .int (nI n_)) (ref := "FoldedInHalf$Leaves") (C := RX3) (T := TX3) (N := 7) hcf hK_ hw hin3 (cL hSh 10) (cK hSh 10) rfl (by decide) (by decide) rfl rfl (congrArg Value.int ((zI_nj (by decide)).trans (zI_A.trans (zI_A.trans (zI_A.trans hs))))) (List.mem_of_getElem? (i := 1) rfl) (fun _ h_ => h_) dX3_grow_24 ?_
        refine lv_icmp_ge (tgt := 79) hx hb_ dX3_grow_27 (by decide) (fun c_27 => ?_) (fun c_27 => ?_)
        · exact z_vret hcf hr hlk hw (by have hj : jA = n_ := (by have := zn_ge rfl rfl (by omega) c_27; omega); have hTG : T = cG n_ (ee + 1) pre := (by rw [hT, hj]; rfl); exact ⟨cod, la, by rw [hTG], hk1, by rw [← hTG]; exact hk2, fun k_ hk => (hla k_ hk).trans (hA2 k_ hk).symm⟩) dX3_grow_79
        · have hlt : jA < n_ := zn_lt rfl rfl (by omega) c_27
          have hle : T.length + (cGf n_ ee pre jA).length ≤ (cG n_ (ee + 1) pre).length := by have := rg_le (cGf n_ ee pre) (show jA + 1 ≤ n_ by omega); rw [rg_fm, List.length_append, ← hT, ← cG_eq] at this; exact this
          refine lv_aload_n hx hb_ dX3_grow_30 rfl (lv_at hl 0 rfl) ?_
          refine lv_iload_n hx hb_ dX3_grow_31 rfl (lv_at hl 3 rfl) ?_
          refine z_ki hw hA (va_runV (As := [.int (nI jA)]) (rest := []) hcf (c_X3_placeOfLeaf lau cD cy _ r_ (zsI (zsA (zsA (zsA S_ (r_ 12) cod) (r_ 15) (zA S_ (r_ 15))) (r_ 16) la) 305 (r_ 10) (nI (cn + T.length))) hSh (nI jA)) (cwV 1 hts gX3_grow_X3_placeOfLeaf rfl rfl rfl (by decide +kernel) ⟨Nat.le_of_ble_eq_true rfl, Nat.le_of_ble_eq_true rfl⟩) (z_preV (k := 3) hK_ hE hw (cL hSh 10) (cK hSh 10) (by decide) rfl) rfl rfl hl.1 rfl (lv_room (Nat.le_of_ble_eq_true rfl)) dX3_grow_32 ⟨Nat.le_of_ble_eq_true rfl, Nat.le_of_ble_eq_true rfl⟩) (fun v4 S5 H_ locs_ hp hw => ?_)
          obtain ⟨hv4, rfl⟩ := hp
          have hpv : v4 = pos pre jA := by rw [hv4, pOf_nI (by omega), congrFun (show zA (zsI (zsA (zsA (zsA S_ (r_ 12) cod) (r_ 15) (zA S_ (r_ 15))) (r_ 16) la) 305 (r_ 10) (nI (cn + T.length))) (r_ 15) = (zA S_ (r_ 15)) from (zA_I.trans ((zA_ne _ _ (cNe hSh (i := 15) (j := 16) (by decide) (by decide) (by decide))).trans (zA_zsA _ _ _)))) jA]; exact hP jA (by omega)
          refine lv_iconst (v := (-1)) hx hb_ dX3_grow_35 (by decide) ?_
          refine lv_icmp_ne (tgt := 73) hx hb_ dX3_grow_36 (by decide) (fun c_36 => ?_) (fun c_36 => ?_)
          · obtain ⟨i2_, ei2⟩ : ∃ y_ : Int32, y_ = (nI jA) + 1 := ⟨_, rfl⟩
            refine lv_iinc (v := i2_) (lv' := [(3, .int i2_), (0, .ref (r_ 10)), (1, .int (nI pre.length)), (2, .int (cdI pre))]) hx hb_ dX3_grow_73 hl (k := 3) rfl (by rw [ei2]; rfl) (by decide) rfl (fun ls hl => ?_)
            refine lv_goto (tgt := 22) hx hb_ dX3_grow_76 (by decide) ?_
            have hG : cGf n_ ee pre jA = [] := by rw [cGf, if_pos (Classical.byContradiction fun q_ => c_36 (hpv.trans (pos_no q_)))]
            exact ihA (jA + 1) i2_ (by rw [ei2]; exact nI_1 jA) (by omega) (by omega) cod la T (by rw [rg_fm, hG, List.append_nil]; exact hT) hk1 hk2 hla _ _ hw ls (lv_sub hl [1, 2, 3, 0] rfl)
          · have hnm : jA ∉ pre := fun q_ => pos_in q_ (by omega) (hpv.symm.trans c_36)
            refine lv_aload_n hx hb_ dX3_grow_39 rfl (lv_at hl 0 rfl) ?_
            refine lv_iload_n hx hb_ dX3_grow_40 rfl (lv_at hl 3 rfl) ?_
            refine lv_iload_n hx hb_ dX3_grow_41 rfl (lv_at hl 1 rfl) ?_
            refine z_ki hw hA (va_runV (As := [.int (nI jA), .int (nI pre.length)]) (rest := []) hcf (c_X3_fits lau cD cy _ r_ (zsI (zsA (zsA (zsA S_ (r_ 12) cod) (r_ 15) (zA S_ (r_ 15))) (r_ 16) la) 305 (r_ 10) (nI (cn + T.length))) hSh n_ jA pre (by omega) hn ((zI_nj (by decide)).trans (zI_A.trans (zI_A.trans (zI_A.trans hs)))) (fun k_ hk => (congrFun (show zA (zsI (zsA (zsA (zsA S_ (r_ 12) cod) (r_ 15) (zA S_ (r_ 15))) (r_ 16) la) 305 (r_ 10) (nI (cn + T.length))) (r_ 15) = (zA S_ (r_ 15)) from (zA_I.trans ((zA_ne _ _ (cNe hSh (i := 15) (j := 16) (by decide) (by decide) (by decide))).trans (zA_zsA _ _ _)))) k_).trans (hP k_ hk)) (fun k_ hk => (congrFun (show zA (zsI (zsA (zsA (zsA S_ (r_ 12) cod) (r_ 15) (zA S_ (r_ 15))) (r_ 16) la) 305 (r_ 10) (nI (cn + T.length))) (r_ 16) = la from (zA_I.trans (zA_zsA _ _ _))) k_).trans (hla k_ hk)) hb8 (by omega)) (cwV 2 hts gX3_grow_X3_fits rfl rfl rfl (by decide +kernel) ⟨Nat.le_of_ble_eq_true rfl, Nat.le_of_ble_eq_true rfl⟩) (z_preV (k := 3) hK_ hE hw (cL hSh 10) (cK hSh 10) (by decide) rfl) rfl rfl hl.1 rfl (lv_room (Nat.le_of_ble_eq_true rfl)) dX3_grow_42 ⟨Nat.le_of_ble_eq_true rfl, Nat.le_of_ble_eq_true rfl⟩) (fun v6 S7 H_ locs_ hp hw => ?_)
            obtain ⟨hv6, rfl⟩ := hp
            refine lv_if_eq (tgt := 73) hx hb_ dX3_grow_45 (by decide) (fun c_45 => ?_) (fun c_45 => ?_)
            · obtain ⟨i2_, ei2⟩ : ∃ y_ : Int32, y_ = (nI jA) + 1 := ⟨_, rfl⟩
              refine lv_iinc (v := i2_) (lv' := [(3, .int i2_), (0, .ref (r_ 10)), (1, .int (nI pre.length)), (2, .int (cdI pre))]) hx hb_ dX3_grow_73 hl (k := 3) rfl (by rw [ei2]; rfl) (by decide) rfl (fun ls hl => ?_)
              refine lv_goto (tgt := 22) hx hb_ dX3_grow_76 (by decide) ?_
              have hG : cGf n_ ee pre jA = [] := by unfold cGf; exact (Decidable.em (jA ∈ pre)).elim (fun q_ => if_pos q_) (fun q_ => (if_neg q_).trans (if_neg (fun z_ => by rw [hv6, if_pos z_] at c_45; exact absurd c_45 (by decide))))
              exact ihA (jA + 1) i2_ (by rw [ei2]; exact nI_1 jA) (by omega) (by omega) cod la T (by rw [rg_fm, hG, List.append_nil]; exact hT) hk1 hk2 hla _ _ hw ls (lv_sub hl [1, 2, 3, 0] rfl)
            · have hft : cFit n_ pre jA = true := Classical.byContradiction fun q_ => c_45 (by rw [hv6, if_neg q_])
              refine lv_aload_n hx hb_ dX3_grow_48 rfl (lv_at hl 0 rfl) ?_
              refine lv_iload_n hx hb_ dX3_grow_49 rfl (lv_at hl 3 rfl) ?_
              refine lv_iload_n hx hb_ dX3_grow_50 rfl (lv_at hl 1 rfl) ?_
              refine z_kv hw hA (va_runV (As := [.int (nI jA), .int (nI pre.length)]) (rest := []) hcf (c_X3_lay lau cD cy _ r_ (zsI (zsA (zsA (zsA S_ (r_ 12) cod) (r_ 15) (zA S_ (r_ 15))) (r_ 16) la) 305 (r_ 10) (nI (cn + T.length))) hSh jA pre.length (by omega) (by omega)) (cwV 2 hts gX3_grow_X3_lay rfl rfl rfl (by decide +kernel) ⟨Nat.le_of_ble_eq_true rfl, Nat.le_of_ble_eq_true rfl⟩) (z_preV (k := 3) hK_ hE hw (cL hSh 10) (cK hSh 10) (by decide) rfl) rfl rfl hl.1 rfl (lv_room (Nat.le_of_ble_eq_true rfl)) dX3_grow_51 ⟨Nat.le_of_ble_eq_true rfl, Nat.le_of_ble_eq_true rfl⟩) (fun S9 H_ locs_ hp hw => ?_)
              obtain rfl := hp
              rw [show zA (zsI (zsA (zsA (zsA S_ (r_ 12) cod) (r_ 15) (zA S_ (r_ 15))) (r_ 16) la) 305 (r_ 10) (nI (cn + T.length))) (r_ 15) = _ from (zA_I.trans ((zA_ne _ _ (cNe hSh (i := 15) (j := 16) (by decide) (by decide) (by decide))).trans (zA_zsA _ _ _))), show zA (zsI (zsA (zsA (zsA S_ (r_ 12) cod) (r_ 15) (zA S_ (r_ 15))) (r_ 16) la) 305 (r_ 10) (nI (cn + T.length))) (r_ 16) = _ from (zA_I.trans (zA_zsA _ _ _))] at hw
              obtain ⟨f10, hf10⟩ : ∃ zz, zz = (upd (zA S_ (r_ 15)) jA (nI pre.length)) := ⟨_, rfl⟩
              rw [← hf10] at hw
              rw [zsA_zsI, zsA_comm _ _ _ (cNe hSh (i := 16) (j := 15) (by decide) (by decide) (by decide)), zsA_zsA] at hw
              obtain ⟨f11, hf11⟩ : ∃ zz, zz = (upd la pre.length (nI jA)) := ⟨_, rfl⟩
              rw [← hf11] at hw
              rw [zsA_zsI, zsA_zsA] at hw
              have hSh : ShC (zsI (zsA (zsA (zsA S_ (r_ 12) cod) (r_ 15) f10) (r_ 16) f11) 305 (r_ 10) (nI (cn + T.length))) r_ := (sh_IC (sh_AC (sh_AC (sh_AC hSh0))))
              refine lv_aload_n hx hb_ dX3_grow_54 rfl (lv_at hl 0 rfl) ?_
              refine lv_iload_n hx hb_ dX3_grow_55 rfl (lv_at hl 1 rfl) ?_
              refine lv_iconst (v := 1) hx hb_ dX3_grow_56 (by decide) ?_
              refine lv_iadd hx hb_ dX3_grow_57 ?_
              refine z_topi (y := (nI (pre ++ [jA]).length)) (by rw [nI_1, List.length_append]; rfl) ?_
              refine lv_iload_n hx hb_ dX3_grow_58 rfl (lv_at hl 2 rfl) ?_
              refine lv_iload_n hx hb_ dX3_grow_59 rfl (lv_at hl 3 rfl) ?_
              refine lv_iconst (v := 3) hx hb_ dX3_grow_60 (by decide) ?_
              refine lv_iload_n hx hb_ dX3_grow_61 rfl (lv_at hl 1 rfl) ?_
              refine lv_imul hx hb_ dX3_grow_62 ?_
              refine lv_ishl hx hb_ dX3_grow_63 ?_
              refine lv_ior hx hb_ dX3_grow_64 ?_
              refine z_topi (y := (cdI (pre ++ [jA]))) (cdI_app pre jA) ?_
              refine z_kv hw hA (va_runS (As := [.ref (r_ 10), .int (nI (pre ++ [jA]).length), .int (cdI (pre ++ [jA]))]) (rest := []) hcf (c_X3_grow_7 lau cD cy _ r_ (zsI (zsA (zsA (zsA S_ (r_ 12) cod) (r_ 15) f10) (r_ 16) f11) 305 (r_ 10) (nI (cn + T.length))) hSh n_ (cn + T.length) ee (pre ++ [jA]) (by rw [List.length_append, List.length_singleton]; omega) hn (by rw [List.length_append, List.length_singleton]; omega) (fun x_ hx => (List.mem_append.mp hx).elim (fun q_ => hb8 x_ q_) (fun q_ => by rw [List.mem_singleton] at q_; omega)) ((zI_nj (by decide)).trans (zI_A.trans (zI_A.trans (zI_A.trans hs)))) zI_at (by rw [cGf, if_neg hnm, if_pos hft] at hle; omega) (fun k_ hk => by rw [congrFun (show zA (zsI (zsA (zsA (zsA S_ (r_ 12) cod) (r_ 15) f10) (r_ 16) f11) 305 (r_ 10) (nI (cn + T.length))) (r_ 15) = f10 from (zA_I.trans ((zA_ne _ _ (cNe hSh (i := 15) (j := 16) (by decide) (by decide) (by decide))).trans (zA_zsA _ _ _)))) k_, hf10, pos_app hnm]; exact (Decidable.em (k_ = jA)).elim (fun q_ => by rw [q_, upd_at, if_pos rfl]) (fun q_ => by rw [upd_no _ _ q_, if_neg q_]; exact hP k_ hk)) (fun k_ hk => by rw [congrFun (show zA (zsI (zsA (zsA (zsA S_ (r_ 12) cod) (r_ 15) f10) (r_ 16) f11) 305 (r_ 10) (nI (cn + T.length))) (r_ 16) = f11 from (zA_I.trans (zA_zsA _ _ _))) k_, hf11]; rw [List.length_append, List.length_singleton] at hk; exact (Decidable.em (k_ = pre.length)).elim (fun q_ => by rw [q_, upd_at]; simp [List.getD_eq_getElem?_getD]) (fun q_ => by rw [upd_no _ _ q_, hla k_ (by omega), List.getD_eq_getElem?_getD, List.getD_eq_getElem?_getD, List.getElem?_append_left (by omega)]))) (va_cwS 3 hts gX3_grow_X3_grow rfl rfl rfl (by decide +kernel) ⟨Nat.le_of_ble_eq_true rfl, Nat.le_of_ble_eq_true rfl⟩) (z_preS hK_ hE hw) rfl rfl hl.1 rfl (lv_room (Nat.le_of_ble_eq_true rfl)) dX3_grow_65 ⟨Nat.le_of_ble_eq_true rfl, Nat.le_of_ble_eq_true rfl⟩) (fun S13 H_ locs_ hp hw => ?_)
              obtain ⟨cod14, la15, rfl, hc1, hc2, hl2⟩ := hp
              rw [show zA (zsI (zsA (zsA (zsA S_ (r_ 12) cod) (r_ 15) f10) (r_ 16) f11) 305 (r_ 10) (nI (cn + T.length))) (r_ 15) = _ from (zA_I.trans ((zA_ne _ _ (cNe hSh (i := 15) (j := 16) (by decide) (by decide) (by decide))).trans (zA_zsA _ _ _)))] at hw
              rw [zsA_zsI, zsA_comm _ _ _ (cNe hSh (i := 16) (j := 12) (by decide) (by decide) (by decide)), zsA_comm _ _ _ (cNe hSh (i := 15) (j := 12) (by decide) (by decide) (by decide)), zsA_zsA] at hw
              rw [zsA_zsI, zsA_comm _ _ _ (cNe hSh (i := 16) (j := 15) (by decide) (by decide) (by decide)), zsA_zsA] at hw
              rw [zsA_zsI, zsA_zsA] at hw
              rw [zsI_zsI] at hw
              have hSh : ShC (zsI (zsA (zsA (zsA S_ (r_ 12) cod14) (r_ 15) f10) (r_ 16) la15) 305 (r_ 10) (nI (cn + T.length + (cG n_ ee (pre ++ [jA])).length))) r_ := (sh_IC (sh_AC (sh_AC (sh_AC hSh0))))
              refine lv_aload_n hx hb_ dX3_grow_68 rfl (lv_at hl 0 rfl) ?_
              refine lv_iload_n hx hb_ dX3_grow_69 rfl (lv_at hl 3 rfl) ?_
              refine z_kv hw hA (va_runV (As := [.int (nI jA)]) (rest := []) hcf (c_X3_lift lau cD cy _ r_ (zsI (zsA (zsA (zsA S_ (r_ 12) cod14) (r_ 15) f10) (r_ 16) la15) 305 (r_ 10) (nI (cn + T.length + (cG n_ ee (pre ++ [jA])).length))) hSh jA (by omega)) (cwV 1 hts gX3_grow_X3_lift rfl rfl rfl (by decide +kernel) ⟨Nat.le_of_ble_eq_true rfl, Nat.le_of_ble_eq_true rfl⟩) (z_preV (k := 3) hK_ hE hw (cL hSh 10) (cK hSh 10) (by decide) rfl) rfl rfl hl.1 rfl (lv_room (Nat.le_of_ble_eq_true rfl)) dX3_grow_70 ⟨Nat.le_of_ble_eq_true rfl, Nat.le_of_ble_eq_true rfl⟩) (fun S17 H_ locs_ hp hw => ?_)
              obtain rfl := hp
              rw [show zA (zsI (zsA (zsA (zsA S_ (r_ 12) cod14) (r_ 15) f10) (r_ 16) la15) 305 (r_ 10) (nI (cn + T.length + (cG n_ ee (pre ++ [jA])).length))) (r_ 15) = _ from (zA_I.trans ((zA_ne _ _ (cNe hSh (i := 15) (j := 16) (by decide) (by decide) (by decide))).trans (zA_zsA _ _ _)))] at hw
              obtain ⟨f18, hf18⟩ : ∃ zz, zz = (upd f10 jA (-1)) := ⟨_, rfl⟩
              rw [← hf18] at hw
              rw [zsA_zsI, zsA_comm _ _ _ (cNe hSh (i := 16) (j := 15) (by decide) (by decide) (by decide)), zsA_zsA] at hw
              have hSh : ShC (zsI (zsA (zsA (zsA S_ (r_ 12) cod14) (r_ 15) f18) (r_ 16) la15) 305 (r_ 10) (nI (cn + T.length + (cG n_ ee (pre ++ [jA])).length))) r_ := (sh_IC (sh_AC (sh_AC (sh_AC hSh0))))
              have hpl : f18 = zA S_ (r_ 15) := funext fun k_ => by rw [hf18, hf10]; exact (Decidable.em (k_ = jA)).elim (fun q_ => by rw [q_, upd_at]; exact (pos_no hnm).symm.trans (hP jA (by omega)).symm) (fun q_ => by rw [upd_no _ _ q_, upd_no _ _ q_])
              rw [hpl] at hw
              have hSh : ShC (zsI (zsA (zsA (zsA S_ (r_ 12) cod14) (r_ 15) (zA S_ (r_ 15))) (r_ 16) la15) 305 (r_ 10) (nI (cn + T.length + (cG n_ ee (pre ++ [jA])).length))) r_ := (sh_IC (sh_AC (sh_AC (sh_AC hSh0))))
              obtain ⟨i2_, ei2⟩ : ∃ y_ : Int32, y_ = (nI jA) + 1 := ⟨_, rfl⟩
              refine lv_iinc (v := i2_) (lv' := [(3, .int i2_), (0, .ref (r_ 10)), (1, .int (nI pre.length)), (2, .int (cdI pre))]) hx hb_ dX3_grow_73 hl (k := 3) rfl (by rw [ei2]; rfl) (by decide) rfl (fun ls hl => ?_)
              refine lv_goto (tgt := 22) hx hb_ dX3_grow_76 (by decide) ?_
              have hG : cGf n_ ee pre jA = cG n_ ee (pre ++ [jA]) := by rw [cGf, if_neg hnm, if_pos hft]
              have ecc : cn + T.length + (cG n_ ee (pre ++ [jA])).length = cn + (T ++ cG n_ ee (pre ++ [jA])).length := by rw [List.length_append]; omega
              rw [ecc] at hw
              refine ihA (jA + 1) i2_ (by rw [ei2]; exact nI_1 jA) (by omega) (by omega) cod14 la15 (T ++ cG n_ ee (pre ++ [jA])) (by rw [rg_fm, hG, hT]) (fun k_ hk => (hc1 k_ (by omega)).trans ((congrFun (show zA (zsI (zsA (zsA (zsA S_ (r_ 12) cod) (r_ 15) f10) (r_ 16) f11) 305 (r_ 10) (nI (cn + T.length))) (r_ 12) = cod from (zA_I.trans ((zA_ne _ _ (cNe hSh (i := 12) (j := 16) (by decide) (by decide) (by decide))).trans ((zA_ne _ _ (cNe hSh (i := 12) (j := 15) (by decide) (by decide) (by decide))).trans (zA_zsA _ _ _))))) k_).trans (hk1 k_ hk))) (fun i_ hi_ => ?_) (fun k_ hk => ?_) _ _ hw ls (lv_sub hl [1, 2, 3, 0] rfl)
              · rcases Nat.lt_or_ge i_ T.length with q_ | q_
                · rw [hc1 (cn + i_) (by omega), congrFun (show zA (zsI (zsA (zsA (zsA S_ (r_ 12) cod) (r_ 15) f10) (r_ 16) f11) 305 (r_ 10) (nI (cn + T.length))) (r_ 12) = cod from (zA_I.trans ((zA_ne _ _ (cNe hSh (i := 12) (j := 16) (by decide) (by decide) (by decide))).trans ((zA_ne _ _ (cNe hSh (i := 12) (j := 15) (by decide) (by decide) (by decide))).trans (zA_zsA _ _ _))))) (cn + i_), hk2 i_ q_, List.getD_eq_getElem?_getD, List.getD_eq_getElem?_getD, List.getElem?_append_left q_]
                · rw [List.length_append] at hi_
                  have := hc2 (i_ - T.length) (by omega)
                  rw [show cn + T.length + (i_ - T.length) = cn + i_ by omega] at this
                  rw [this, List.getD_eq_getElem?_getD, List.getD_eq_getElem?_getD, List.getElem?_append_right q_]
              · rw [hl2 k_ (by rw [List.length_append]; omega), congrFun (show zA (zsI (zsA (zsA (zsA S_ (r_ 12) cod) (r_ 15) f10) (r_ 16) f11) 305 (r_ 10) (nI (cn + T.length))) (r_ 16) = f11 from (zA_I.trans (zA_zsA _ _ _))) k_, hf11, upd_no _ _ (by omega)]; exact hla k_ hk
    exact JA (n_ + 1) 0 0 nI_0.symm (Nat.zero_le _) (by omega) (zA S_ (r_ 12)) (zA S_ (r_ 16)) [] rfl (fun k_ hk => rfl) (fun i_ hi_ => absurd hi_ (Nat.not_lt_zero i_)) hA2 _ _ (by rw [zsA_self, zsA_self, zsA_self, show cn + ([] : List (List Nat)).length = cn from rfl, zsI_self hcc]; exact hw) ls (lv_sub hl [1, 2, 3, 0] rfl)
