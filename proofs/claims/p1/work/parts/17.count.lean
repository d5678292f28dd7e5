
theorem cG_n1 : (cG 1 1 []).length = 1 := by decide +kernel
theorem cG_n2 : (cG 2 2 []).length = 2 := by decide +kernel
theorem cG_n3 : (cG 3 3 []).length = 6 := by decide +kernel
theorem cG_n4 : (cG 4 4 []).length = 16 := by decide +kernel
theorem cG_n5 : (cG 5 5 []).length = 50 := by decide +kernel
theorem cG_n6 : (cG 6 6 []).length = 144 := by decide +kernel

theorem cG_n7_0 : (cG 7 6 [0]).length = 66 := by decide +kernel
theorem cG_n7_1 : (cG 7 6 [1]).length = 66 := by decide +kernel
theorem cG_n7_2 : (cG 7 6 [2]).length = 66 := by decide +kernel
theorem cG_n7_3 : (cG 7 6 [3]).length = 66 := by decide +kernel
theorem cG_n7_4 : (cG 7 6 [4]).length = 66 := by decide +kernel
theorem cG_n7_5 : (cG 7 6 [5]).length = 66 := by decide +kernel
theorem cG_n7_6 : (cG 7 6 [6]).length = 66 := by decide +kernel
theorem cG_n7 : (cG 7 7 []).length = 462 := by
  have e : cG 7 7 [] = cG 7 6 [0] ++ cG 7 6 [1] ++ cG 7 6 [2] ++ cG 7 6 [3] ++ cG 7 6 [4] ++ cG 7 6 [5] ++ cG 7 6 [6] := by
    show (List.range 7).flatMap _ = _
    rw [show List.range 7 = [0, 1, 2, 3, 4, 5, 6] from rfl]
    simp only [List.flatMap_cons, List.flatMap_nil, List.not_mem_nil, if_false, List.nil_append, List.append_nil]
    rw [if_pos (show cFit 7 [] 0 = true from by decide), if_pos (show cFit 7 [] 1 = true from by decide), if_pos (show cFit 7 [] 2 = true from by decide), if_pos (show cFit 7 [] 3 = true from by decide), if_pos (show cFit 7 [] 4 = true from by decide), if_pos (show cFit 7 [] 5 = true from by decide), if_pos (show cFit 7 [] 6 = true from by decide)]
    simp only [List.append_assoc]
  rw [e]; simp only [List.length_append, cG_n7_0, cG_n7_1, cG_n7_2, cG_n7_3, cG_n7_4, cG_n7_5, cG_n7_6]
theorem cG_n8_0 : (cG 8 7 [0]).length = 174 := by decide +kernel
theorem cG_n8_1 : (cG 8 7 [1]).length = 174 := by decide +kernel
theorem cG_n8_2 : (cG 8 7 [2]).length = 174 := by decide +kernel
theorem cG_n8_3 : (cG 8 7 [3]).length = 174 := by decide +kernel
theorem cG_n8_4 : (cG 8 7 [4]).length = 174 := by decide +kernel
theorem cG_n8_5 : (cG 8 7 [5]).length = 174 := by decide +kernel
theorem cG_n8_6 : (cG 8 7 [6]).length = 174 := by decide +kernel
theorem cG_n8_7 : (cG 8 7 [7]).length = 174 := by decide +kernel
theorem cG_n8 : (cG 8 8 []).length = 1392 := by
  have e : cG 8 8 [] = cG 8 7 [0] ++ cG 8 7 [1] ++ cG 8 7 [2] ++ cG 8 7 [3] ++ cG 8 7 [4] ++ cG 8 7 [5] ++ cG 8 7 [6] ++ cG 8 7 [7] := by
    show (List.range 8).flatMap _ = _
    rw [show List.range 8 = [0, 1, 2, 3, 4, 5, 6, 7] from rfl]
    simp only [List.flatMap_cons, List.flatMap_nil, List.not_mem_nil, if_false, List.nil_append, List.append_nil]
    rw [if_pos (show cFit 8 [] 0 = true from by decide), if_pos (show cFit 8 [] 1 = true from by decide), if_pos (show cFit 8 [] 2 = true from by decide), if_pos (show cFit 8 [] 3 = true from by decide), if_pos (show cFit 8 [] 4 = true from by decide), if_pos (show cFit 8 [] 5 = true from by decide), if_pos (show cFit 8 [] 6 = true from by decide), if_pos (show cFit 8 [] 7 = true from by decide)]
    simp only [List.append_assoc]
  rw [e]; simp only [List.length_append, cG_n8_0, cG_n8_1, cG_n8_2, cG_n8_3, cG_n8_4, cG_n8_5, cG_n8_6, cG_n8_7]

theorem cG_len {n : Nat} (h1 : 1 ≤ n) (h8 : n ≤ 8) : 1 ≤ (cG n n []).length ∧ (cG n n []).length ≤ 1392 := by
  rcases (show n = 1 ∨ n = 2 ∨ n = 3 ∨ n = 4 ∨ n = 5 ∨ n = 6 ∨ n = 7 ∨ n = 8 by omega) with rfl | rfl | rfl | rfl | rfl | rfl | rfl | rfl
  · rw [cG_n1]; decide
  · rw [cG_n2]; decide
  · rw [cG_n3]; decide
  · rw [cG_n4]; decide
  · rw [cG_n5]; decide
  · rw [cG_n6]; decide
  · rw [cG_n7]; decide
  · rw [cG_n8]; decide
/-! a code's leaves by shifts -/
def cdN (P : List Nat) : Nat → Nat
  | 0 => 0
  | k + 1 => cdN P k + 8 ^ k * P.getD k 0
theorem sh3 : ∀ l, l < 8 → ∀ k, k < 8 → nI l <<< ((3 * nI k) &&& 31) = nI (8 ^ k * l) := by decide +kernel
theorem nI_tn {a : Nat} (h : a < 2 ^ 31) : (nI a).toBitVec.toNat = a := by
  show (BitVec.ofNat 32 a).toNat = a
  rw [BitVec.toNat_ofNat, Nat.mod_eq_of_lt (by omega)]
theorem nI_or {a b : Nat} (ha : a < 2 ^ 31) (hb : b < 2 ^ 31) : nI a ||| nI b = nI (a ||| b) := by
  apply Int32.toBitVec_inj.mp
  apply BitVec.eq_of_toNat_eq
  rw [Int32.toBitVec_or, BitVec.toNat_or, nI_tn ha, nI_tn hb, nI_tn (Nat.or_lt_two_pow ha hb)]
theorem cdN_lt {P : List Nat} (h : ∀ k, P.getD k 0 < 8) : ∀ k, cdN P k < 8 ^ k
  | 0 => by simp [cdN]
  | k + 1 => by
    have h1 := cdN_lt h k
    have h2 := h k
    simp only [cdN, Nat.pow_succ]
    have : 8 ^ k * P.getD k 0 ≤ 8 ^ k * 7 := Nat.mul_le_mul_left _ (by omega)
    omega
theorem cdk_N {P : List Nat} (h : ∀ k, P.getD k 0 < 8) : ∀ {k : Nat}, k ≤ 8 → cdk P k = nI (cdN P k)
  | 0, _ => rfl
  | k + 1, hk => by
    have h1 := cdN_lt h k
    have h2 := cdN_lt h (k + 1)
    have h3 : 8 ^ (k + 1) ≤ 8 ^ 8 := Nat.pow_le_pow_right (n := 8) (by decide) hk
    have h4 : (8 : Nat) ^ k ≤ 8 ^ 8 := Nat.pow_le_pow_right (n := 8) (by decide) (by omega)
    have h5 : (8 : Nat) ^ 8 = 16777216 := by decide
    simp only [cdN] at h2
    simp only [cdk, cdN]
    rw [cdk_N h (by omega), sh3 _ (h k) _ (by omega), nI_or (by omega) (by omega)]
    congr 1
    have e : (8 : Nat) ^ k = 2 ^ (3 * k) := by rw [Nat.pow_mul]
    rw [e] at h1 ⊢
    rw [Nat.or_comm, ← Nat.two_pow_add_eq_or_of_lt h1, Nat.add_comm]
theorem sm_t2 : ∀ s, s < 32 → (((nI s &&& 31) : Int32).toBitVec.smod 32).toNat = s := by decide +kernel
theorem nI_div {m s : Nat} (hm : m < 2 ^ 31) (hs : s < 32) : nI m >>> (nI s &&& 31) = nI (m / 2 ^ s) := pk_shrN hm _ s (sm_t2 s hs)
theorem nI_and7 {m : Nat} (hm : m < 2 ^ 31) : nI m &&& 7 = nI (m % 8) := by
  apply Int32.toBitVec_inj.mp
  apply BitVec.eq_of_toNat_eq
  show ((nI m).toBitVec &&& (nI 7).toBitVec).toNat = _
  rw [BitVec.toNat_and, nI_tn hm, nI_tn (by omega), nI_tn (by omega)]
  exact Nat.and_two_pow_sub_one_eq_mod m 3
theorem cdN_get {P : List Nat} (h : ∀ k, P.getD k 0 < 8) : ∀ {n k : Nat}, k < n → cdN P n / 8 ^ k % 8 = P.getD k 0
  | 0, k, hk => absurd hk (Nat.not_lt_zero k)
  | n + 1, k, hk => by
    have h1 := cdN_lt h n
    have h2 := h n
    simp only [cdN]
    rcases Nat.lt_or_ge k n with q | q
    · obtain ⟨d, rfl⟩ : ∃ d, n = k + (d + 1) := ⟨n - k - 1, by omega⟩
      rw [Nat.pow_add, Nat.mul_assoc, Nat.add_mul_div_left _ _ (Nat.pow_pos (by decide)), Nat.pow_succ, Nat.mul_comm (8 ^ d) 8, Nat.mul_assoc, Nat.add_mul_mod_self_left]
      exact cdN_get h q
    · obtain rfl : k = n := by omega
      rw [Nat.add_mul_div_left _ _ (Nat.pow_pos (by decide)), Nat.div_eq_of_lt h1, Nat.zero_add, Nat.mod_eq_of_lt h2]
theorem cd_get {P : List Nat} (h : ∀ k, P.getD k 0 < 8) (hl : P.length ≤ 8) {k : Nat} (hk : k < P.length) : (cdI P >>> ((3 * nI k) &&& 31)) &&& 7 = nI (P.getD k 0) := by
  have h1 := cdN_lt h P.length
  have h3 : (8 : Nat) ^ P.length ≤ 8 ^ 8 := Nat.pow_le_pow_right (n := 8) (by decide) hl
  have h5 : (8 : Nat) ^ 8 = 16777216 := by decide
  have e3 : ∀ k, k < 8 → (3 : Int32) * nI k = nI (3 * k) := by decide +kernel
  have hm : cdN P P.length < 2 ^ 31 := by omega
  rw [cdI, cdk_N h hl, e3 k (by omega), nI_div hm (by omega), nI_and7 (Nat.lt_of_le_of_lt (Nat.div_le_self _ _) hm), Nat.pow_mul]
  exact congrArg nI (cdN_get h hk)
/-- the members of a list of orders -/
theorem cG_mem {n : Nat} {P : List Nat} (h : P ∈ cG n n []) : P.length = n ∧ ∀ x, x ∈ P → x < n := by
  rw [cG_flt] at h
  obtain ⟨s, h1, h2, h3, -⟩ := aG_mem (List.mem_filter.mp h).1
  rw [List.nil_append] at h1
  subst h1
  exact ⟨h2, h3⟩
theorem cG_at {n i : Nat} (hi : i < (cG n n []).length) : ((cG n n []).getD i []).length = n ∧ ∀ x, x ∈ (cG n n []).getD i [] → x < n := by
  apply cG_mem
  rw [List.getD_eq_getElem?_getD, List.getElem?_eq_getElem hi]; exact List.getElem_mem hi
theorem getD_lt {P : List Nat} {b : Nat} (hb : 0 < b) (h : ∀ x, x ∈ P → x < b) (k : Nat) : P.getD k 0 < b := by
  rw [List.getD_eq_getElem?_getD]
  by_cases q : k < P.length
  · rw [List.getElem?_eq_getElem q]; exact h _ (List.getElem_mem q)
  · rw [List.getElem?_eq_none (by omega)]; exact hb
def q_orders (n : Int32) : Int32 := if n < 1 ∨ ¬ n ≤ 8 then -6 else nI (cG n.toNatClampNeg n.toNatClampNeg []).length
def q_order (n i p : Int32) : Int32 := if i < 0 ∨ p < 0 then -5 else if n < 1 ∨ ¬ n ≤ 8 then -6 else if p < n ∧ i < q_orders n then nI (((cG n.toNatClampNeg n.toNatClampNeg []).getD i.toNatClampNeg []).getD p.toNatClampNeg 0) else -5


theorem q_orders_in {n : Int32} {n0 : Nat} (h1 : ¬ n < 1) (h2 : n ≤ 8) (en : n = nI n0) (h8 : n0 ≤ 8) : q_orders n = nI (cG n0 n0 []).length := by
  have : n.toNatClampNeg = n0 := by rw [en]; exact nI_clamp (by omega)
  unfold q_orders
  rw [if_neg (by simp [h1, h2]), this]
theorem q_order_in {n i p : Int32} {n0 i0 p0 : Nat} (hi : ¬ i < 0) (hp : ¬ p < 0) (h1 : ¬ n < 1) (h2 : n ≤ 8) (en : n = nI n0) (h8 : n0 ≤ 8) (ei : i = nI i0) (hi0 : i0 < 2 ^ 31) (ep : p = nI p0) (hp0 : p0 < n0) (hlt : i < nI (cG n0 n0 []).length) : q_order n i p = nI (((cG n0 n0 []).getD i0 []).getD p0 0) := by
  have e1 : n.toNatClampNeg = n0 := by rw [en]; exact nI_clamp (by omega)
  have e2 : i.toNatClampNeg = i0 := by rw [ei]; exact nI_clamp hi0
  have e3 : p.toNatClampNeg = p0 := by rw [ep]; exact nI_clamp (by omega)
  have l1 : p < n := by rw [ep, en]; exact nI_lt hp0 (by omega)
  unfold q_order
  rw [if_neg (by simp [hi, hp]), if_neg (by simp [h1, h2]), q_orders_in h1 h2 en h8, if_pos ⟨l1, hlt⟩, e1, e2, e3]
theorem q_order_out {n i p : Int32} {n0 : Nat} (hi : ¬ i < 0) (hp : ¬ p < 0) (h1 : ¬ n < 1) (h2 : n ≤ 8) (en : n = nI n0) (h8 : n0 ≤ 8) (h : ¬ p < n ∨ ¬ i < nI (cG n0 n0 []).length) : q_order n i p = -5 := by
  unfold q_order
  rw [if_neg (by simp [hi, hp]), if_neg (by simp [h1, h2]), q_orders_in h1 h2 en h8, if_neg (fun q => h.elim (fun z => z q.1) (fun z => z q.2))]

set_option maxHeartbeats 1000000 in
set_option maxRecDepth 100000 in
theorem c_X3_clear (lau : Launch) (cD : va_G) (cy : Nat → ClassId) (sz_ : Nat) (r_ : Nat → Nat) (S_ : zS) (hSh : ShC S_ r_) (x_ : Int32) : Met lau yX3_clear wsX3_clear ({ frames := 1, cells := 0, slots := 0, locals := 23 } : Room) (va_Pc [.ref (r_ 10), .int x_] (zPre cD cy S_ sz_)) (va_Qv (fun (S1 : zS) => ∃ fl, S1 = zsA (zsI S_ 306 (r_ 10) x_) (r_ 15) fl ∧ ∀ k_, k_ < 8 → fl k_ = -1) (zPost cD cy (zAd cy S_ sz_)) (zAd cy S_ sz_)) 0 0 (zAd cy S_ sz_) := by
  refine z_ofW (cc := cX3_clear) (maxL := 2) (ret := none) (own := RX3) (QQ := fun A_ => va_Qv (fun (S1 : zS) => ∃ fl, S1 = zsA (zsI S_ 306 (r_ 10) x_) (r_ 15) fl ∧ ∀ k_, k_ < 8 → fl k_ = -1) (zPost cD cy A_) A_) (by decide) rfl rfl (Nat.le_of_ble_eq_true rfl) ?_
  intro p_ e_ s_ m_ args_ below_ meth_ c_ A_ ls hcf hr hlk hnm hK_ hE hw hA hl
  obtain ⟨hx, hb_, hml, hown, hts⟩ := id hcf
  have hin3 : ∀ w_ ∈ wsX30, w_ ∈ wsX3_clear := fun w_ h_ => (List.mem_cons_of_mem _ (List.mem_append_right _ h_))
  have hl : lv_has ls 2 [(0, .ref (r_ 10)), (1, .int x_)] := hl
  have hSh0 := hSh
  refine lv_aload_n hx hb_ dX3_clear_0 rfl (lv_at hl 0 rfl) ?_
  refine lv_iload_n hx hb_ dX3_clear_1 rfl (lv_at hl 1 rfl) ?_
  refine z_putI (k := 3) (i := 6) (j := 306) (x := x_) (v := .int x_) (ty := .int) (ref := "FoldedInHalf$Leaves") (C := RX3) (T := TX3) (N := 7) tyX3 hcf hK_ hw hin3 tyX3_ok nmX3 (cL hSh 10) (cK hSh 10) rfl (by decide) (by decide) rfl rfl (List.mem_of_getElem? (i := 1) rfl) (fun _ h_ => h_) rfl rfl (by decide +kernel) rfl rfl dX3_clear_2 (fun H_ locs_ hw => ?_)
  have hSh : ShC (zsI S_ 306 (r_ 10) x_) r_ := (sh_IC hSh0)
  refine lv_aload_n hx hb_ dX3_clear_5 rfl (lv_at hl 0 rfl) ?_
  refine z_get (k := 3) (i := 3) (j := 303) (v := .ref (r_ 15)) (ref := "FoldedInHalf$Leaves") (C := RX3) (T := TX3) (N := 7) hcf hK_ hw hin3 (cL hSh 10) (cK hSh 10) rfl (by decide) (by decide) rfl rfl (congrArg va_rf (cP hSh 14)) (List.mem_of_getElem? (i := 2) rfl) (fun _ h_ => h_) dX3_clear_6 ?_
  refine lv_iconst (v := (-1)) hx hb_ dX3_clear_9 (by decide) ?_
  refine z_kv hw hA (va_runS (As := [.ref (r_ 15), .int (-1)]) (rest := []) hcf (c_J7_fill_53178 lau cD cy _ (zsI S_ 306 (r_ 10) x_) (r_ 15) 8 (-1) (cL hSh 15) (cK hSh 15) (cN hSh 15) (by decide)) (va_cwS 2 hts gX3_clear_J7_fill_53178 rfl rfl rfl (by decide +kernel) ⟨Nat.le_of_ble_eq_true rfl, Nat.le_of_ble_eq_true rfl⟩) (z_preS hK_ hE hw) rfl rfl hl.1 rfl (lv_room (Nat.le_of_ble_eq_true rfl)) dX3_clear_10 ⟨Nat.le_of_ble_eq_true rfl, Nat.le_of_ble_eq_true rfl⟩) (fun S2 H_ locs_ hp hw => ?_)
  obtain ⟨fl3, rfl, hfl3, -⟩ := hp
  have hSh : ShC (zsA (zsI S_ 306 (r_ 10) x_) (r_ 15) fl3) r_ := (sh_AC (sh_IC hSh0))
  exact z_vret hcf hr hlk hw (⟨fl3, rfl, fun k_ hk => hfl3 k_ hk⟩) dX3_clear_13

set_option maxHeartbeats 1000000 in
set_option maxRecDepth 100000 in
theorem c_X3_countOf_1 (lau : Launch) (cD : va_G) (cy : Nat → ClassId) (sz_ : Nat) (r_ : Nat → Nat) (S_ : zS) (hSh : ShC S_ r_) (hF : FrC S_ r_) (n0_ : Nat) (hn1 : 1 ≤ n0_) (hn8 : n0_ ≤ 8) : Met lau yX3_countOf wsX3_countOf ({ frames := 11, cells := 0, slots := 0, locals := 255 } : Room) (va_Pc [.ref (r_ 10), .int (nI n0_)] (zPre cD cy S_ sz_)) (va_Qi (fun (v_ : Int32) (S1 : zS) => ∃ cod fr ct po la : Nat → Int32, S1 = zsA (zsI (zsA (zsA (zsA (zsA (zsI S_ 306 (r_ 10) (nI n0_)) (r_ 15) po) (r_ 13) fr) (r_ 12) cod) (r_ 16) la) 305 (r_ 10) (nI (0 + (cG n0_ n0_ []).length))) (r_ 14) ct ∧ fr n0_ = 0 ∧ ct n0_ = nI (cG n0_ n0_ []).length ∧ (∀ i_, i_ < (cG n0_ n0_ []).length → cod i_ = cdI ((cG n0_ n0_ []).getD i_ [])) ∧ v_ = nI (cG n0_ n0_ []).length) (zPost cD cy (zAd cy S_ sz_)) (zAd cy S_ sz_)) 0 0 (zAd cy S_ sz_) := by
  refine z_ofW (cc := cX3_countOf) (maxL := 2) (ret := (some .int)) (own := RX3) (QQ := fun A_ => va_Qi (fun (v_ : Int32) (S1 : zS) => ∃ cod fr ct po la : Nat → Int32, S1 = zsA (zsI (zsA (zsA (zsA (zsA (zsI S_ 306 (r_ 10) (nI n0_)) (r_ 15) po) (r_ 13) fr) (r_ 12) cod) (r_ 16) la) 305 (r_ 10) (nI (0 + (cG n0_ n0_ []).length))) (r_ 14) ct ∧ fr n0_ = 0 ∧ ct n0_ = nI (cG n0_ n0_ []).length ∧ (∀ i_, i_ < (cG n0_ n0_ []).length → cod i_ = cdI ((cG n0_ n0_ []).getD i_ [])) ∧ v_ = nI (cG n0_ n0_ []).length) (zPost cD cy A_) A_) (by decide) rfl rfl (Nat.le_of_ble_eq_true rfl) ?_
  intro p_ e_ s_ m_ args_ below_ meth_ c_ A_ ls hcf hr hlk hnm hK_ hE hw hA hl
  obtain ⟨hx, hb_, hml, hown, hts⟩ := id hcf
  have hin3 : ∀ w_ ∈ wsX30, w_ ∈ wsX3_countOf := fun w_ h_ => (List.mem_cons_of_mem _ (List.mem_append_right _ h_))
  have hl : lv_has ls 2 [(0, .ref (r_ 10)), (1, .int (nI n0_))] := hl
  have hSh0 := hSh
  refine lv_iload_n hx hb_ dX3_countOf_0 rfl (lv_at hl 1 rfl) ?_
  refine lv_iconst (v := 1) hx hb_ dX3_countOf_1 (by decide) ?_
  refine lv_icmp_lt (tgt := 11) hx hb_ dX3_countOf_2 (by decide) (fun c_2 => absurd c_2 (nI_nlt (a := n0_) (b := 1) hn1 (by omega))) (fun c_2 => ?_)
  refine lv_iload_n hx hb_ dX3_countOf_5 rfl (lv_at hl 1 rfl) ?_
  refine lv_bipush (v := 8) hx hb_ dX3_countOf_6 (by decide) ?_
  refine lv_icmp_le (tgt := 13) hx hb_ dX3_countOf_8 (by decide) (fun c_8 => ?_) (fun c_8 => absurd (nI_le (b := 8) hn8 (by decide)) c_8)
  refine lv_aload_n hx hb_ dX3_countOf_13 rfl (lv_at hl 0 rfl) ?_
  refine z_get (k := 3) (i := 2) (j := 302) (v := .ref (r_ 14)) (ref := "FoldedInHalf$Leaves") (C := RX3) (T := TX3) (N := 7) hcf hK_ hw hin3 (cL hSh 10) (cK hSh 10) rfl (by decide) (by decide) rfl rfl (congrArg va_rf (cP hSh 13)) (List.mem_of_getElem? (i := 1) rfl) (fun _ h_ => h_) dX3_countOf_14 ?_
  refine lv_iload_n hx hb_ dX3_countOf_17 rfl (lv_at hl 1 rfl) ?_
  refine z_iald (n := 9) hcf hK_ hw (cL hSh 14) (cK hSh 14) (cN hSh 14) (vp_in_nI (show n0_ < 9 by omega) (by decide)) dX3_countOf_18 ?_
  refine z_topi (y := 0) (hF.2.2.2.2.2.2.1 _) ?_
  refine lv_if_ne (tgt := 60) hx hb_ dX3_countOf_19 (by decide) (fun c_19 => absurd c_19 (by decide)) (fun _ => ?_)
  refine lv_aload_n hx hb_ dX3_countOf_22 rfl (lv_at hl 0 rfl) ?_
  refine lv_iload_n hx hb_ dX3_countOf_23 rfl (lv_at hl 1 rfl) ?_
  refine z_kv hw hA (va_runV (As := [.int (nI n0_)]) (rest := []) hcf (c_X3_clear lau cD cy _ r_ S_ hSh (nI n0_)) (cwV 1 hts gX3_countOf_X3_clear rfl rfl rfl (by decide +kernel) ⟨Nat.le_of_ble_eq_true rfl, Nat.le_of_ble_eq_true rfl⟩) (z_preV (k := 3) hK_ hE hw (cL hSh 10) (cK hSh 10) (by decide) rfl) rfl rfl hl.1 rfl (lv_room (Nat.le_of_ble_eq_true rfl)) dX3_countOf_24 ⟨Nat.le_of_ble_eq_true rfl, Nat.le_of_ble_eq_true rfl⟩) (fun S2 H_ locs_ hp hw => ?_)
  obtain ⟨fl0, rfl, hfl0⟩ := hp
  have hSh : ShC (zsA (zsI S_ 306 (r_ 10) (nI n0_)) (r_ 15) fl0) r_ := (sh_AC (sh_IC hSh0))
  refine lv_aload_n hx hb_ dX3_countOf_27 rfl (lv_at hl 0 rfl) ?_
  refine z_get (k := 3) (i := 1) (j := 301) (v := .ref (r_ 13)) (ref := "FoldedInHalf$Leaves") (C := RX3) (T := TX3) (N := 7) hcf hK_ hw hin3 (cL hSh 10) (cK hSh 10) rfl (by decide) (by decide) rfl rfl (congrArg va_rf (cP hSh 12)) (List.mem_of_getElem? (i := 2) rfl) (fun _ h_ => h_) dX3_countOf_28 ?_
  refine lv_iload_n hx hb_ dX3_countOf_31 rfl (lv_at hl 1 rfl) ?_
  refine lv_aload_n hx hb_ dX3_countOf_32 rfl (lv_at hl 0 rfl) ?_
  refine z_get (k := 3) (i := 5) (j := 305) (v := .int 0) (ref := "FoldedInHalf$Leaves") (C := RX3) (T := TX3) (N := 7) hcf hK_ hw hin3 (cL hSh 10) (cK hSh 10) rfl (by decide) (by decide) rfl rfl (congrArg Value.int (zI_A.trans ((zI_nj (by decide)).trans hF.2.2.2.2.2.1))) (List.mem_of_getElem? (i := 3) rfl) (fun _ h_ => h_) dX3_countOf_33 ?_
  refine z_iast (n := 9) hcf hK_ hw (cL hSh 13) (cK hSh 13) (cN hSh 13) (vp_in_nI (show n0_ < 9 by omega) (by decide)) dX3_countOf_36 (fun H_ locs_ hw => ?_)
  obtain ⟨f3_, ef3⟩ : ∃ zz, zz = (upd (zA (zsA (zsI S_ 306 (r_ 10) (nI n0_)) (r_ 15) fl0) (r_ 13)) ((nI n0_) : Int32).toNatClampNeg 0) := ⟨_, rfl⟩
  rw [← ef3] at hw
  have hf3 : f3_ = upd (zA S_ (r_ 13)) n0_ 0 := by rw [ef3, (nI_clamp (show n0_ < 2 ^ 31 by omega)), show zA (zsA (zsI S_ 306 (r_ 10) (nI n0_)) (r_ 15) fl0) (r_ 13) = _ from ((zA_ne _ _ (cNe hSh (i := 13) (j := 15) (by decide) (by decide) (by decide))).trans zA_I)]
  have hSh : ShC (zsA (zsA (zsI S_ 306 (r_ 10) (nI n0_)) (r_ 15) fl0) (r_ 13) f3_) r_ := (sh_AC (sh_AC (sh_IC hSh0)))
  refine lv_aload_n hx hb_ dX3_countOf_37 rfl (lv_at hl 0 rfl) ?_
  refine lv_iconst (v := 0) hx hb_ dX3_countOf_38 (by decide) ?_
  refine lv_iconst (v := 0) hx hb_ dX3_countOf_39 (by decide) ?_
  refine W.eq (g2 := F0 m_ 40 ls [.int (cdI []), .int (nI ([] : List Nat).length), .ref (r_ 10)]) rfl ?_
  refine z_kv hw hA (va_runS (As := [.ref (r_ 10), .int (nI ([] : List Nat).length), .int (cdI [])]) (rest := []) hcf (c_X3_grow_8 lau cD cy _ r_ (zsA (zsA (zsI S_ 306 (r_ 10) (nI n0_)) (r_ 15) fl0) (r_ 13) f3_) hSh n0_ 0 n0_ [] rfl hn8 (Nat.zero_add _) (fun x_ h_ => absurd h_ List.not_mem_nil) (zI_A.trans (zI_A.trans zI_at)) (zI_A.trans (zI_A.trans ((zI_nj (by decide)).trans (hF.2.2.2.2.2.1.trans nI_0.symm)))) (by have := (cG_len hn1 hn8).2; omega) (fun k_ hk => (congrFun (show zA (zsA (zsA (zsI S_ 306 (r_ 10) (nI n0_)) (r_ 15) fl0) (r_ 13) f3_) (r_ 15) = fl0 from ((zA_ne _ _ (cNe hSh (i := 15) (j := 13) (by decide) (by decide) (by decide))).trans (zA_zsA _ _ _))) k_).trans ((hfl0 k_ hk).trans (pos_no List.not_mem_nil).symm)) (fun k_ hk => absurd hk (Nat.not_lt_zero k_))) (va_cwS 3 hts gX3_countOf_X3_grow rfl rfl rfl (by decide +kernel) ⟨Nat.le_of_ble_eq_true rfl, Nat.le_of_ble_eq_true rfl⟩) (z_preS hK_ hE hw) rfl rfl hl.1 rfl (lv_room (Nat.le_of_ble_eq_true rfl)) dX3_countOf_40 ⟨Nat.le_of_ble_eq_true rfl, Nat.le_of_ble_eq_true rfl⟩) (fun S5 H_ locs_ hp hw => ?_)
  obtain ⟨cod, la, rfl, -, hc2, -⟩ := hp
  rw [show zA (zsA (zsA (zsI S_ 306 (r_ 10) (nI n0_)) (r_ 15) fl0) (r_ 13) f3_) (r_ 15) = _ from ((zA_ne _ _ (cNe hSh (i := 15) (j := 13) (by decide) (by decide) (by decide))).trans (zA_zsA _ _ _))] at hw
  rw [zsA_comm _ _ _ (cNe hSh (i := 12) (j := 15) (by decide) (by decide) (by decide)), zsA_comm _ _ _ (cNe hSh (i := 13) (j := 15) (by decide) (by decide) (by decide)), zsA_zsA] at hw
  have hSh : ShC (zsI (zsA (zsA (zsA (zsA (zsI S_ 306 (r_ 10) (nI n0_)) (r_ 15) fl0) (r_ 13) f3_) (r_ 12) cod) (r_ 16) la) 305 (r_ 10) (nI (0 + (cG n0_ n0_ []).length))) r_ := (sh_IC (sh_AC (sh_AC (sh_AC (sh_AC (sh_IC hSh0))))))
  refine lv_aload_n hx hb_ dX3_countOf_43 rfl (lv_at hl 0 rfl) ?_
  refine z_get (k := 3) (i := 2) (j := 302) (v := .ref (r_ 14)) (ref := "FoldedInHalf$Leaves") (C := RX3) (T := TX3) (N := 7) hcf hK_ hw hin3 (cL hSh 10) (cK hSh 10) rfl (by decide) (by decide) rfl rfl (congrArg va_rf (cP hSh 13)) (List.mem_of_getElem? (i := 1) rfl) (fun _ h_ => h_) dX3_countOf_44 ?_
  refine lv_iload_n hx hb_ dX3_countOf_47 rfl (lv_at hl 1 rfl) ?_
  refine lv_aload_n hx hb_ dX3_countOf_48 rfl (lv_at hl 0 rfl) ?_
  refine z_get (k := 3) (i := 5) (j := 305) (v := .int (nI (0 + (cG n0_ n0_ []).length))) (ref := "FoldedInHalf$Leaves") (C := RX3) (T := TX3) (N := 7) hcf hK_ hw hin3 (cL hSh 10) (cK hSh 10) rfl (by decide) (by decide) rfl rfl (congrArg Value.int zI_at) (List.mem_of_getElem? (i := 3) rfl) (fun _ h_ => h_) dX3_countOf_49 ?_
  refine lv_aload_n hx hb_ dX3_countOf_52 rfl (lv_at hl 0 rfl) ?_
  refine z_get (k := 3) (i := 1) (j := 301) (v := .ref (r_ 13)) (ref := "FoldedInHalf$Leaves") (C := RX3) (T := TX3) (N := 7) hcf hK_ hw hin3 (cL hSh 10) (cK hSh 10) rfl (by decide) (by decide) rfl rfl (congrArg va_rf (cP hSh 12)) (List.mem_of_getElem? (i := 2) rfl) (fun _ h_ => h_) dX3_countOf_53 ?_
  refine lv_iload_n hx hb_ dX3_countOf_56 rfl (lv_at hl 1 rfl) ?_
  refine z_iald (n := 9) hcf hK_ hw (cL hSh 13) (cK hSh 13) (cN hSh 13) (vp_in_nI (show n0_ < 9 by omega) (by decide)) dX3_countOf_57 ?_
  refine z_topi (y := (f3_ n0_)) (by rw [(nI_clamp (show n0_ < 2 ^ 31 by omega))]; exact congrFun (show zA (zsI (zsA (zsA (zsA (zsA (zsI S_ 306 (r_ 10) (nI n0_)) (r_ 15) fl0) (r_ 13) f3_) (r_ 12) cod) (r_ 16) la) 305 (r_ 10) (nI (0 + (cG n0_ n0_ []).length))) (r_ 13) = f3_ from (zA_I.trans ((zA_ne _ _ (cNe hSh (i := 13) (j := 16) (by decide) (by decide) (by decide))).trans ((zA_ne _ _ (cNe hSh (i := 13) (j := 12) (by decide) (by decide) (by decide))).trans (zA_zsA _ _ _))))) _) ?_
  refine lv_isub hx hb_ dX3_countOf_58 ?_
  refine z_topi (y := (nI (cG n0_ n0_ []).length)) (by rw [hf3, upd_at, Nat.zero_add]; simp) ?_
  refine z_iast (n := 9) hcf hK_ hw (cL hSh 14) (cK hSh 14) (cN hSh 14) (vp_in_nI (show n0_ < 9 by omega) (by decide)) dX3_countOf_59 (fun H_ locs_ hw => ?_)
  obtain ⟨f6, ef6⟩ : ∃ zz, zz = (upd (zA (zsI (zsA (zsA (zsA (zsA (zsI S_ 306 (r_ 10) (nI n0_)) (r_ 15) fl0) (r_ 13) f3_) (r_ 12) cod) (r_ 16) la) 305 (r_ 10) (nI (0 + (cG n0_ n0_ []).length))) (r_ 14)) ((nI n0_) : Int32).toNatClampNeg (nI (cG n0_ n0_ []).length)) := ⟨_, rfl⟩
  rw [← ef6] at hw
  have hf6 : f6 = upd (zA S_ (r_ 14)) n0_ (nI (cG n0_ n0_ []).length) := by rw [ef6, (nI_clamp (show n0_ < 2 ^ 31 by omega)), show zA (zsI (zsA (zsA (zsA (zsA (zsI S_ 306 (r_ 10) (nI n0_)) (r_ 15) fl0) (r_ 13) f3_) (r_ 12) cod) (r_ 16) la) 305 (r_ 10) (nI (0 + (cG n0_ n0_ []).length))) (r_ 14) = _ from (zA_I.trans ((zA_ne _ _ (cNe hSh (i := 14) (j := 16) (by decide) (by decide) (by decide))).trans ((zA_ne _ _ (cNe hSh (i := 14) (j := 12) (by decide) (by decide) (by decide))).trans ((zA_ne _ _ (cNe hSh (i := 14) (j := 13) (by decide) (by decide) (by decide))).trans ((zA_ne _ _ (cNe hSh (i := 14) (j := 15) (by decide) (by decide) (by decide))).trans zA_I)))))]
  have hSh : ShC (zsA (zsI (zsA (zsA (zsA (zsA (zsI S_ 306 (r_ 10) (nI n0_)) (r_ 15) fl0) (r_ 13) f3_) (r_ 12) cod) (r_ 16) la) 305 (r_ 10) (nI (0 + (cG n0_ n0_ []).length))) (r_ 14) f6) r_ := (sh_AC (sh_IC (sh_AC (sh_AC (sh_AC (sh_AC (sh_IC hSh0)))))))
  refine lv_aload_n hx hb_ dX3_countOf_60 rfl (lv_at hl 0 rfl) ?_
  refine z_get (k := 3) (i := 2) (j := 302) (v := .ref (r_ 14)) (ref := "FoldedInHalf$Leaves") (C := RX3) (T := TX3) (N := 7) hcf hK_ hw hin3 (cL hSh 10) (cK hSh 10) rfl (by decide) (by decide) rfl rfl (congrArg va_rf (cP hSh 13)) (List.mem_of_getElem? (i := 1) rfl) (fun _ h_ => h_) dX3_countOf_61 ?_
  refine lv_iload_n hx hb_ dX3_countOf_64 rfl (lv_at hl 1 rfl) ?_
  refine z_iald (n := 9) hcf hK_ hw (cL hSh 14) (cK hSh 14) (cN hSh 14) (vp_in_nI (show n0_ < 9 by omega) (by decide)) dX3_countOf_65 ?_
  refine z_topi (y := (f6 n0_)) (by rw [(nI_clamp (show n0_ < 2 ^ 31 by omega))]; exact congrFun (show zA (zsA (zsI (zsA (zsA (zsA (zsA (zsI S_ 306 (r_ 10) (nI n0_)) (r_ 15) fl0) (r_ 13) f3_) (r_ 12) cod) (r_ 16) la) 305 (r_ 10) (nI (0 + (cG n0_ n0_ []).length))) (r_ 14) f6) (r_ 14) = f6 from (zA_zsA _ _ _)) _) ?_
  exact z_iret (ty := .int) (v := (f6 n0_)) hcf hr rfl hlk hw (⟨cod, f3_, f6, fl0, la, rfl, by rw [hf3]; exact upd_at _ _ _, by rw [hf6]; exact upd_at _ _ _, fun i_ hi_ => (congrArg cod (Nat.zero_add i_)).symm.trans (hc2 i_ hi_), by rw [hf6]; exact upd_at _ _ _⟩) dX3_countOf_66

set_option maxHeartbeats 1000000 in
set_option maxRecDepth 100000 in
theorem c_X3_countOf_2 (lau : Launch) (cD : va_G) (cy : Nat → ClassId) (sz_ : Nat) (r_ : Nat → Nat) (S_ : zS) (hSh : ShC S_ r_) (n0_ : Nat) (hn1 : 1 ≤ n0_) (hn8 : n0_ ≤ 8) (x_ : Int32) (hx0 : ¬ x_ = 0) (hct : zA S_ (r_ 14) n0_ = x_) : Met lau yX3_countOf wsX3_countOf ({ frames := 0, cells := 0, slots := 0, locals := 0 } : Room) (va_Pc [.ref (r_ 10), .int (nI n0_)] (zPre cD cy S_ sz_)) (va_Qi (fun (v_ : Int32) (S1 : zS) => v_ = x_ ∧ S_ = S1) (zPost cD cy (zAd cy S_ sz_)) (zAd cy S_ sz_)) 0 0 (zAd cy S_ sz_) := by
  refine z_ofW (cc := cX3_countOf) (maxL := 2) (ret := (some .int)) (own := RX3) (QQ := fun A_ => va_Qi (fun (v_ : Int32) (S1 : zS) => v_ = x_ ∧ S_ = S1) (zPost cD cy A_) A_) (by decide) rfl rfl (Nat.le_of_ble_eq_true rfl) ?_
  intro p_ e_ s_ m_ args_ below_ meth_ c_ A_ ls hcf hr hlk hnm hK_ hE hw hA hl
  obtain ⟨hx, hb_, hml, hown, hts⟩ := id hcf
  have hin3 : ∀ w_ ∈ wsX30, w_ ∈ wsX3_countOf := fun w_ h_ => (List.mem_cons_of_mem _ (List.mem_append_right _ h_))
  have hl : lv_has ls 2 [(0, .ref (r_ 10)), (1, .int (nI n0_))] := hl
  have hSh0 := hSh
  refine lv_iload_n hx hb_ dX3_countOf_0 rfl (lv_at hl 1 rfl) ?_
  refine lv_iconst (v := 1) hx hb_ dX3_countOf_1 (by decide) ?_
  refine lv_icmp_lt (tgt := 11) hx hb_ dX3_countOf_2 (by decide) (fun c_2 => absurd c_2 (nI_nlt (a := n0_) (b := 1) hn1 (by omega))) (fun c_2 => ?_)
  refine lv_iload_n hx hb_ dX3_countOf_5 rfl (lv_at hl 1 rfl) ?_
  refine lv_bipush (v := 8) hx hb_ dX3_countOf_6 (by decide) ?_
  refine lv_icmp_le (tgt := 13) hx hb_ dX3_countOf_8 (by decide) (fun c_8 => ?_) (fun c_8 => absurd (nI_le (b := 8) hn8 (by decide)) c_8)
  refine lv_aload_n hx hb_ dX3_countOf_13 rfl (lv_at hl 0 rfl) ?_
  refine z_get (k := 3) (i := 2) (j := 302) (v := .ref (r_ 14)) (ref := "FoldedInHalf$Leaves") (C := RX3) (T := TX3) (N := 7) hcf hK_ hw hin3 (cL hSh 10) (cK hSh 10) rfl (by decide) (by decide) rfl rfl (congrArg va_rf (cP hSh 13)) (List.mem_of_getElem? (i := 1) rfl) (fun _ h_ => h_) dX3_countOf_14 ?_
  refine lv_iload_n hx hb_ dX3_countOf_17 rfl (lv_at hl 1 rfl) ?_
  refine z_iald (n := 9) hcf hK_ hw (cL hSh 14) (cK hSh 14) (cN hSh 14) (vp_in_nI (show n0_ < 9 by omega) (by decide)) dX3_countOf_18 ?_
  refine z_topi (y := x_) (by rw [nI_clamp (show n0_ < 2 ^ 31 by omega)]; exact hct) ?_
  refine lv_if_ne (tgt := 60) hx hb_ dX3_countOf_19 (by decide) (fun c_19 => ?_) (fun c_19 => absurd c_19 (hx0))
  refine lv_aload_n hx hb_ dX3_countOf_60 rfl (lv_at hl 0 rfl) ?_
  refine z_get (k := 3) (i := 2) (j := 302) (v := .ref (r_ 14)) (ref := "FoldedInHalf$Leaves") (C := RX3) (T := TX3) (N := 7) hcf hK_ hw hin3 (cL hSh 10) (cK hSh 10) rfl (by decide) (by decide) rfl rfl (congrArg va_rf (cP hSh 13)) (List.mem_of_getElem? (i := 1) rfl) (fun _ h_ => h_) dX3_countOf_61 ?_
  refine lv_iload_n hx hb_ dX3_countOf_64 rfl (lv_at hl 1 rfl) ?_
  refine z_iald (n := 9) hcf hK_ hw (cL hSh 14) (cK hSh 14) (cN hSh 14) (vp_in_nI (show n0_ < 9 by omega) (by decide)) dX3_countOf_65 ?_
  refine z_topi (y := x_) (by rw [nI_clamp (show n0_ < 2 ^ 31 by omega)]; exact hct) ?_
  exact z_iret (ty := .int) (v := x_) hcf hr rfl hlk hw (⟨rfl, rfl⟩) dX3_countOf_66

set_option maxHeartbeats 1000000 in
set_option maxRecDepth 100000 in
theorem c_X3_leafOf (lau : Launch) (cD : va_G) (cy : Nat → ClassId) (sz_ : Nat) (r_ : Nat → Nat) (S_ : zS) (hSh : ShC S_ r_) (n0_ : Nat) (hn1 : 1 ≤ n0_) (hn8 : n0_ ≤ 8) (i0 p0 : Nat) (hi0 : i0 < (cG n0_ n0_ []).length) (hp0 : p0 < n0_) (h13 : (cG n0_ n0_ []).length ≤ 1392) (h1l : 1 ≤ (cG n0_ n0_ []).length) (hfr : zA S_ (r_ 13) n0_ = 0) (hct : zA S_ (r_ 14) n0_ = nI (cG n0_ n0_ []).length) (hcod : ∀ i_, i_ < (cG n0_ n0_ []).length → zA S_ (r_ 12) i_ = cdI ((cG n0_ n0_ []).getD i_ [])) : Met lau yX3_leafOf wsX3_leafOf ({ frames := 1, cells := 0, slots := 0, locals := 21 } : Room) (va_Pc [.ref (r_ 10), .int (nI n0_), .int (nI i0), .int (nI p0)] (zPre cD cy S_ sz_)) (va_Qi (fun (v_ : Int32) (S1 : zS) => v_ = nI (((cG n0_ n0_ []).getD i0 []).getD p0 0) ∧ S_ = S1) (zPost cD cy (zAd cy S_ sz_)) (zAd cy S_ sz_)) 0 0 (zAd cy S_ sz_) := by
  refine z_ofW (cc := cX3_leafOf) (maxL := 5) (ret := (some .int)) (own := RX3) (QQ := fun A_ => va_Qi (fun (v_ : Int32) (S1 : zS) => v_ = nI (((cG n0_ n0_ []).getD i0 []).getD p0 0) ∧ S_ = S1) (zPost cD cy A_) A_) (by decide) rfl rfl (Nat.le_of_ble_eq_true rfl) ?_
  intro p_ e_ s_ m_ args_ below_ meth_ c_ A_ ls hcf hr hlk hnm hK_ hE hw hA hl
  obtain ⟨hx, hb_, hml, hown, hts⟩ := id hcf
  have hin3 : ∀ w_ ∈ wsX30, w_ ∈ wsX3_leafOf := fun w_ h_ => (List.mem_cons_of_mem _ (List.mem_append_right _ h_))
  have hl : lv_has ls 5 [(0, .ref (r_ 10)), (1, .int (nI n0_)), (2, .int (nI i0)), (3, .int (nI p0))] := hl
  have hSh0 := hSh
  refine lv_iload_n hx hb_ dX3_leafOf_0 rfl (lv_at hl 1 rfl) ?_
  refine lv_iconst (v := 1) hx hb_ dX3_leafOf_1 (by decide) ?_
  refine lv_icmp_lt (tgt := 33) hx hb_ dX3_leafOf_2 (by decide) (fun c_2 => absurd c_2 (nI_nlt (a := n0_) (b := 1) hn1 (by omega))) (fun c_2 => ?_)
  refine lv_iload_n hx hb_ dX3_leafOf_5 rfl (lv_at hl 1 rfl) ?_
  refine lv_bipush (v := 8) hx hb_ dX3_leafOf_6 (by decide) ?_
  refine lv_icmp_gt (tgt := 33) hx hb_ dX3_leafOf_8 (by decide) (fun c_8 => absurd c_8 (fun q_ => absurd q_ (nI_nlt (a := 8) (b := n0_) hn8 (by decide)))) (fun c_8 => ?_)
  refine lv_iload_n hx hb_ dX3_leafOf_11 rfl (lv_at hl 3 rfl) ?_
  refine lv_if_lt (tgt := 33) hx hb_ dX3_leafOf_12 (by decide) (fun c_12 => absurd c_12 (nI_pos (by omega))) (fun c_12 => ?_)
  refine lv_iload_n hx hb_ dX3_leafOf_15 rfl (lv_at hl 3 rfl) ?_
  refine lv_iload_n hx hb_ dX3_leafOf_16 rfl (lv_at hl 1 rfl) ?_
  refine lv_icmp_ge (tgt := 33) hx hb_ dX3_leafOf_17 (by decide) (fun c_17 => absurd c_17 (nI_ge hp0 (by omega))) (fun c_17 => ?_)
  refine lv_iload_n hx hb_ dX3_leafOf_20 rfl (lv_at hl 2 rfl) ?_
  refine lv_if_lt (tgt := 33) hx hb_ dX3_leafOf_21 (by decide) (fun c_21 => absurd c_21 (nI_pos (by omega))) (fun c_21 => ?_)
  refine lv_iload_n hx hb_ dX3_leafOf_24 rfl (lv_at hl 2 rfl) ?_
  refine lv_aload_n hx hb_ dX3_leafOf_25 rfl (lv_at hl 0 rfl) ?_
  refine lv_iload_n hx hb_ dX3_leafOf_26 rfl (lv_at hl 1 rfl) ?_
  refine z_ki hw hA (va_runV (As := [.int (nI n0_)]) (rest := [.int (nI i0)]) hcf (c_X3_countOf_2 lau cD cy _ r_ S_ hSh n0_ hn1 hn8 (nI (cG n0_ n0_ []).length) (nI_ne0 (by omega) (by omega)) hct) (cwV 1 hts gX3_leafOf_X3_countOf rfl rfl rfl (by decide +kernel) ⟨Nat.le_of_ble_eq_true rfl, Nat.le_of_ble_eq_true rfl⟩) (z_preV (k := 3) hK_ hE hw (cL hSh 10) (cK hSh 10) (by decide) rfl) rfl rfl hl.1 rfl (lv_room (Nat.le_of_ble_eq_true rfl)) dX3_leafOf_27 ⟨Nat.le_of_ble_eq_true rfl, Nat.le_of_ble_eq_true rfl⟩) (fun v1 S2 H_ locs_ hp hw => ?_)
  obtain ⟨rfl, rfl⟩ := hp
  refine lv_icmp_lt (tgt := 35) hx hb_ dX3_leafOf_30 (by decide) (fun c_30 => ?_) (fun c_30 => absurd (nI_lt hi0 (by omega)) c_30)
  refine lv_aload_n hx hb_ dX3_leafOf_35 rfl (lv_at hl 0 rfl) ?_
  refine z_get (k := 3) (i := 1) (j := 301) (v := .ref (r_ 13)) (ref := "FoldedInHalf$Leaves") (C := RX3) (T := TX3) (N := 7) hcf hK_ hw hin3 (cL hSh 10) (cK hSh 10) rfl (by decide) (by decide) rfl rfl (congrArg va_rf (cP hSh 12)) (List.mem_of_getElem? (i := 1) rfl) (fun _ h_ => h_) dX3_leafOf_36 ?_
  refine lv_iload_n hx hb_ dX3_leafOf_39 rfl (lv_at hl 1 rfl) ?_
  refine z_iald (n := 9) hcf hK_ hw (cL hSh 13) (cK hSh 13) (cN hSh 13) (vp_in_nI (show n0_ < 9 by omega) (by decide)) dX3_leafOf_40 ?_
  refine z_topi (y := 0) (by rw [nI_clamp (show n0_ < 2 ^ 31 by omega)]; exact hfr) ?_
  refine lv_iload_n hx hb_ dX3_leafOf_41 rfl (lv_at hl 2 rfl) ?_
  refine lv_iadd hx hb_ dX3_leafOf_42 ?_
  refine z_topi (y := (nI i0)) (by simp) ?_
  refine lv_istore (lv' := [(4, .int (nI i0)), (0, .ref (r_ 10)), (1, .int (nI n0_)), (2, .int (nI i0)), (3, .int (nI p0))]) hx hb_ dX3_leafOf_43 hl (by decide) rfl (fun ls hl => ?_)
  refine lv_iload hx hb_ dX3_leafOf_45 (lv_at hl 0 rfl) ?_
  refine lv_if_lt (tgt := 75) hx hb_ dX3_leafOf_47 (by decide) (fun c_47 => absurd c_47 (nI_pos (by omega))) (fun c_47 => ?_)
  refine lv_iload hx hb_ dX3_leafOf_50 (lv_at hl 0 rfl) ?_
  refine lv_sipush (v := 2100) hx hb_ dX3_leafOf_52 (by decide) ?_
  refine lv_icmp_ge (tgt := 75) hx hb_ dX3_leafOf_55 (by decide) (fun c_55 => absurd c_55 (nI_ge (a := i0) (b := 2100) (by omega) (by decide))) (fun c_55 => ?_)
  refine lv_aload_n hx hb_ dX3_leafOf_58 rfl (lv_at hl 1 rfl) ?_
  refine z_get (k := 3) (i := 0) (j := 300) (v := .ref (r_ 12)) (ref := "FoldedInHalf$Leaves") (C := RX3) (T := TX3) (N := 7) hcf hK_ hw hin3 (cL hSh 10) (cK hSh 10) rfl (by decide) (by decide) rfl rfl (congrArg va_rf (cP hSh 11)) (List.mem_of_getElem? (i := 2) rfl) (fun _ h_ => h_) dX3_leafOf_59 ?_
  refine lv_iload hx hb_ dX3_leafOf_62 (lv_at hl 0 rfl) ?_
  refine z_iald (n := 2100) hcf hK_ hw (cL hSh 12) (cK hSh 12) (cN hSh 12) (vp_in_nI (show i0 < 2100 by omega) (by decide)) dX3_leafOf_64 ?_
  refine z_topi (y := (cdI ((cG n0_ n0_ []).getD i0 []))) (by rw [nI_clamp (show i0 < 2 ^ 31 by omega)]; exact hcod i0 hi0) ?_
  refine lv_iconst (v := 3) hx hb_ dX3_leafOf_65 (by decide) ?_
  refine lv_iload_n hx hb_ dX3_leafOf_66 rfl (lv_at hl 4 rfl) ?_
  refine lv_imul hx hb_ dX3_leafOf_67 ?_
  refine lv_ishr hx hb_ dX3_leafOf_68 ?_
  refine lv_bipush (v := 7) hx hb_ dX3_leafOf_69 (by decide) ?_
  refine lv_iand hx hb_ dX3_leafOf_71 ?_
  refine z_topi (y := (nI (((cG n0_ n0_ []).getD i0 []).getD p0 0))) (cd_get (getD_lt (by decide) (fun x_ hx => Nat.lt_of_lt_of_le ((cG_at hi0).2 x_ hx) hn8)) (by rw [(cG_at hi0).1]; exact hn8) (by rw [(cG_at hi0).1]; exact hp0)) ?_
  refine lv_goto (tgt := 76) hx hb_ dX3_leafOf_72 (by decide) ?_
  exact z_iret (ty := .int) (v := (nI (((cG n0_ n0_ []).getD i0 []).getD p0 0))) hcf hr rfl hlk hw (⟨rfl, rfl⟩) dX3_leafOf_76

set_option maxHeartbeats 1000000 in
set_option maxRecDepth 100000 in
theorem c_X11_orders (lau : Launch) (cD : va_G) (cy : Nat → ClassId) (sz_ : Nat) (r_ : Nat → Nat) (S_ : zS) (hSh : ShC S_ r_) (hF : FrC S_ r_) (n_ : Int32) : Met lau yX11_orders wsX11_orders ({ frames := 12, cells := 0, slots := 0, locals := 276 } : Room) (va_Pc [.ref (r_ 0), .int n_] (zPre cD cy S_ sz_)) (va_Qi (fun (v_ : Int32) (S1 : zS) => v_ = q_orders n_) (zPost cD cy (zAd cy S_ sz_)) (zAd cy S_ sz_)) 0 0 (zAd cy S_ sz_) := by
  refine z_ofW (cc := cX11_orders) (maxL := 2) (ret := (some .int)) (own := RX11) (QQ := fun A_ => va_Qi (fun (v_ : Int32) (S1 : zS) => v_ = q_orders n_) (zPost cD cy A_) A_) (by decide) rfl rfl (Nat.le_of_ble_eq_true rfl) ?_
  intro p_ e_ s_ m_ args_ below_ meth_ c_ A_ ls hcf hr hlk hnm hK_ hE hw hA hl
  obtain ⟨hx, hb_, hml, hown, hts⟩ := id hcf
  have hin11 : ∀ w_ ∈ wsX110, w_ ∈ wsX11_orders := fun w_ h_ => (List.mem_cons_of_mem _ (List.mem_append_left _ (List.mem_append_right _ h_)))
  have hl : lv_has ls 2 [(0, .ref (r_ 0)), (1, .int n_)] := hl
  have hSh0 := hSh
  refine lv_iload_n hx hb_ dX11_orders_0 rfl (lv_at hl 1 rfl) ?_
  refine lv_iconst (v := 1) hx hb_ dX11_orders_1 (by decide) ?_
  refine lv_icmp_lt (tgt := 11) hx hb_ dX11_orders_2 (by decide) (fun c_2 => ?_) (fun c_2 => ?_)
  · refine lv_aload_n hx hb_ dX11_orders_11 rfl (lv_at hl 0 rfl) ?_
    refine lv_bipush (v := (-6)) hx hb_ dX11_orders_12 (by decide) ?_
    refine z_ki hw hA (va_runV (As := [.int (-6)]) (rest := []) hcf (c_X11_refuse lau cD cy _ r_ S_ hSh (-6) (by decide) (by decide)) (cwV 1 hts gX11_orders_X11_refuse rfl rfl rfl (by decide +kernel) ⟨Nat.le_of_ble_eq_true rfl, Nat.le_of_ble_eq_true rfl⟩) (z_preV (k := 11) hK_ hE hw (cL hSh 0) (cK hSh 0) (by decide) rfl) rfl rfl hl.1 rfl (lv_room (Nat.le_of_ble_eq_true rfl)) dX11_orders_14 ⟨Nat.le_of_ble_eq_true rfl, Nat.le_of_ble_eq_true rfl⟩) (fun v1 S2 H_ locs_ hp hw => ?_)
    obtain ⟨rfl, f3_, rfl⟩ := hp
    have hSh : ShC (zsA S_ (r_ 4) f3_) r_ := (sh_AC hSh0)
    refine lv_goto (tgt := 28) hx hb_ dX11_orders_17 (by decide) ?_
    exact z_iret (ty := .int) (v := (-6)) hcf hr rfl hlk hw (by simp [q_orders, c_2]) dX11_orders_28
  · refine lv_iload_n hx hb_ dX11_orders_5 rfl (lv_at hl 1 rfl) ?_
    refine lv_bipush (v := 8) hx hb_ dX11_orders_6 (by decide) ?_
    refine lv_icmp_le (tgt := 20) hx hb_ dX11_orders_8 (by decide) (fun c_8 => ?_) (fun c_8 => ?_)
    · obtain ⟨n0_, hn1, hn8, en⟩ := zx_of (a := 1) (b := 8) c_2 c_8 (by decide) (by decide)
      refine lv_aload_n hx hb_ dX11_orders_20 rfl (lv_at hl 0 rfl) ?_
      refine z_get (k := 11) (i := 9) (j := 1109) (v := .ref (r_ 10)) (ref := "FoldedInHalf") (C := RX11) (T := TX11) (N := 13) hcf hK_ hw hin11 (cL hSh 0) (cK hSh 0) rfl (by decide) (by decide) rfl rfl (congrArg va_rf (cP hSh 9)) (List.mem_of_getElem? (i := 1) rfl) (fun _ h_ => h_) dX11_orders_21 ?_
      refine lv_iload_n hx hb_ dX11_orders_24 rfl (lv_at hl 1 rfl) ?_
      refine z_topi (y := nI n0_) en ?_
      refine z_ki hw hA (va_runVN (As := [.int (nI n0_)]) (rest := []) hcf (c_X3_countOf_1 lau cD cy _ r_ S_ hSh hF n0_ hn1 hn8) ⟨va_cnB 1 hts gX11_orders_X3_countOf_n350 rfl rfl rfl (nw_M_FoldedInHalf_350 hE) (hts (.initialized RX3) (by decide +kernel)) (by decide +kernel) ⟨Nat.le_of_ble_eq_true rfl, Nat.le_of_ble_eq_true rfl⟩, hts (.instanceMethod yX3_countOf) (by decide +kernel), hts (.selects RX3 yX3_countOf yX3_countOf) (by decide +kernel)⟩ (z_preV (k := 3) hK_ hE hw (cL hSh 10) (cK hSh 10) (by decide) rfl) rfl rfl hl.1 rfl (lv_room (Nat.le_of_ble_eq_true rfl)) dX11_orders_25 ⟨Nat.le_of_ble_eq_true rfl, Nat.le_of_ble_eq_true rfl⟩) (fun v4 S5 H_ locs_ hp hw => ?_)
      obtain ⟨cod, fr, ct, po, la, rfl, hfr, hct, hcod, rfl⟩ := hp
      have hSh : ShC (zsA (zsI (zsA (zsA (zsA (zsA (zsI S_ 306 (r_ 10) (nI n0_)) (r_ 15) po) (r_ 13) fr) (r_ 12) cod) (r_ 16) la) 305 (r_ 10) (nI (0 + (cG n0_ n0_ []).length))) (r_ 14) ct) r_ := (sh_AC (sh_IC (sh_AC (sh_AC (sh_AC (sh_AC (sh_IC hSh0)))))))
      exact z_iret (ty := .int) (v := (nI (cG n0_ n0_ []).length)) hcf hr rfl hlk hw ((q_orders_in c_2 c_8 en hn8).symm) dX11_orders_28
    · refine lv_aload_n hx hb_ dX11_orders_11 rfl (lv_at hl 0 rfl) ?_
      refine lv_bipush (v := (-6)) hx hb_ dX11_orders_12 (by decide) ?_
      refine z_ki hw hA (va_runV (As := [.int (-6)]) (rest := []) hcf (c_X11_refuse lau cD cy _ r_ S_ hSh (-6) (by decide) (by decide)) (cwV 1 hts gX11_orders_X11_refuse rfl rfl rfl (by decide +kernel) ⟨Nat.le_of_ble_eq_true rfl, Nat.le_of_ble_eq_true rfl⟩) (z_preV (k := 11) hK_ hE hw (cL hSh 0) (cK hSh 0) (by decide) rfl) rfl rfl hl.1 rfl (lv_room (Nat.le_of_ble_eq_true rfl)) dX11_orders_14 ⟨Nat.le_of_ble_eq_true rfl, Nat.le_of_ble_eq_true rfl⟩) (fun v6 S7 H_ locs_ hp hw => ?_)
      obtain ⟨rfl, f8, rfl⟩ := hp
      have hSh : ShC (zsA S_ (r_ 4) f8) r_ := (sh_AC hSh0)
      refine lv_goto (tgt := 28) hx hb_ dX11_orders_17 (by decide) ?_
      exact z_iret (ty := .int) (v := (-6)) hcf hr rfl hlk hw (by simp [q_orders, c_2, c_8]) dX11_orders_28

set_option maxHeartbeats 1000000 in
set_option maxRecDepth 100000 in
theorem c_X11_order (lau : Launch) (cD : va_G) (cy : Nat → ClassId) (sz_ : Nat) (r_ : Nat → Nat) (S_ : zS) (hSh : ShC S_ r_) (hF : FrC S_ r_) (n_ io pq : Int32) : Met lau yX11_order wsX11_order ({ frames := 12, cells := 0, slots := 0, locals := 276 } : Room) (va_Pc [.ref (r_ 0), .int n_, .int io, .int pq] (zPre cD cy S_ sz_)) (va_Qi (fun (v_ : Int32) (S1 : zS) => v_ = q_order n_ io pq) (zPost cD cy (zAd cy S_ sz_)) (zAd cy S_ sz_)) 0 0 (zAd cy S_ sz_) := by
  refine z_ofW (cc := cX11_order) (maxL := 4) (ret := (some .int)) (own := RX11) (QQ := fun A_ => va_Qi (fun (v_ : Int32) (S1 : zS) => v_ = q_order n_ io pq) (zPost cD cy A_) A_) (by decide) rfl rfl (Nat.le_of_ble_eq_true rfl) ?_
  intro p_ e_ s_ m_ args_ below_ meth_ c_ A_ ls hcf hr hlk hnm hK_ hE hw hA hl
  obtain ⟨hx, hb_, hml, hown, hts⟩ := id hcf
  have hin11 : ∀ w_ ∈ wsX110, w_ ∈ wsX11_order := fun w_ h_ => (List.mem_cons_of_mem _ (List.mem_append_left _ (List.mem_append_right _ h_)))
  have hl : lv_has ls 4 [(0, .ref (r_ 0)), (1, .int n_), (2, .int io), (3, .int pq)] := hl
  have hSh0 := hSh
  refine lv_iload_n hx hb_ dX11_order_0 rfl (lv_at hl 2 rfl) ?_
  refine lv_if_lt (tgt := 8) hx hb_ dX11_order_1 (by decide) (fun c_1 => ?_) (fun c_1 => ?_)
  · refine lv_aload_n hx hb_ dX11_order_8 rfl (lv_at hl 0 rfl) ?_
    refine lv_bipush (v := (-5)) hx hb_ dX11_order_9 (by decide) ?_
    refine z_ki hw hA (va_runV (As := [.int (-5)]) (rest := []) hcf (c_X11_refuse lau cD cy _ r_ S_ hSh (-5) (by decide) (by decide)) (cwV 1 hts gX11_order_X11_refuse rfl rfl rfl (by decide +kernel) ⟨Nat.le_of_ble_eq_true rfl, Nat.le_of_ble_eq_true rfl⟩) (z_preV (k := 11) hK_ hE hw (cL hSh 0) (cK hSh 0) (by decide) rfl) rfl rfl hl.1 rfl (lv_room (Nat.le_of_ble_eq_true rfl)) dX11_order_11 ⟨Nat.le_of_ble_eq_true rfl, Nat.le_of_ble_eq_true rfl⟩) (fun v1 S2 H_ locs_ hp hw => ?_)
    obtain ⟨rfl, f3_, rfl⟩ := hp
    have hSh : ShC (zsA S_ (r_ 4) f3_) r_ := (sh_AC hSh0)
    exact z_iret (ty := .int) (v := (-5)) hcf hr rfl hlk hw (by unfold q_order; rw [if_pos (Or.inl c_1)]) dX11_order_14
  · refine lv_iload_n hx hb_ dX11_order_4 rfl (lv_at hl 3 rfl) ?_
    refine lv_if_ge (tgt := 15) hx hb_ dX11_order_5 (by decide) (fun c_5 => ?_) (fun c_5 => ?_)
    · refine lv_iload_n hx hb_ dX11_order_15 rfl (lv_at hl 1 rfl) ?_
      refine lv_iconst (v := 1) hx hb_ dX11_order_16 (by decide) ?_
      refine lv_icmp_lt (tgt := 26) hx hb_ dX11_order_17 (by decide) (fun c_17 => ?_) (fun c_17 => ?_)
      · refine lv_aload_n hx hb_ dX11_order_26 rfl (lv_at hl 0 rfl) ?_
        refine lv_bipush (v := (-6)) hx hb_ dX11_order_27 (by decide) ?_
        refine z_ki hw hA (va_runV (As := [.int (-6)]) (rest := []) hcf (c_X11_refuse lau cD cy _ r_ S_ hSh (-6) (by decide) (by decide)) (cwV 1 hts gX11_order_X11_refuse rfl rfl rfl (by decide +kernel) ⟨Nat.le_of_ble_eq_true rfl, Nat.le_of_ble_eq_true rfl⟩) (z_preV (k := 11) hK_ hE hw (cL hSh 0) (cK hSh 0) (by decide) rfl) rfl rfl hl.1 rfl (lv_room (Nat.le_of_ble_eq_true rfl)) dX11_order_29 ⟨Nat.le_of_ble_eq_true rfl, Nat.le_of_ble_eq_true rfl⟩) (fun v4 S5 H_ locs_ hp hw => ?_)
        obtain ⟨rfl, f6, rfl⟩ := hp
        have hSh : ShC (zsA S_ (r_ 4) f6) r_ := (sh_AC hSh0)
        exact z_iret (ty := .int) (v := (-6)) hcf hr rfl hlk hw (by unfold q_order; rw [if_neg (fun z_ => z_.elim c_1 (fun q_ => absurd c_5 (by rw [zx_lt] at q_; rw [zx_le]; omega))), if_pos (by simp [c_17])]) dX11_order_32
      · refine lv_iload_n hx hb_ dX11_order_20 rfl (lv_at hl 1 rfl) ?_
        refine lv_bipush (v := 8) hx hb_ dX11_order_21 (by decide) ?_
        refine lv_icmp_le (tgt := 33) hx hb_ dX11_order_23 (by decide) (fun c_23 => ?_) (fun c_23 => ?_)
        · obtain ⟨n0_, hn1, hn8, en⟩ := zx_of (a := 1) (b := 8) c_17 c_23 (by decide) (by decide)
          have hlen := cG_len hn1 hn8
          refine lv_iload_n hx hb_ dX11_order_33 rfl (lv_at hl 3 rfl) ?_
          refine lv_iload_n hx hb_ dX11_order_34 rfl (lv_at hl 1 rfl) ?_
          refine lv_icmp_ge (tgt := 50) hx hb_ dX11_order_35 (by decide) (fun c_35 => ?_) (fun c_35 => ?_)
          · refine lv_aload_n hx hb_ dX11_order_50 rfl (lv_at hl 0 rfl) ?_
            refine lv_bipush (v := (-5)) hx hb_ dX11_order_51 (by decide) ?_
            refine z_ki hw hA (va_runV (As := [.int (-5)]) (rest := []) hcf (c_X11_refuse lau cD cy _ r_ S_ hSh (-5) (by decide) (by decide)) (cwV 1 hts gX11_order_X11_refuse rfl rfl rfl (by decide +kernel) ⟨Nat.le_of_ble_eq_true rfl, Nat.le_of_ble_eq_true rfl⟩) (z_preV (k := 11) hK_ hE hw (cL hSh 0) (cK hSh 0) (by decide) rfl) rfl rfl hl.1 rfl (lv_room (Nat.le_of_ble_eq_true rfl)) dX11_order_53 ⟨Nat.le_of_ble_eq_true rfl, Nat.le_of_ble_eq_true rfl⟩) (fun v7 S8 H_ locs_ hp hw => ?_)
            obtain ⟨rfl, f9, rfl⟩ := hp
            have hSh : ShC (zsA S_ (r_ 4) f9) r_ := (sh_AC hSh0)
            exact z_iret (ty := .int) (v := (-5)) hcf hr rfl hlk hw ((q_order_out c_1 (fun q_ => absurd c_5 (by rw [zx_lt] at q_; rw [zx_le]; omega)) c_17 c_23 en hn8 (Or.inl (fun q_ => absurd c_35 (by rw [zx_lt] at q_; rw [zx_le]; omega)))).symm) dX11_order_56
          · refine lv_iload_n hx hb_ dX11_order_38 rfl (lv_at hl 2 rfl) ?_
            refine lv_aload_n hx hb_ dX11_order_39 rfl (lv_at hl 0 rfl) ?_
            refine z_get (k := 11) (i := 9) (j := 1109) (v := .ref (r_ 10)) (ref := "FoldedInHalf") (C := RX11) (T := TX11) (N := 13) hcf hK_ hw hin11 (cL hSh 0) (cK hSh 0) rfl (by decide) (by decide) rfl rfl (congrArg va_rf (cP hSh 9)) (List.mem_of_getElem? (i := 1) rfl) (fun _ h_ => h_) dX11_order_40 ?_
            refine lv_iload_n hx hb_ dX11_order_43 rfl (lv_at hl 1 rfl) ?_
            refine z_topi (y := nI n0_) en ?_
            refine z_ki hw hA (va_runVN (As := [.int (nI n0_)]) (rest := [.int io]) hcf (c_X3_countOf_1 lau cD cy _ r_ S_ hSh hF n0_ hn1 hn8) ⟨va_cnB 1 hts gX11_order_X3_countOf_n350 rfl rfl rfl (nw_M_FoldedInHalf_350 hE) (hts (.initialized RX3) (by decide +kernel)) (by decide +kernel) ⟨Nat.le_of_ble_eq_true rfl, Nat.le_of_ble_eq_true rfl⟩, hts (.instanceMethod yX3_countOf) (by decide +kernel), hts (.selects RX3 yX3_countOf yX3_countOf) (by decide +kernel)⟩ (z_preV (k := 3) hK_ hE hw (cL hSh 10) (cK hSh 10) (by decide) rfl) rfl rfl hl.1 rfl (lv_room (Nat.le_of_ble_eq_true rfl)) dX11_order_44 ⟨Nat.le_of_ble_eq_true rfl, Nat.le_of_ble_eq_true rfl⟩) (fun v10 S11 H_ locs_ hp hw => ?_)
            obtain ⟨cod, fr, ct, po, la, rfl, hfr, hct, hcod, rfl⟩ := hp
            have hSh : ShC (zsA (zsI (zsA (zsA (zsA (zsA (zsI S_ 306 (r_ 10) (nI n0_)) (r_ 15) po) (r_ 13) fr) (r_ 12) cod) (r_ 16) la) 305 (r_ 10) (nI (0 + (cG n0_ n0_ []).length))) (r_ 14) ct) r_ := (sh_AC (sh_IC (sh_AC (sh_AC (sh_AC (sh_AC (sh_IC hSh0)))))))
            refine lv_icmp_lt (tgt := 57) hx hb_ dX11_order_47 (by decide) (fun c_47 => ?_) (fun c_47 => ?_)
            · obtain ⟨i0, hi31, ei0⟩ := nI_of c_1
              obtain ⟨p0, hp31, ep0⟩ := nI_of (x := pq) (by rw [zx_le] at c_5; rw [zx_lt]; exact Int.not_lt.mpr c_5)
              have hi0 : i0 < (cG n0_ n0_ []).length := by rw [ei0, nI_ltI hi31 (by omega)] at c_47; exact c_47
              have hp0 : p0 < n0_ := by rw [ep0, en, nI_leI (by omega) hp31] at c_35; omega
              refine lv_aload_n hx hb_ dX11_order_57 rfl (lv_at hl 0 rfl) ?_
              refine z_get (k := 11) (i := 9) (j := 1109) (v := .ref (r_ 10)) (ref := "FoldedInHalf") (C := RX11) (T := TX11) (N := 13) hcf hK_ hw hin11 (cL hSh 0) (cK hSh 0) rfl (by decide) (by decide) rfl rfl (congrArg va_rf (cP hSh 9)) (List.mem_of_getElem? (i := 1) rfl) (fun _ h_ => h_) dX11_order_58 ?_
              refine lv_iload_n hx hb_ dX11_order_61 rfl (lv_at hl 1 rfl) ?_
              refine lv_iload_n hx hb_ dX11_order_62 rfl (lv_at hl 2 rfl) ?_
              refine lv_iload_n hx hb_ dX11_order_63 rfl (lv_at hl 3 rfl) ?_
              refine W.eq (g2 := F0 m_ 64 ls [.int (nI p0), .int (nI i0), .int (nI n0_), .ref (r_ 10)]) (by rw [ep0, ei0, en]) ?_
              refine z_ki hw hA (va_runVN (As := [.int (nI n0_), .int (nI i0), .int (nI p0)]) (rest := []) hcf (c_X3_leafOf lau cD cy _ r_ (zsA (zsI (zsA (zsA (zsA (zsA (zsI S_ 306 (r_ 10) (nI n0_)) (r_ 15) po) (r_ 13) fr) (r_ 12) cod) (r_ 16) la) 305 (r_ 10) (nI (0 + (cG n0_ n0_ []).length))) (r_ 14) ct) hSh n0_ hn1 hn8 i0 p0 hi0 hp0 hlen.2 hlen.1 ((congrFun (show zA (zsA (zsI (zsA (zsA (zsA (zsA (zsI S_ 306 (r_ 10) (nI n0_)) (r_ 15) po) (r_ 13) fr) (r_ 12) cod) (r_ 16) la) 305 (r_ 10) (nI (0 + (cG n0_ n0_ []).length))) (r_ 14) ct) (r_ 13) = fr from ((zA_ne _ _ (cNe hSh (i := 13) (j := 14) (by decide) (by decide) (by decide))).trans (zA_I.trans ((zA_ne _ _ (cNe hSh (i := 13) (j := 16) (by decide) (by decide) (by decide))).trans ((zA_ne _ _ (cNe hSh (i := 13) (j := 12) (by decide) (by decide) (by decide))).trans (zA_zsA _ _ _)))))) n0_).trans hfr) ((congrFun (show zA (zsA (zsI (zsA (zsA (zsA (zsA (zsI S_ 306 (r_ 10) (nI n0_)) (r_ 15) po) (r_ 13) fr) (r_ 12) cod) (r_ 16) la) 305 (r_ 10) (nI (0 + (cG n0_ n0_ []).length))) (r_ 14) ct) (r_ 14) = ct from (zA_zsA _ _ _)) n0_).trans hct) (fun i_ hi_ => (congrFun (show zA (zsA (zsI (zsA (zsA (zsA (zsA (zsI S_ 306 (r_ 10) (nI n0_)) (r_ 15) po) (r_ 13) fr) (r_ 12) cod) (r_ 16) la) 305 (r_ 10) (nI (0 + (cG n0_ n0_ []).length))) (r_ 14) ct) (r_ 12) = cod from ((zA_ne _ _ (cNe hSh (i := 12) (j := 14) (by decide) (by decide) (by decide))).trans (zA_I.trans ((zA_ne _ _ (cNe hSh (i := 12) (j := 16) (by decide) (by decide) (by decide))).trans (zA_zsA _ _ _))))) i_).trans (hcod i_ hi_))) ⟨va_cnB 3 hts gX11_order_X3_leafOf_n353 rfl rfl rfl (nw_M_FoldedInHalf_353 hE) (hts (.initialized RX3) (by decide +kernel)) (by decide +kernel) ⟨Nat.le_of_ble_eq_true rfl, Nat.le_of_ble_eq_true rfl⟩, hts (.instanceMethod yX3_leafOf) (by decide +kernel), hts (.selects RX3 yX3_leafOf yX3_leafOf) (by decide +kernel)⟩ (z_preV (k := 3) hK_ hE hw (cL hSh 10) (cK hSh 10) (by decide) rfl) rfl rfl hl.1 rfl (lv_room (Nat.le_of_ble_eq_true rfl)) dX11_order_64 ⟨Nat.le_of_ble_eq_true rfl, Nat.le_of_ble_eq_true rfl⟩) (fun v12 S13 H_ locs_ hp hw => ?_)
              obtain ⟨rfl, rfl⟩ := hp
              exact z_iret (ty := .int) (v := (nI (((cG n0_ n0_ []).getD i0 []).getD p0 0))) hcf hr rfl hlk hw ((q_order_in c_1 (fun q_ => absurd c_5 (by rw [zx_lt] at q_; rw [zx_le]; omega)) c_17 c_23 en hn8 ei0 hi31 ep0 hp0 c_47).symm) dX11_order_67
            · refine lv_aload_n hx hb_ dX11_order_50 rfl (lv_at hl 0 rfl) ?_
              refine lv_bipush (v := (-5)) hx hb_ dX11_order_51 (by decide) ?_
              refine z_ki hw hA (va_runV (As := [.int (-5)]) (rest := []) hcf (c_X11_refuse lau cD cy _ r_ (zsA (zsI (zsA (zsA (zsA (zsA (zsI S_ 306 (r_ 10) (nI n0_)) (r_ 15) po) (r_ 13) fr) (r_ 12) cod) (r_ 16) la) 305 (r_ 10) (nI (0 + (cG n0_ n0_ []).length))) (r_ 14) ct) hSh (-5) (by decide) (by decide)) (cwV 1 hts gX11_order_X11_refuse rfl rfl rfl (by decide +kernel) ⟨Nat.le_of_ble_eq_true rfl, Nat.le_of_ble_eq_true rfl⟩) (z_preV (k := 11) hK_ hE hw (cL hSh 0) (cK hSh 0) (by decide) rfl) rfl rfl hl.1 rfl (lv_room (Nat.le_of_ble_eq_true rfl)) dX11_order_53 ⟨Nat.le_of_ble_eq_true rfl, Nat.le_of_ble_eq_true rfl⟩) (fun v14 S15 H_ locs_ hp hw => ?_)
              obtain ⟨rfl, f16, rfl⟩ := hp
              have hSh : ShC (zsA (zsA (zsI (zsA (zsA (zsA (zsA (zsI S_ 306 (r_ 10) (nI n0_)) (r_ 15) po) (r_ 13) fr) (r_ 12) cod) (r_ 16) la) 305 (r_ 10) (nI (0 + (cG n0_ n0_ []).length))) (r_ 14) ct) (r_ 4) f16) r_ := (sh_AC (sh_AC (sh_IC (sh_AC (sh_AC (sh_AC (sh_AC (sh_IC hSh0))))))))
              exact z_iret (ty := .int) (v := (-5)) hcf hr rfl hlk hw ((q_order_out c_1 (fun q_ => absurd c_5 (by rw [zx_lt] at q_; rw [zx_le]; omega)) c_17 c_23 en hn8 (Or.inr c_47)).symm) dX11_order_56
        · refine lv_aload_n hx hb_ dX11_order_26 rfl (lv_at hl 0 rfl) ?_
          refine lv_bipush (v := (-6)) hx hb_ dX11_order_27 (by decide) ?_
          refine z_ki hw hA (va_runV (As := [.int (-6)]) (rest := []) hcf (c_X11_refuse lau cD cy _ r_ S_ hSh (-6) (by decide) (by decide)) (cwV 1 hts gX11_order_X11_refuse rfl rfl rfl (by decide +kernel) ⟨Nat.le_of_ble_eq_true rfl, Nat.le_of_ble_eq_true rfl⟩) (z_preV (k := 11) hK_ hE hw (cL hSh 0) (cK hSh 0) (by decide) rfl) rfl rfl hl.1 rfl (lv_room (Nat.le_of_ble_eq_true rfl)) dX11_order_29 ⟨Nat.le_of_ble_eq_true rfl, Nat.le_of_ble_eq_true rfl⟩) (fun v17 S18 H_ locs_ hp hw => ?_)
          obtain ⟨rfl, f19, rfl⟩ := hp
          have hSh : ShC (zsA S_ (r_ 4) f19) r_ := (sh_AC hSh0)
          exact z_iret (ty := .int) (v := (-6)) hcf hr rfl hlk hw (by unfold q_order; rw [if_neg (fun z_ => z_.elim c_1 (fun q_ => absurd c_5 (by rw [zx_lt] at q_; rw [zx_le]; omega))), if_pos (by simp [c_17, c_23])]) dX11_order_32
    · refine lv_aload_n hx hb_ dX11_order_8 rfl (lv_at hl 0 rfl) ?_
      refine lv_bipush (v := (-5)) hx hb_ dX11_order_9 (by decide) ?_
      refine z_ki hw hA (va_runV (As := [.int (-5)]) (rest := []) hcf (c_X11_refuse lau cD cy _ r_ S_ hSh (-5) (by decide) (by decide)) (cwV 1 hts gX11_order_X11_refuse rfl rfl rfl (by decide +kernel) ⟨Nat.le_of_ble_eq_true rfl, Nat.le_of_ble_eq_true rfl⟩) (z_preV (k := 11) hK_ hE hw (cL hSh 0) (cK hSh 0) (by decide) rfl) rfl rfl hl.1 rfl (lv_room (Nat.le_of_ble_eq_true rfl)) dX11_order_11 ⟨Nat.le_of_ble_eq_true rfl, Nat.le_of_ble_eq_true rfl⟩) (fun v20 S21 H_ locs_ hp hw => ?_)
      obtain ⟨rfl, f22, rfl⟩ := hp
      have hSh : ShC (zsA S_ (r_ 4) f22) r_ := (sh_AC hSh0)
      exact z_iret (ty := .int) (v := (-5)) hcf hr rfl hlk hw (by unfold q_order; rw [if_pos (Or.inr (by rw [zx_le] at c_5; rw [zx_lt]; have z_ : (0 : Int32).toInt = 0 := rfl; omega))]) dX11_order_14
