
def pos (pre : List Nat) (k : Nat) : Int32 := if k ∈ pre then nI (pre.idxOf k) else -1
def prI (n l odd : Nat) : Int32 := match prt n l odd with
  | none => -1
  | some o => nI o
theorem prI_t : ∀ l, l < 8 → ∀ odd, odd < 2 → ∀ n, n < 9 → prI n l odd = (if (((nI l + nI odd) ^^^ 1) - nI odd) < 0 then -1 else if nI n ≤ (((nI l + nI odd) ^^^ 1) - nI odd) then -1 else (((nI l + nI odd) ^^^ 1) - nI odd)) := by decide +kernel
def pOf (f : Nat → Int32) (x : Int32) : Int32 := if x < 0 then -1 else if 8 ≤ x then -1 else f x.toNatClampNeg
theorem pOf_nI {f : Nat → Int32} {k : Nat} (h : k < 8) : pOf f (nI k) = f k := by
  unfold pOf
  rw [if_neg (nI_pos (by omega)), if_neg (show ¬ (8 : Int32) ≤ nI k from nI_ge h (by decide)), nI_clamp (by omega)]
theorem pOf_n1 {f : Nat → Int32} : pOf f (-1) = -1 := by unfold pOf; rw [if_pos (by decide)]
/-- the place of a leaf's partner -/
def tpI (n : Nat) (pre : List Nat) (l odd : Nat) : Int32 := match prt n l odd with
  | none => -1
  | some o => pos pre o
theorem pOf_pr {f : Nat → Int32} {n : Nat} {pre : List Nat} {l odd : Nat} (hn : n ≤ 8) (hP : ∀ k, k < 8 → f k = pos pre k) : pOf f (prI n l odd) = tpI n pre l odd := by
  unfold prI tpI
  split
  · exact pOf_n1
  · rename_i o h; have := (prt_iff.mp h).1; rw [pOf_nI (by omega), hP o (by omega)]
theorem idx_lt {pre : List Nat} {o : Nat} (h : o ∈ pre) : pre.idxOf o < pre.length := (get_ix h).2
theorem tpI_no {n : Nat} {pre : List Nat} {l odd : Nat} (hl : pre.length ≤ 8) (h : tpI n pre l odd = -1) : cCl n pre l odd = true := by
  unfold tpI at h; unfold cCl
  split
  · rfl
  · rename_i o e
    rw [e] at h
    simp only [pos] at h
    split
    · rename_i hm; rw [if_pos hm] at h; have := idx_lt hm; exact absurd h (nI_n1 (by omega))
    · rfl
theorem tpI_some {n : Nat} {pre : List Nat} {l odd : Nat} (h : ¬ tpI n pre l odd = -1) : ∃ tp, tp < pre.length ∧ tpI n pre l odd = nI tp ∧ cCl n pre l odd = cBt n pre odd tp pre.length := by
  unfold tpI at h ⊢; unfold cCl
  cases e : prt n l odd with
  | none => rw [e] at h; exact absurd rfl h
  | some o =>
    rw [e] at h
    simp only [pos] at h ⊢
    by_cases hm : o ∈ pre
    · rw [if_pos hm, if_pos hm]; exact ⟨_, idx_lt hm, rfl, rfl⟩
    · rw [if_neg hm] at h; exact absurd rfl h
theorem cOk_iff {n : Nat} {pre : List Nat} {odd tp k : Nat} (hn : n ≤ 8) (hl : pre.length ≤ 8) (ht : tp ≤ 8) : cOk n pre odd tp k = true ↔ (prI n (pre.getD k 0) odd = -1 ∨ nI tp ≤ tpI n pre (pre.getD k 0) odd) := by
  unfold cOk prI tpI
  cases e : prt n (pre.getD k 0) odd with
  | none => simp
  | some o =>
    have ho := (prt_iff.mp e).1
    have h1 : ¬ nI o = -1 := nI_n1 (by omega)
    simp only [Bool.and_eq_true, decide_eq_true_eq, pos]
    by_cases hm : o ∈ pre
    · have := idx_lt hm
      rw [if_pos hm, nI_leI (by omega) (by omega)]
      constructor
      · exact fun q => Or.inr q.2
      · exact fun z => z.elim (fun q => absurd q h1) (fun q => ⟨hm, q⟩)
    · rw [if_neg hm]
      constructor
      · exact fun q => absurd q.1 hm
      · rintro (q | q)
        · exact absurd q h1
        · rw [zx_le, nI_toInt (by omega), show (-1 : Int32).toInt = -1 by decide] at q; omega


theorem cFit_of {n : Nat} {pre : List Nat} {lf : Nat} {u v : Int32} (hu : u = if cCl n pre lf 0 = true then 1 else 0) (hv : v = if cCl n pre lf 1 = true then 1 else 0) (h1 : ¬ u = 0) (h2 : ¬ v = 0) : cFit n pre lf = true := by
  unfold cFit
  by_cases q0 : cCl n pre lf 0 = true
  · by_cases q1 : cCl n pre lf 1 = true
    · rw [q0, q1]; rfl
    · exact absurd (by rw [hv, if_neg q1]) h2
  · exact absurd (by rw [hu, if_neg q0]) h1

set_option maxHeartbeats 1000000 in
set_option maxRecDepth 100000 in
theorem c_X3_partner (lau : Launch) (cD : va_G) (cy : Nat → ClassId) (sz_ : Nat) (r_ : Nat → Nat) (S_ : zS) (hSh : ShC S_ r_) (n_ l odd : Nat) (hl8 : l < 8) (ho : odd < 2) (hn : n_ ≤ 8) (hs : zI S_ 306 (r_ 10) = nI n_) : Met lau yX3_partner wsX3_partner ({ frames := 0, cells := 0, slots := 0, locals := 0 } : Room) (va_Pc [.ref (r_ 10), .int (nI l), .int (nI odd)] (zPre cD cy S_ sz_)) (va_Qi (fun (v_ : Int32) (S1 : zS) => v_ = prI n_ l odd ∧ S_ = S1) (zPost cD cy (zAd cy S_ sz_)) (zAd cy S_ sz_)) 0 0 (zAd cy S_ sz_) := by
  refine z_ofW (cc := cX3_partner) (maxL := 4) (ret := (some .int)) (own := RX3) (QQ := fun A_ => va_Qi (fun (v_ : Int32) (S1 : zS) => v_ = prI n_ l odd ∧ S_ = S1) (zPost cD cy A_) A_) (by decide) rfl rfl (Nat.le_of_ble_eq_true rfl) ?_
  intro p_ e_ s_ m_ args_ below_ meth_ c_ A_ ls hcf hr hlk hnm hK_ hE hw hA hl
  obtain ⟨hx, hb_, hml, hown, hts⟩ := id hcf
  have hin3 : ∀ w_ ∈ wsX30, w_ ∈ wsX3_partner := fun w_ h_ => (List.mem_cons_of_mem _ (List.mem_append_right _ h_))
  have hl : lv_has ls 4 [(0, .ref (r_ 10)), (1, .int (nI l)), (2, .int (nI odd))] := hl
  refine lv_iload_n hx hb_ dX3_partner_0 rfl (lv_at hl 1 rfl) ?_
  refine lv_iload_n hx hb_ dX3_partner_1 rfl (lv_at hl 2 rfl) ?_
  refine lv_iadd hx hb_ dX3_partner_2 ?_
  refine lv_iconst (v := 1) hx hb_ dX3_partner_3 (by decide) ?_
  refine lv_ixor hx hb_ dX3_partner_4 ?_
  refine lv_iload_n hx hb_ dX3_partner_5 rfl (lv_at hl 2 rfl) ?_
  refine lv_isub hx hb_ dX3_partner_6 ?_
  refine lv_topi (fun ot eot => ?_)
  refine lv_istore_n (lv' := [(3, .int ot), (0, .ref (r_ 10)), (1, .int (nI l)), (2, .int (nI odd))]) hx hb_ dX3_partner_7 rfl hl (by decide) rfl (fun ls hl => ?_)
  refine lv_iload_n hx hb_ dX3_partner_8 rfl (lv_at hl 0 rfl) ?_
  refine lv_if_lt (tgt := 24) hx hb_ dX3_partner_9 (by decide) (fun c_9 => ?_) (fun c_9 => ?_)
  · refine lv_iconst (v := (-1)) hx hb_ dX3_partner_24 (by decide) ?_
    exact z_iret (ty := .int) (v := (-1)) hcf hr rfl hlk hw (⟨by rw [prI_t l hl8 odd ho n_ (by omega), ← eot]; simp [c_9], rfl⟩) dX3_partner_25
  · refine lv_iload_n hx hb_ dX3_partner_12 rfl (lv_at hl 0 rfl) ?_
    refine lv_aload_n hx hb_ dX3_partner_13 rfl (lv_at hl 1 rfl) ?_
    refine z_get (k := 3) (i := 6) (j := 306) (v := .int (nI n_)) (ref := "FoldedInHalf$Leaves") (C := RX3) (T := TX3) (N := 7) hcf hK_ hw hin3 (cL hSh 10) (cK hSh 10) rfl (by decide) (by decide) rfl rfl (congrArg Value.int hs) (List.mem_of_getElem? (i := 1) rfl) (fun _ h_ => h_) dX3_partner_14 ?_
    refine lv_icmp_ge (tgt := 24) hx hb_ dX3_partner_17 (by decide) (fun c_17 => ?_) (fun c_17 => ?_)
    · refine lv_iconst (v := (-1)) hx hb_ dX3_partner_24 (by decide) ?_
      exact z_iret (ty := .int) (v := (-1)) hcf hr rfl hlk hw (⟨by rw [prI_t l hl8 odd ho n_ (by omega), ← eot]; simp [c_9, c_17], rfl⟩) dX3_partner_25
    · refine lv_iload_n hx hb_ dX3_partner_20 rfl (lv_at hl 0 rfl) ?_
      refine lv_goto (tgt := 25) hx hb_ dX3_partner_21 (by decide) ?_
      exact z_iret (ty := .int) (v := ot) hcf hr rfl hlk hw (⟨by rw [prI_t l hl8 odd ho n_ (by omega), ← eot]; simp [c_9, c_17], rfl⟩) dX3_partner_25

set_option maxHeartbeats 1000000 in
set_option maxRecDepth 100000 in
theorem c_X3_placeOfLeaf (lau : Launch) (cD : va_G) (cy : Nat → ClassId) (sz_ : Nat) (r_ : Nat → Nat) (S_ : zS) (hSh : ShC S_ r_) (x_ : Int32) : Met lau yX3_placeOfLeaf wsX3_placeOfLeaf ({ frames := 0, cells := 0, slots := 0, locals := 0 } : Room) (va_Pc [.ref (r_ 10), .int x_] (zPre cD cy S_ sz_)) (va_Qi (fun (v_ : Int32) (S1 : zS) => v_ = pOf (zA S_ (r_ 15)) x_ ∧ S_ = S1) (zPost cD cy (zAd cy S_ sz_)) (zAd cy S_ sz_)) 0 0 (zAd cy S_ sz_) := by
  refine z_ofW (cc := cX3_placeOfLeaf) (maxL := 2) (ret := (some .int)) (own := RX3) (QQ := fun A_ => va_Qi (fun (v_ : Int32) (S1 : zS) => v_ = pOf (zA S_ (r_ 15)) x_ ∧ S_ = S1) (zPost cD cy A_) A_) (by decide) rfl rfl (Nat.le_of_ble_eq_true rfl) ?_
  intro p_ e_ s_ m_ args_ below_ meth_ c_ A_ ls hcf hr hlk hnm hK_ hE hw hA hl
  obtain ⟨hx, hb_, hml, hown, hts⟩ := id hcf
  have hin3 : ∀ w_ ∈ wsX30, w_ ∈ wsX3_placeOfLeaf := fun w_ h_ => (List.mem_cons_of_mem _ (List.mem_append_right _ h_))
  have hl : lv_has ls 2 [(0, .ref (r_ 10)), (1, .int x_)] := hl
  refine lv_iload_n hx hb_ dX3_placeOfLeaf_0 rfl (lv_at hl 1 rfl) ?_
  refine lv_if_lt (tgt := 19) hx hb_ dX3_placeOfLeaf_1 (by decide) (fun c_1 => ?_) (fun c_1 => ?_)
  · refine lv_iconst (v := (-1)) hx hb_ dX3_placeOfLeaf_19 (by decide) ?_
    exact z_iret (ty := .int) (v := (-1)) hcf hr rfl hlk hw (⟨by simp [pOf, c_1], rfl⟩) dX3_placeOfLeaf_20
  · refine lv_iload_n hx hb_ dX3_placeOfLeaf_4 rfl (lv_at hl 1 rfl) ?_
    refine lv_bipush (v := 8) hx hb_ dX3_placeOfLeaf_5 (by decide) ?_
    refine lv_icmp_ge (tgt := 19) hx hb_ dX3_placeOfLeaf_7 (by decide) (fun c_7 => ?_) (fun c_7 => ?_)
    · refine lv_iconst (v := (-1)) hx hb_ dX3_placeOfLeaf_19 (by decide) ?_
      exact z_iret (ty := .int) (v := (-1)) hcf hr rfl hlk hw (⟨by simp [pOf, c_1, c_7], rfl⟩) dX3_placeOfLeaf_20
    · refine lv_aload_n hx hb_ dX3_placeOfLeaf_10 rfl (lv_at hl 0 rfl) ?_
      refine z_get (k := 3) (i := 3) (j := 303) (v := .ref (r_ 15)) (ref := "FoldedInHalf$Leaves") (C := RX3) (T := TX3) (N := 7) hcf hK_ hw hin3 (cL hSh 10) (cK hSh 10) rfl (by decide) (by decide) rfl rfl (congrArg va_rf (cP hSh 14)) (List.mem_of_getElem? (i := 1) rfl) (fun _ h_ => h_) dX3_placeOfLeaf_11 ?_
      refine lv_iload_n hx hb_ dX3_placeOfLeaf_14 rfl (lv_at hl 1 rfl) ?_
      refine z_iald (n := 8) hcf hK_ hw (cL hSh 15) (cK hSh 15) (cN hSh 15) (zx_in c_1 c_7 (by decide)) dX3_placeOfLeaf_15 ?_
      refine lv_goto (tgt := 20) hx hb_ dX3_placeOfLeaf_16 (by decide) ?_
      exact z_iret (ty := .int) (v := (zA S_ (r_ 15) (x_ : Int32).toNatClampNeg)) hcf hr rfl hlk hw (⟨by simp [pOf, c_1, c_7], rfl⟩) dX3_placeOfLeaf_20

set_option maxHeartbeats 1000000 in
set_option maxRecDepth 100000 in
theorem c_X3_leafAtPlace (lau : Launch) (cD : va_G) (cy : Nat → ClassId) (sz_ : Nat) (r_ : Nat → Nat) (S_ : zS) (hSh : ShC S_ r_) (x_ : Int32) : Met lau yX3_leafAtPlace wsX3_leafAtPlace ({ frames := 0, cells := 0, slots := 0, locals := 0 } : Room) (va_Pc [.ref (r_ 10), .int x_] (zPre cD cy S_ sz_)) (va_Qi (fun (v_ : Int32) (S1 : zS) => v_ = pOf (zA S_ (r_ 16)) x_ ∧ S_ = S1) (zPost cD cy (zAd cy S_ sz_)) (zAd cy S_ sz_)) 0 0 (zAd cy S_ sz_) := by
  refine z_ofW (cc := cX3_leafAtPlace) (maxL := 2) (ret := (some .int)) (own := RX3) (QQ := fun A_ => va_Qi (fun (v_ : Int32) (S1 : zS) => v_ = pOf (zA S_ (r_ 16)) x_ ∧ S_ = S1) (zPost cD cy A_) A_) (by decide) rfl rfl (Nat.le_of_ble_eq_true rfl) ?_
  intro p_ e_ s_ m_ args_ below_ meth_ c_ A_ ls hcf hr hlk hnm hK_ hE hw hA hl
  obtain ⟨hx, hb_, hml, hown, hts⟩ := id hcf
  have hin3 : ∀ w_ ∈ wsX30, w_ ∈ wsX3_leafAtPlace := fun w_ h_ => (List.mem_cons_of_mem _ (List.mem_append_right _ h_))
  have hl : lv_has ls 2 [(0, .ref (r_ 10)), (1, .int x_)] := hl
  refine lv_iload_n hx hb_ dX3_leafAtPlace_0 rfl (lv_at hl 1 rfl) ?_
  refine lv_if_lt (tgt := 19) hx hb_ dX3_leafAtPlace_1 (by decide) (fun c_1 => ?_) (fun c_1 => ?_)
  · refine lv_iconst (v := (-1)) hx hb_ dX3_leafAtPlace_19 (by decide) ?_
    exact z_iret (ty := .int) (v := (-1)) hcf hr rfl hlk hw (⟨by simp [pOf, c_1], rfl⟩) dX3_leafAtPlace_20
  · refine lv_iload_n hx hb_ dX3_leafAtPlace_4 rfl (lv_at hl 1 rfl) ?_
    refine lv_bipush (v := 8) hx hb_ dX3_leafAtPlace_5 (by decide) ?_
    refine lv_icmp_ge (tgt := 19) hx hb_ dX3_leafAtPlace_7 (by decide) (fun c_7 => ?_) (fun c_7 => ?_)
    · refine lv_iconst (v := (-1)) hx hb_ dX3_leafAtPlace_19 (by decide) ?_
      exact z_iret (ty := .int) (v := (-1)) hcf hr rfl hlk hw (⟨by simp [pOf, c_1, c_7], rfl⟩) dX3_leafAtPlace_20
    · refine lv_aload_n hx hb_ dX3_leafAtPlace_10 rfl (lv_at hl 0 rfl) ?_
      refine z_get (k := 3) (i := 4) (j := 304) (v := .ref (r_ 16)) (ref := "FoldedInHalf$Leaves") (C := RX3) (T := TX3) (N := 7) hcf hK_ hw hin3 (cL hSh 10) (cK hSh 10) rfl (by decide) (by decide) rfl rfl (congrArg va_rf (cP hSh 15)) (List.mem_of_getElem? (i := 1) rfl) (fun _ h_ => h_) dX3_leafAtPlace_11 ?_
      refine lv_iload_n hx hb_ dX3_leafAtPlace_14 rfl (lv_at hl 1 rfl) ?_
      refine z_iald (n := 8) hcf hK_ hw (cL hSh 16) (cK hSh 16) (cN hSh 16) (zx_in c_1 c_7 (by decide)) dX3_leafAtPlace_15 ?_
      refine lv_goto (tgt := 20) hx hb_ dX3_leafAtPlace_16 (by decide) ?_
      exact z_iret (ty := .int) (v := (zA S_ (r_ 16) (x_ : Int32).toNatClampNeg)) hcf hr rfl hlk hw (⟨by simp [pOf, c_1, c_7], rfl⟩) dX3_leafAtPlace_20

set_option maxHeartbeats 1000000 in
set_option maxRecDepth 100000 in
theorem c_X3_lay (lau : Launch) (cD : va_G) (cy : Nat → ClassId) (sz_ : Nat) (r_ : Nat → Nat) (S_ : zS) (hSh : ShC S_ r_) (l pz : Nat) (hl8 : l < 8) (hp8 : pz < 8) : Met lau yX3_lay wsX3_lay ({ frames := 0, cells := 0, slots := 0, locals := 0 } : Room) (va_Pc [.ref (r_ 10), .int (nI l), .int (nI pz)] (zPre cD cy S_ sz_)) (va_Qv (fun (S1 : zS) => S1 = zsA (zsA S_ (r_ 15) (upd (zA S_ (r_ 15)) l (nI pz))) (r_ 16) (upd (zA S_ (r_ 16)) pz (nI l))) (zPost cD cy (zAd cy S_ sz_)) (zAd cy S_ sz_)) 0 0 (zAd cy S_ sz_) := by
  refine z_ofW (cc := cX3_lay) (maxL := 3) (ret := none) (own := RX3) (QQ := fun A_ => va_Qv (fun (S1 : zS) => S1 = zsA (zsA S_ (r_ 15) (upd (zA S_ (r_ 15)) l (nI pz))) (r_ 16) (upd (zA S_ (r_ 16)) pz (nI l))) (zPost cD cy A_) A_) (by decide) rfl rfl (Nat.le_of_ble_eq_true rfl) ?_
  intro p_ e_ s_ m_ args_ below_ meth_ c_ A_ ls hcf hr hlk hnm hK_ hE hw hA hl
  obtain ⟨hx, hb_, hml, hown, hts⟩ := id hcf
  have hin3 : ∀ w_ ∈ wsX30, w_ ∈ wsX3_lay := fun w_ h_ => (List.mem_cons_of_mem _ (List.mem_append_right _ h_))
  have hl : lv_has ls 3 [(0, .ref (r_ 10)), (1, .int (nI l)), (2, .int (nI pz))] := hl
  refine lv_iload_n hx hb_ dX3_lay_0 rfl (lv_at hl 1 rfl) ?_
  refine lv_if_lt (tgt := 34) hx hb_ dX3_lay_1 (by decide) (fun c_1 => absurd c_1 (nI_pos (by omega))) (fun c_1 => ?_)
  refine lv_iload_n hx hb_ dX3_lay_4 rfl (lv_at hl 1 rfl) ?_
  refine lv_bipush (v := 8) hx hb_ dX3_lay_5 (by decide) ?_
  refine lv_icmp_ge (tgt := 34) hx hb_ dX3_lay_7 (by decide) (fun c_7 => absurd c_7 (nI_ge hl8 (by decide))) (fun c_7 => ?_)
  refine lv_iload_n hx hb_ dX3_lay_10 rfl (lv_at hl 2 rfl) ?_
  refine lv_if_lt (tgt := 34) hx hb_ dX3_lay_11 (by decide) (fun c_11 => absurd c_11 (nI_pos (by omega))) (fun c_11 => ?_)
  refine lv_iload_n hx hb_ dX3_lay_14 rfl (lv_at hl 2 rfl) ?_
  refine lv_bipush (v := 8) hx hb_ dX3_lay_15 (by decide) ?_
  refine lv_icmp_ge (tgt := 34) hx hb_ dX3_lay_17 (by decide) (fun c_17 => absurd c_17 (nI_ge hp8 (by decide))) (fun c_17 => ?_)
  refine lv_aload_n hx hb_ dX3_lay_20 rfl (lv_at hl 0 rfl) ?_
  refine z_get (k := 3) (i := 3) (j := 303) (v := .ref (r_ 15)) (ref := "FoldedInHalf$Leaves") (C := RX3) (T := TX3) (N := 7) hcf hK_ hw hin3 (cL hSh 10) (cK hSh 10) rfl (by decide) (by decide) rfl rfl (congrArg va_rf (cP hSh 14)) (List.mem_of_getElem? (i := 1) rfl) (fun _ h_ => h_) dX3_lay_21 ?_
  refine lv_iload_n hx hb_ dX3_lay_24 rfl (lv_at hl 1 rfl) ?_
  refine lv_iload_n hx hb_ dX3_lay_25 rfl (lv_at hl 2 rfl) ?_
  refine z_iast (n := 8) hcf hK_ hw (cL hSh 15) (cK hSh 15) (cN hSh 15) (vp_in_nI (by omega) (by decide)) dX3_lay_26 (fun H_ locs_ hw => ?_)
  obtain ⟨f1, ef1⟩ : ∃ zz, zz = (upd (zA S_ (r_ 15)) ((nI l) : Int32).toNatClampNeg (nI pz)) := ⟨_, rfl⟩
  rw [← ef1] at hw
  have hf1 : f1 = upd (zA S_ (r_ 15)) l (nI pz) := by rw [ef1, (nI_clamp (show l < 2 ^ 31 by omega)), show zA S_ (r_ 15) = _ from rfl]
  refine lv_aload_n hx hb_ dX3_lay_27 rfl (lv_at hl 0 rfl) ?_
  refine z_get (k := 3) (i := 4) (j := 304) (v := .ref (r_ 16)) (ref := "FoldedInHalf$Leaves") (C := RX3) (T := TX3) (N := 7) hcf hK_ hw hin3 (cL hSh 10) (cK hSh 10) rfl (by decide) (by decide) rfl rfl (congrArg va_rf (cP hSh 15)) (List.mem_of_getElem? (i := 2) rfl) (fun _ h_ => h_) dX3_lay_28 ?_
  refine lv_iload_n hx hb_ dX3_lay_31 rfl (lv_at hl 2 rfl) ?_
  refine lv_iload_n hx hb_ dX3_lay_32 rfl (lv_at hl 1 rfl) ?_
  refine z_iast (n := 8) hcf hK_ hw (cL hSh 16) (cK hSh 16) (cN hSh 16) (vp_in_nI (by omega) (by decide)) dX3_lay_33 (fun H_ locs_ hw => ?_)
  obtain ⟨f2, ef2⟩ : ∃ zz, zz = (upd (zA (zsA S_ (r_ 15) f1) (r_ 16)) ((nI pz) : Int32).toNatClampNeg (nI l)) := ⟨_, rfl⟩
  rw [← ef2] at hw
  have hf2 : f2 = upd (zA S_ (r_ 16)) pz (nI l) := by rw [ef2, (nI_clamp (show pz < 2 ^ 31 by omega)), show zA (zsA S_ (r_ 15) f1) (r_ 16) = _ from (zA_ne _ _ (cNe hSh (i := 16) (j := 15) (by decide) (by decide) (by decide)))]
  exact z_vret hcf hr hlk hw (by rw [hf1, hf2]) dX3_lay_34

set_option maxHeartbeats 1000000 in
set_option maxRecDepth 100000 in
theorem c_X3_lift (lau : Launch) (cD : va_G) (cy : Nat → ClassId) (sz_ : Nat) (r_ : Nat → Nat) (S_ : zS) (hSh : ShC S_ r_) (l : Nat) (hl8 : l < 8) : Met lau yX3_lift wsX3_lift ({ frames := 0, cells := 0, slots := 0, locals := 0 } : Room) (va_Pc [.ref (r_ 10), .int (nI l)] (zPre cD cy S_ sz_)) (va_Qv (fun (S1 : zS) => S1 = zsA S_ (r_ 15) (upd (zA S_ (r_ 15)) l (-1))) (zPost cD cy (zAd cy S_ sz_)) (zAd cy S_ sz_)) 0 0 (zAd cy S_ sz_) := by
  refine z_ofW (cc := cX3_lift) (maxL := 2) (ret := none) (own := RX3) (QQ := fun A_ => va_Qv (fun (S1 : zS) => S1 = zsA S_ (r_ 15) (upd (zA S_ (r_ 15)) l (-1))) (zPost cD cy A_) A_) (by decide) rfl rfl (Nat.le_of_ble_eq_true rfl) ?_
  intro p_ e_ s_ m_ args_ below_ meth_ c_ A_ ls hcf hr hlk hnm hK_ hE hw hA hl
  obtain ⟨hx, hb_, hml, hown, hts⟩ := id hcf
  have hin3 : ∀ w_ ∈ wsX30, w_ ∈ wsX3_lift := fun w_ h_ => (List.mem_cons_of_mem _ (List.mem_append_right _ h_))
  have hl : lv_has ls 2 [(0, .ref (r_ 10)), (1, .int (nI l))] := hl
  refine lv_iload_n hx hb_ dX3_lift_0 rfl (lv_at hl 1 rfl) ?_
  refine lv_if_lt (tgt := 17) hx hb_ dX3_lift_1 (by decide) (fun c_1 => absurd c_1 (nI_pos (by omega))) (fun c_1 => ?_)
  refine lv_iload_n hx hb_ dX3_lift_4 rfl (lv_at hl 1 rfl) ?_
  refine lv_bipush (v := 8) hx hb_ dX3_lift_5 (by decide) ?_
  refine lv_icmp_ge (tgt := 17) hx hb_ dX3_lift_7 (by decide) (fun c_7 => absurd c_7 (nI_ge hl8 (by decide))) (fun c_7 => ?_)
  refine lv_aload_n hx hb_ dX3_lift_10 rfl (lv_at hl 0 rfl) ?_
  refine z_get (k := 3) (i := 3) (j := 303) (v := .ref (r_ 15)) (ref := "FoldedInHalf$Leaves") (C := RX3) (T := TX3) (N := 7) hcf hK_ hw hin3 (cL hSh 10) (cK hSh 10) rfl (by decide) (by decide) rfl rfl (congrArg va_rf (cP hSh 14)) (List.mem_of_getElem? (i := 1) rfl) (fun _ h_ => h_) dX3_lift_11 ?_
  refine lv_iload_n hx hb_ dX3_lift_14 rfl (lv_at hl 1 rfl) ?_
  refine lv_iconst (v := (-1)) hx hb_ dX3_lift_15 (by decide) ?_
  refine z_iast (n := 8) hcf hK_ hw (cL hSh 15) (cK hSh 15) (cN hSh 15) (vp_in_nI (by omega) (by decide)) dX3_lift_16 (fun H_ locs_ hw => ?_)
  obtain ⟨f1, ef1⟩ : ∃ zz, zz = (upd (zA S_ (r_ 15)) ((nI l) : Int32).toNatClampNeg (-1)) := ⟨_, rfl⟩
  rw [← ef1] at hw
  have hf1 : f1 = upd (zA S_ (r_ 15)) l (-1) := by rw [ef1, (nI_clamp (show l < 2 ^ 31 by omega)), show zA S_ (r_ 15) = _ from rfl]
  exact z_vret hcf hr hlk hw (by rw [hf1]) dX3_lift_17

set_option maxHeartbeats 1000000 in
set_option maxRecDepth 100000 in
theorem c_X3_closes (lau : Launch) (cD : va_G) (cy : Nat → ClassId) (sz_ : Nat) (r_ : Nat → Nat) (S_ : zS) (hSh : ShC S_ r_) (n_ l odd : Nat) (pre : List Nat) (hl8 : l < 8) (ho : odd < 2) (hn : n_ ≤ 8) (hs : zI S_ 306 (r_ 10) = nI n_) (hP : ∀ k_, k_ < 8 → zA S_ (r_ 15) k_ = pos pre k_) (hA2 : ∀ k_, k_ < pre.length → zA S_ (r_ 16) k_ = nI (pre.getD k_ 0)) (hb8 : ∀ x_, x_ ∈ pre → x_ < 8) (hlen : pre.length ≤ 8) : Met lau yX3_closes wsX3_closes ({ frames := 1, cells := 0, slots := 0, locals := 23 } : Room) (va_Pc [.ref (r_ 10), .int (nI l), .int (nI pre.length), .int (nI odd)] (zPre cD cy S_ sz_)) (va_Qi (fun (v_ : Int32) (S1 : zS) => v_ = (if cCl n_ pre l odd = true then 1 else 0) ∧ S_ = S1) (zPost cD cy (zAd cy S_ sz_)) (zAd cy S_ sz_)) 0 0 (zAd cy S_ sz_) := by
  refine z_ofW (cc := cX3_closes) (maxL := 7) (ret := (some .boolean)) (own := RX3) (QQ := fun A_ => va_Qi (fun (v_ : Int32) (S1 : zS) => v_ = (if cCl n_ pre l odd = true then 1 else 0) ∧ S_ = S1) (zPost cD cy A_) A_) (by decide) rfl rfl (Nat.le_of_ble_eq_true rfl) ?_
  intro p_ e_ s_ m_ args_ below_ meth_ c_ A_ ls hcf hr hlk hnm hK_ hE hw hA hl
  obtain ⟨hx, hb_, hml, hown, hts⟩ := id hcf
  have hl : lv_has ls 7 [(0, .ref (r_ 10)), (1, .int (nI l)), (2, .int (nI pre.length)), (3, .int (nI odd))] := hl
  refine lv_aload_n hx hb_ dX3_closes_0 rfl (lv_at hl 0 rfl) ?_
  refine lv_aload_n hx hb_ dX3_closes_1 rfl (lv_at hl 0 rfl) ?_
  refine lv_iload_n hx hb_ dX3_closes_2 rfl (lv_at hl 1 rfl) ?_
  refine lv_iload_n hx hb_ dX3_closes_3 rfl (lv_at hl 3 rfl) ?_
  refine z_ki hw hA (va_runV (As := [.int (nI l), .int (nI odd)]) (rest := [.ref (r_ 10)]) hcf (c_X3_partner lau cD cy _ r_ S_ hSh n_ l odd hl8 ho hn hs) (cwV 2 hts gX3_closes_X3_partner rfl rfl rfl (by decide +kernel) ⟨Nat.le_of_ble_eq_true rfl, Nat.le_of_ble_eq_true rfl⟩) (z_preV (k := 3) hK_ hE hw (cL hSh 10) (cK hSh 10) (by decide) rfl) rfl rfl hl.1 rfl (lv_room (Nat.le_of_ble_eq_true rfl)) dX3_closes_4 ⟨Nat.le_of_ble_eq_true rfl, Nat.le_of_ble_eq_true rfl⟩) (fun v1 S2 H_ locs_ hp hw => ?_)
  obtain ⟨hv1, rfl⟩ := hp
  refine z_ki hw hA (va_runV (As := [.int v1]) (rest := []) hcf (c_X3_placeOfLeaf lau cD cy _ r_ S_ hSh v1) (cwV 1 hts gX3_closes_X3_placeOfLeaf rfl rfl rfl (by decide +kernel) ⟨Nat.le_of_ble_eq_true rfl, Nat.le_of_ble_eq_true rfl⟩) (z_preV (k := 3) hK_ hE hw (cL hSh 10) (cK hSh 10) (by decide) rfl) rfl rfl hl.1 rfl (lv_room (Nat.le_of_ble_eq_true rfl)) dX3_closes_7 ⟨Nat.le_of_ble_eq_true rfl, Nat.le_of_ble_eq_true rfl⟩) (fun v3 S4 H_ locs_ hp hw => ?_)
  obtain ⟨hv3, rfl⟩ := hp
  have ht0 : v3 = tpI n_ pre l odd := by rw [hv3, hv1]; exact pOf_pr hn hP
  refine lv_istore (lv' := [(4, .int v3), (0, .ref (r_ 10)), (1, .int (nI l)), (2, .int (nI pre.length)), (3, .int (nI odd))]) hx hb_ dX3_closes_10 hl (by decide) rfl (fun ls hl => ?_)
  refine lv_iload hx hb_ dX3_closes_12 (lv_at hl 0 rfl) ?_
  refine lv_iconst (v := (-1)) hx hb_ dX3_closes_14 (by decide) ?_
  refine lv_icmp_ne (tgt := 20) hx hb_ dX3_closes_15 (by decide) (fun c_15 => ?_) (fun c_15 => ?_)
  · obtain ⟨tp, htp, etp, hcl⟩ := tpI_some (n := n_) (pre := pre) (l := l) (odd := odd) (fun q_ => c_15 (ht0.trans q_))
    refine lv_iload hx hb_ dX3_closes_20 (lv_at hl 0 rfl) ?_
    refine lv_iconst (v := 1) hx hb_ dX3_closes_22 (by decide) ?_
    refine lv_iadd hx hb_ dX3_closes_23 ?_
    refine lv_istore (lv' := [(5, .int (v3 + 1)), (4, .int v3), (0, .ref (r_ 10)), (1, .int (nI l)), (2, .int (nI pre.length)), (3, .int (nI odd))]) hx hb_ dX3_closes_24 hl (by decide) rfl (fun ls hl => ?_)
    have JA : ∀ (nA jA : Nat) (iA : Int32), iA = nI jA → jA ≤ pre.length → pre.length < jA + nA → tp < jA → cBt n_ pre odd tp jA = true → ∀ (H_ : Heap) (locs_ : List Loc), zPw cD cy A_ s_.heap S_ H_ locs_ → ∀ ls : Array Slot, lv_has ls 7 [(0, .ref (r_ 10)), (1, .int (nI l)), (2, .int (nI pre.length)), (3, .int (nI odd)), (4, .int v3), (5, .int iA)] → W p_ lau e_ ({ frames := 1, cells := 0, slots := 0, locals := 23 } : Room) s_ m_ args_ below_ meth_ c_ H_ locs_ 0 0 (MQ below_ (va_Qi (fun (v_ : Int32) (S1 : zS) => v_ = (if cCl n_ pre l odd = true then 1 else 0) ∧ S_ = S1) (zPost cD cy A_) A_) args_ s_ 0 0 A_) (F0 m_ 26 ls []) := by
      intro nA
      induction nA with
      | zero => intro jA iA _ hjA h_; exact absurd h_ (by omega)
      | succ nA ihA =>
        intro jA iA eiA hjA hmA htj hbt H_ locs_ hw ls hl
        refine lv_iload hx hb_ dX3_closes_26 (lv_at hl 5 rfl) ?_
        refine lv_iload_n hx hb_ dX3_closes_28 rfl (lv_at hl 2 rfl) ?_
        refine lv_icmp_ge (tgt := 70) hx hb_ dX3_closes_29 (by decide) (fun c_29 => ?_) (fun c_29 => ?_)
        · refine lv_iconst (v := 1) hx hb_ dX3_closes_70 (by decide) ?_
          exact z_iret (ty := .boolean) (v := 1) hcf hr rfl hlk hw (⟨(if_pos (by rw [hcl, ← hbt]; congr 1; have := zn_ge eiA rfl (by omega) c_29; omega)).symm, rfl⟩) dX3_closes_71
        · have hlt : jA < pre.length := zn_lt eiA rfl (by omega) c_29
          have hm8 : pre.getD jA 0 < 8 := hb8 _ (by rw [List.getD_eq_getElem?_getD, List.getElem?_eq_getElem hlt]; exact List.getElem_mem hlt)
          refine lv_aload_n hx hb_ dX3_closes_32 rfl (lv_at hl 0 rfl) ?_
          refine lv_aload_n hx hb_ dX3_closes_33 rfl (lv_at hl 0 rfl) ?_
          refine lv_iload hx hb_ dX3_closes_34 (lv_at hl 5 rfl) ?_
          refine z_ki hw hA (va_runV (As := [.int iA]) (rest := [.ref (r_ 10)]) hcf (c_X3_leafAtPlace lau cD cy _ r_ S_ hSh iA) (cwV 1 hts gX3_closes_X3_leafAtPlace rfl rfl rfl (by decide +kernel) ⟨Nat.le_of_ble_eq_true rfl, Nat.le_of_ble_eq_true rfl⟩) (z_preV (k := 3) hK_ hE hw (cL hSh 10) (cK hSh 10) (by decide) rfl) rfl rfl hl.1 rfl (lv_room (Nat.le_of_ble_eq_true rfl)) dX3_closes_36 ⟨Nat.le_of_ble_eq_true rfl, Nat.le_of_ble_eq_true rfl⟩) (fun v5 S6 H_ locs_ hp hw => ?_)
          obtain ⟨hv5, rfl⟩ := hp
          refine z_topi (y := nI (pre.getD jA 0)) (by rw [hv5, eiA, pOf_nI (by omega)]; exact hA2 jA hlt) ?_
          refine lv_iload_n hx hb_ dX3_closes_39 rfl (lv_at hl 3 rfl) ?_
          refine z_ki hw hA (va_runV (As := [.int (nI (pre.getD jA 0)), .int (nI odd)]) (rest := []) hcf (c_X3_partner lau cD cy _ r_ S_ hSh n_ ((pre.getD jA 0)) odd hm8 ho hn hs) (cwV 2 hts gX3_closes_X3_partner rfl rfl rfl (by decide +kernel) ⟨Nat.le_of_ble_eq_true rfl, Nat.le_of_ble_eq_true rfl⟩) (z_preV (k := 3) hK_ hE hw (cL hSh 10) (cK hSh 10) (by decide) rfl) rfl rfl hl.1 rfl (lv_room (Nat.le_of_ble_eq_true rfl)) dX3_closes_40 ⟨Nat.le_of_ble_eq_true rfl, Nat.le_of_ble_eq_true rfl⟩) (fun v7 S8 H_ locs_ hp hw => ?_)
          obtain ⟨hv7, rfl⟩ := hp
          refine lv_istore (lv' := [(6, .int v7), (0, .ref (r_ 10)), (1, .int (nI l)), (2, .int (nI pre.length)), (3, .int (nI odd)), (4, .int v3), (5, .int iA)]) hx hb_ dX3_closes_43 hl (by decide) rfl (fun ls hl => ?_)
          refine lv_iload hx hb_ dX3_closes_45 (lv_at hl 0 rfl) ?_
          refine lv_iconst (v := (-1)) hx hb_ dX3_closes_47 (by decide) ?_
          refine lv_icmp_eq (tgt := 64) hx hb_ dX3_closes_48 (by decide) (fun c_48 => ?_) (fun c_48 => ?_)
          · obtain ⟨i2_, ei2⟩ : ∃ y_ : Int32, y_ = iA + 1 := ⟨_, rfl⟩
            refine lv_iinc (v := i2_) (lv' := [(5, .int i2_), (6, .int v7), (0, .ref (r_ 10)), (1, .int (nI l)), (2, .int (nI pre.length)), (3, .int (nI odd)), (4, .int v3)]) hx hb_ dX3_closes_64 hl (k := 6) rfl (by rw [ei2]; rfl) (by decide) rfl (fun ls hl => ?_)
            refine lv_goto (tgt := 26) hx hb_ dX3_closes_67 (by decide) ?_
            exact ihA (jA + 1) i2_ (by rw [ei2, eiA]; exact nI_1 jA) (by omega) (by omega) (by omega) (by rw [cBt, hbt, if_pos htj, (cOk_iff hn hlen (by omega)).mpr (Or.inl (by rw [← hv7]; exact c_48))]; rfl) _ _ hw ls (lv_sub hl [2, 3, 4, 5, 6, 0] rfl)
          · refine lv_aload_n hx hb_ dX3_closes_51 rfl (lv_at hl 1 rfl) ?_
            refine lv_iload hx hb_ dX3_closes_52 (lv_at hl 0 rfl) ?_
            refine z_ki hw hA (va_runV (As := [.int v7]) (rest := []) hcf (c_X3_placeOfLeaf lau cD cy _ r_ S_ hSh v7) (cwV 1 hts gX3_closes_X3_placeOfLeaf rfl rfl rfl (by decide +kernel) ⟨Nat.le_of_ble_eq_true rfl, Nat.le_of_ble_eq_true rfl⟩) (z_preV (k := 3) hK_ hE hw (cL hSh 10) (cK hSh 10) (by decide) rfl) rfl rfl hl.1 rfl (lv_room (Nat.le_of_ble_eq_true rfl)) dX3_closes_54 ⟨Nat.le_of_ble_eq_true rfl, Nat.le_of_ble_eq_true rfl⟩) (fun v9 S10 H_ locs_ hp hw => ?_)
            obtain ⟨hv9, rfl⟩ := hp
            have ht1 : v9 = tpI n_ pre (pre.getD jA 0) odd := by rw [hv9, hv7]; exact pOf_pr hn hP
            refine lv_iload hx hb_ dX3_closes_57 (lv_at hl 5 rfl) ?_
            refine lv_icmp_ge (tgt := 64) hx hb_ dX3_closes_59 (by decide) (fun c_59 => ?_) (fun c_59 => ?_)
            · obtain ⟨i2_, ei2⟩ : ∃ y_ : Int32, y_ = iA + 1 := ⟨_, rfl⟩
              refine lv_iinc (v := i2_) (lv' := [(5, .int i2_), (6, .int v7), (0, .ref (r_ 10)), (1, .int (nI l)), (2, .int (nI pre.length)), (3, .int (nI odd)), (4, .int v3)]) hx hb_ dX3_closes_64 hl (k := 6) rfl (by rw [ei2]; rfl) (by decide) rfl (fun ls hl => ?_)
              refine lv_goto (tgt := 26) hx hb_ dX3_closes_67 (by decide) ?_
              exact ihA (jA + 1) i2_ (by rw [ei2, eiA]; exact nI_1 jA) (by omega) (by omega) (by omega) (by rw [cBt, hbt, if_pos htj, (cOk_iff hn hlen (by omega)).mpr (Or.inr (by rw [← etp, ← ht0, ← ht1]; exact c_59))]; rfl) _ _ hw ls (lv_sub hl [2, 3, 4, 5, 6, 0] rfl)
            · refine lv_iconst (v := 0) hx hb_ dX3_closes_62 (by decide) ?_
              exact z_iret (ty := .boolean) (v := 0) hcf hr rfl hlk hw (⟨(if_neg (fun q_ => by rw [hcl] at q_; exact ((cOk_iff hn hlen (by omega)).mp (cBt_iff.mp q_ jA htj hlt)).elim (fun z_ => c_48 (by rw [hv7]; exact z_)) (fun z_ => c_59 (by rw [ht0, etp, ht1]; exact z_)))).symm, rfl⟩) dX3_closes_63
    exact JA (pre.length + 1) (tp + 1) _ (by rw [ht0, etp]; exact nI_1 tp) (by omega) (by omega) (by omega) (cBt_iff.mpr (fun k_ h1 h2 => by omega)) _ _ hw ls (lv_sub hl [2, 3, 4, 5, 1, 0] rfl)
  · refine lv_iconst (v := 1) hx hb_ dX3_closes_18 (by decide) ?_
    exact z_iret (ty := .boolean) (v := 1) hcf hr rfl hlk hw (⟨(if_pos (tpI_no hlen (ht0.symm.trans c_15))).symm, rfl⟩) dX3_closes_19

set_option maxHeartbeats 1000000 in
set_option maxRecDepth 100000 in
theorem c_X3_fits (lau : Launch) (cD : va_G) (cy : Nat → ClassId) (sz_ : Nat) (r_ : Nat → Nat) (S_ : zS) (hSh : ShC S_ r_) (n_ l : Nat) (pre : List Nat) (hl8 : l < 8) (hn : n_ ≤ 8) (hs : zI S_ 306 (r_ 10) = nI n_) (hP : ∀ k_, k_ < 8 → zA S_ (r_ 15) k_ = pos pre k_) (hA2 : ∀ k_, k_ < pre.length → zA S_ (r_ 16) k_ = nI (pre.getD k_ 0)) (hb8 : ∀ x_, x_ ∈ pre → x_ < 8) (hlen : pre.length ≤ 8) : Met lau yX3_fits wsX3_fits ({ frames := 2, cells := 0, slots := 0, locals := 49 } : Room) (va_Pc [.ref (r_ 10), .int (nI l), .int (nI pre.length)] (zPre cD cy S_ sz_)) (va_Qi (fun (v_ : Int32) (S1 : zS) => v_ = (if cFit n_ pre l = true then 1 else 0) ∧ S_ = S1) (zPost cD cy (zAd cy S_ sz_)) (zAd cy S_ sz_)) 0 0 (zAd cy S_ sz_) := by
  refine z_ofW (cc := cX3_fits) (maxL := 3) (ret := (some .boolean)) (own := RX3) (QQ := fun A_ => va_Qi (fun (v_ : Int32) (S1 : zS) => v_ = (if cFit n_ pre l = true then 1 else 0) ∧ S_ = S1) (zPost cD cy A_) A_) (by decide) rfl rfl (Nat.le_of_ble_eq_true rfl) ?_
  intro p_ e_ s_ m_ args_ below_ meth_ c_ A_ ls hcf hr hlk hnm hK_ hE hw hA hl
  obtain ⟨hx, hb_, hml, hown, hts⟩ := id hcf
  have hl : lv_has ls 3 [(0, .ref (r_ 10)), (1, .int (nI l)), (2, .int (nI pre.length))] := hl
  refine lv_aload_n hx hb_ dX3_fits_0 rfl (lv_at hl 0 rfl) ?_
  refine lv_iload_n hx hb_ dX3_fits_1 rfl (lv_at hl 1 rfl) ?_
  refine lv_iload_n hx hb_ dX3_fits_2 rfl (lv_at hl 2 rfl) ?_
  refine lv_iconst (v := 0) hx hb_ dX3_fits_3 (by decide) ?_
  refine z_ki hw hA (va_runV (As := [.int (nI l), .int (nI pre.length), .int 0]) (rest := []) hcf (c_X3_closes lau cD cy _ r_ S_ hSh n_ l 0 pre hl8 (by decide) hn hs hP hA2 hb8 hlen) (cwV 3 hts gX3_fits_X3_closes rfl rfl rfl (by decide +kernel) ⟨Nat.le_of_ble_eq_true rfl, Nat.le_of_ble_eq_true rfl⟩) (z_preV (k := 3) hK_ hE hw (cL hSh 10) (cK hSh 10) (by decide) rfl) rfl rfl hl.1 rfl (lv_room (Nat.le_of_ble_eq_true rfl)) dX3_fits_4 ⟨Nat.le_of_ble_eq_true rfl, Nat.le_of_ble_eq_true rfl⟩) (fun v1 S2 H_ locs_ hp hw => ?_)
  obtain ⟨hv1, rfl⟩ := hp
  refine lv_if_eq (tgt := 24) hx hb_ dX3_fits_7 (by decide) (fun c_7 => ?_) (fun c_7 => ?_)
  · refine lv_iconst (v := 0) hx hb_ dX3_fits_24 (by decide) ?_
    exact z_iret (ty := .boolean) (v := 0) hcf hr rfl hlk hw (⟨(if_neg (fun q_ => by unfold cFit at q_; rw [Bool.and_eq_true] at q_; rw [hv1, if_pos q_.1] at c_7; exact absurd c_7 (by decide))).symm, rfl⟩) dX3_fits_25
  · refine lv_aload_n hx hb_ dX3_fits_10 rfl (lv_at hl 0 rfl) ?_
    refine lv_iload_n hx hb_ dX3_fits_11 rfl (lv_at hl 1 rfl) ?_
    refine lv_iload_n hx hb_ dX3_fits_12 rfl (lv_at hl 2 rfl) ?_
    refine lv_iconst (v := 1) hx hb_ dX3_fits_13 (by decide) ?_
    refine z_ki hw hA (va_runV (As := [.int (nI l), .int (nI pre.length), .int 1]) (rest := []) hcf (c_X3_closes lau cD cy _ r_ S_ hSh n_ l 1 pre hl8 (by decide) hn hs hP hA2 hb8 hlen) (cwV 3 hts gX3_fits_X3_closes rfl rfl rfl (by decide +kernel) ⟨Nat.le_of_ble_eq_true rfl, Nat.le_of_ble_eq_true rfl⟩) (z_preV (k := 3) hK_ hE hw (cL hSh 10) (cK hSh 10) (by decide) rfl) rfl rfl hl.1 rfl (lv_room (Nat.le_of_ble_eq_true rfl)) dX3_fits_14 ⟨Nat.le_of_ble_eq_true rfl, Nat.le_of_ble_eq_true rfl⟩) (fun v3 S4 H_ locs_ hp hw => ?_)
    obtain ⟨hv3, rfl⟩ := hp
    refine lv_if_eq (tgt := 24) hx hb_ dX3_fits_17 (by decide) (fun c_17 => ?_) (fun c_17 => ?_)
    · refine lv_iconst (v := 0) hx hb_ dX3_fits_24 (by decide) ?_
      exact z_iret (ty := .boolean) (v := 0) hcf hr rfl hlk hw (⟨(if_neg (fun q_ => by unfold cFit at q_; rw [Bool.and_eq_true] at q_; rw [hv3, if_pos q_.2] at c_17; exact absurd c_17 (by decide))).symm, rfl⟩) dX3_fits_25
    · refine lv_iconst (v := 1) hx hb_ dX3_fits_20 (by decide) ?_
      refine lv_goto (tgt := 25) hx hb_ dX3_fits_21 (by decide) ?_
      exact z_iret (ty := .boolean) (v := 1) hcf hr rfl hlk hw (⟨(if_pos (cFit_of hv1 hv3 c_7 c_17)).symm, rfl⟩) dX3_fits_25

set_option maxHeartbeats 1000000 in
set_option maxRecDepth 100000 in
theorem c_X3_keep (lau : Launch) (cD : va_G) (cy : Nat → ClassId) (sz_ : Nat) (r_ : Nat → Nat) (S_ : zS) (hSh : ShC S_ r_) (cn : Nat) (x_ : Int32) (hcn : cn < 2100) (hcc : zI S_ 305 (r_ 10) = nI cn) : Met lau yX3_keep wsX3_keep ({ frames := 0, cells := 0, slots := 0, locals := 0 } : Room) (va_Pc [.ref (r_ 10), .int x_] (zPre cD cy S_ sz_)) (va_Qv (fun (S1 : zS) => S1 = zsI (zsA S_ (r_ 12) (upd (zA S_ (r_ 12)) cn x_)) 305 (r_ 10) (nI (cn + 1))) (zPost cD cy (zAd cy S_ sz_)) (zAd cy S_ sz_)) 0 0 (zAd cy S_ sz_) := by
  refine z_ofW (cc := cX3_keep) (maxL := 2) (ret := none) (own := RX3) (QQ := fun A_ => va_Qv (fun (S1 : zS) => S1 = zsI (zsA S_ (r_ 12) (upd (zA S_ (r_ 12)) cn x_)) 305 (r_ 10) (nI (cn + 1))) (zPost cD cy A_) A_) (by decide) rfl rfl (Nat.le_of_ble_eq_true rfl) ?_
  intro p_ e_ s_ m_ args_ below_ meth_ c_ A_ ls hcf hr hlk hnm hK_ hE hw hA hl
  obtain ⟨hx, hb_, hml, hown, hts⟩ := id hcf
  have hin3 : ∀ w_ ∈ wsX30, w_ ∈ wsX3_keep := fun w_ h_ => (List.mem_cons_of_mem _ (List.mem_append_right _ h_))
  have hl : lv_has ls 2 [(0, .ref (r_ 10)), (1, .int x_)] := hl
  refine lv_aload_n hx hb_ dX3_keep_0 rfl (lv_at hl 0 rfl) ?_
  refine z_get (k := 3) (i := 5) (j := 305) (v := .int (nI cn)) (ref := "FoldedInHalf$Leaves") (C := RX3) (T := TX3) (N := 7) hcf hK_ hw hin3 (cL hSh 10) (cK hSh 10) rfl (by decide) (by decide) rfl rfl (congrArg Value.int hcc) (List.mem_of_getElem? (i := 1) rfl) (fun _ h_ => h_) dX3_keep_1 ?_
  refine lv_sipush (v := 2100) hx hb_ dX3_keep_4 (by decide) ?_
  refine lv_icmp_ge (tgt := 30) hx hb_ dX3_keep_7 (by decide) (fun c_7 => absurd c_7 (nI_ge hcn (by decide))) (fun c_7 => ?_)
  refine lv_aload_n hx hb_ dX3_keep_10 rfl (lv_at hl 0 rfl) ?_
  refine z_get (k := 3) (i := 0) (j := 300) (v := .ref (r_ 12)) (ref := "FoldedInHalf$Leaves") (C := RX3) (T := TX3) (N := 7) hcf hK_ hw hin3 (cL hSh 10) (cK hSh 10) rfl (by decide) (by decide) rfl rfl (congrArg va_rf (cP hSh 11)) (List.mem_of_getElem? (i := 2) rfl) (fun _ h_ => h_) dX3_keep_11 ?_
  refine lv_aload_n hx hb_ dX3_keep_14 rfl (lv_at hl 0 rfl) ?_
  refine z_get (k := 3) (i := 5) (j := 305) (v := .int (nI cn)) (ref := "FoldedInHalf$Leaves") (C := RX3) (T := TX3) (N := 7) hcf hK_ hw hin3 (cL hSh 10) (cK hSh 10) rfl (by decide) (by decide) rfl rfl (congrArg Value.int hcc) (List.mem_of_getElem? (i := 1) rfl) (fun _ h_ => h_) dX3_keep_15 ?_
  refine lv_iload_n hx hb_ dX3_keep_18 rfl (lv_at hl 1 rfl) ?_
  refine z_iast (n := 2100) hcf hK_ hw (cL hSh 12) (cK hSh 12) (cN hSh 12) (vp_in_nI hcn (by decide)) dX3_keep_19 (fun H_ locs_ hw => ?_)
  obtain ⟨f1, ef1⟩ : ∃ zz, zz = (upd (zA S_ (r_ 12)) ((nI cn) : Int32).toNatClampNeg x_) := ⟨_, rfl⟩
  rw [← ef1] at hw
  have hf1 : f1 = upd (zA S_ (r_ 12)) cn x_ := by rw [ef1, (nI_clamp (show cn < 2 ^ 31 by omega)), show zA S_ (r_ 12) = _ from rfl]
  refine lv_aload_n hx hb_ dX3_keep_20 rfl (lv_at hl 0 rfl) ?_
  refine lv_dup hx hb_ dX3_keep_21 rfl ?_
  refine z_get (k := 3) (i := 5) (j := 305) (v := .int (nI cn)) (ref := "FoldedInHalf$Leaves") (C := RX3) (T := TX3) (N := 7) hcf hK_ hw hin3 (cL hSh 10) (cK hSh 10) rfl (by decide) (by decide) rfl rfl (congrArg Value.int hcc) (List.mem_of_getElem? (i := 1) rfl) (fun _ h_ => h_) dX3_keep_22 ?_
  refine lv_iconst (v := 1) hx hb_ dX3_keep_25 (by decide) ?_
  refine lv_iadd hx hb_ dX3_keep_26 ?_
  refine z_topi (y := (nI (cn + 1))) (nI_1 cn) ?_
  refine z_putI (k := 3) (i := 5) (j := 305) (x := (nI (cn + 1))) (v := .int (nI (cn + 1))) (ty := .int) (ref := "FoldedInHalf$Leaves") (C := RX3) (T := TX3) (N := 7) tyX3 hcf hK_ hw hin3 tyX3_ok nmX3 (cL hSh 10) (cK hSh 10) rfl (by decide) (by decide) rfl rfl (List.mem_of_getElem? (i := 1) rfl) (fun _ h_ => h_) rfl rfl (by decide +kernel) rfl rfl dX3_keep_27 (fun H_ locs_ hw => ?_)
  exact z_vret hcf hr hlk hw (by rw [hf1]) dX3_keep_30
