/-! by hand: leaves laid, all orders of so many (over the walks of the claim of one call) -/
theorem zx_nat {x : Int32} {n : Nat} (h0 : ¬ x < 0) (h : ¬ Int32.ofNat n ≤ x) (hn : n < 2147483648) : x.toNatClampNeg < n := by
  rw [zx_lt] at h0; rw [zx_le] at h
  have e : (Int32.ofNat n).toInt = n := nI_toInt hn
  rw [e] at h
  have z : (0 : Int32).toInt = 0 := rfl
  rw [z] at h0
  have q : x.toNatClampNeg = x.toInt.toNat := rfl
  omega
theorem zx_in {x : Int32} {n : Nat} (h0 : ¬ x < 0) (h : ¬ Int32.ofNat n ≤ x) (hn : n < 2147483648) : vp_in x n := fun q => q.elim h0 (fun q => by have := zx_nat h0 h hn; omega)
theorem nI_n1 {k : Nat} (h : k < 2 ^ 31) : ¬ nI k = -1 := fun e => by
  have := congrArg Int32.toInt e
  rw [nI_toInt h, show (-1 : Int32).toInt = -1 by decide] at this
  omega
theorem zI_nj {S : zS} {i j a b : Nat} {v : Int32} (h : j ≠ i) : zI (zsI S i a v) j b = zI S j b := zu2_ne (Or.inr h)
def pos (pre : List Nat) (k : Nat) : Int32 := if k ∈ pre then nI (pre.idxOf k) else -1
def prI (n l odd : Nat) : Int32 := match prt n l odd with
  | none => -1
  | some o => nI o
theorem prI_t : ∀ l, l < 8 → ∀ odd, odd < 2 → ∀ n, n < 9 → prI n l odd = (if (((nI l + nI odd) ^^^ 1) - nI odd) < 0 then -1 else if nI n ≤ (((nI l + nI odd) ^^^ 1) - nI odd) then -1 else (((nI l + nI odd) ^^^ 1) - nI odd)) := by decide +kernel
def pOf (f : Nat → Int32) (x : Int32) : Int32 := if x < 0 then -1 else if 8 ≤ x then -1 else f x.toNatClampNeg
theorem pOf_nI {f : Nat → Int32} {k : Nat} (h : k < 8) : pOf f (nI k) = f k := by
  unfold pOf
  rw [if_neg (nI_pos (by omega)), if_neg (show ¬ (8 : Int32) ≤ nI k from nI_ge h (by decide)), nI_clamp (by omega)]
theorem pOf_n1 {f : Nat → Int32} : pOf f (-1) = -1 := by unfold pOf; rw [if_pos (by decide)]
/-- the place of a leaf's partner -/
def tpI (n : Nat) (pre : List Nat) (l odd : Nat) : Int32 := match prt n l odd with
  | none => -1
  | some o => pos pre o
theorem pOf_pr {f : Nat → Int32} {n : Nat} {pre : List Nat} {l odd : Nat} (hn : n ≤ 8) (hP : ∀ k, k < 8 → f k = pos pre k) : pOf f (prI n l odd) = tpI n pre l odd := by
  unfold prI tpI
  split
  · exact pOf_n1
  · rename_i o h; have := (prt_iff.mp h).1; rw [pOf_nI (by omega), hP o (by omega)]
theorem idx_lt {pre : List Nat} {o : Nat} (h : o ∈ pre) : pre.idxOf o < pre.length := (get_ix h).2
theorem tpI_no {n : Nat} {pre : List Nat} {l odd : Nat} (hl : pre.length ≤ 8) (h : tpI n pre l odd = -1) : cCl n pre l odd = true := by
  unfold tpI at h; unfold cCl
  split
  · rfl
  · rename_i o e
    rw [e] at h
    simp only [pos] at h
    split
    · rename_i hm; rw [if_pos hm] at h; have := idx_lt hm; exact absurd h (nI_n1 (by omega))
    · rfl
theorem tpI_some {n : Nat} {pre : List Nat} {l odd : Nat} (h : ¬ tpI n pre l odd = -1) : ∃ tp, tp < pre.length ∧ tpI n pre l odd = nI tp ∧ cCl n pre l odd = cBt n pre odd tp pre.length := by
  unfold tpI at h ⊢; unfold cCl
  cases e : prt n l odd with
  | none => rw [e] at h; exact absurd rfl h
  | some o =>
    rw [e] at h
    simp only [pos] at h ⊢
    by_cases hm : o ∈ pre
    · rw [if_pos hm, if_pos hm]; exact ⟨_, idx_lt hm, rfl, rfl⟩
    · rw [if_neg hm] at h; exact absurd rfl h
theorem cOk_iff {n : Nat} {pre : List Nat} {odd tp k : Nat} (hn : n ≤ 8) (hl : pre.length ≤ 8) (ht : tp ≤ 8) : cOk n pre odd tp k = true ↔ (prI n (pre.getD k 0) odd = -1 ∨ nI tp ≤ tpI n pre (pre.getD k 0) odd) := by
  unfold cOk prI tpI
  cases e : prt n (pre.getD k 0) odd with
  | none => simp
  | some o =>
    have ho := (prt_iff.mp e).1
    have h1 : ¬ nI o = -1 := nI_n1 (by omega)
    simp only [Bool.and_eq_true, decide_eq_true_eq, pos]
    by_cases hm : o ∈ pre
    · have := idx_lt hm
      rw [if_pos hm, nI_leI (by omega) (by omega)]
      constructor
      · exact fun q => Or.inr q.2
      · exact fun z => z.elim (fun q => absurd q h1) (fun q => ⟨hm, q⟩)
    · rw [if_neg hm]
      constructor
      · exact fun q => absurd q.1 hm
      · rintro (q | q)
        · exact absurd q h1
        · rw [zx_le, nI_toInt (by omega), show (-1 : Int32).toInt = -1 by decide] at q; omega
theorem cFit_of {n : Nat} {pre : List Nat} {lf : Nat} {u v : Int32} (hu : u = if cCl n pre lf 0 = true then 1 else 0) (hv : v = if cCl n pre lf 1 = true then 1 else 0) (h1 : ¬ u = 0) (h2 : ¬ v = 0) : cFit n pre lf = true := by
  unfold cFit
  by_cases q0 : cCl n pre lf 0 = true
  · by_cases q1 : cCl n pre lf 1 = true
    · rw [q0, q1]; rfl
    · exact absurd (by rw [hv, if_neg q1]) h2
  · exact absurd (by rw [hu, if_neg q0]) h1
theorem cdk_app {P s : List Nat} : ∀ {k : Nat}, k ≤ P.length → cdk (P ++ s) k = cdk P k
  | 0, _ => rfl
  | k + 1, h => by
    simp only [cdk]
    rw [cdk_app (by omega), List.getD_eq_getElem?_getD, List.getD_eq_getElem?_getD, List.getElem?_append_left (by omega)]
theorem cdI_app (P : List Nat) (l : Nat) : cdI P ||| (nI l <<< ((3 * nI P.length) &&& 31)) = cdI (P ++ [l]) := by
  unfold cdI
  rw [List.length_append, List.length_singleton, cdk, cdk_app (Nat.le_refl _)]
  congr 3
  simp [List.getD_eq_getElem?_getD]
def cGf (n e : Nat) (pre : List Nat) (l : Nat) : List (List Nat) := if l ∈ pre then [] else if cFit n pre l = true then cG n e (pre ++ [l]) else []
theorem cG_eq (n e : Nat) (pre : List Nat) : cG n (e + 1) pre = (List.range n).flatMap (cGf n e pre) := rfl
theorem pos_app {pre : List Nat} {l : Nat} (hl : l ∉ pre) (k : Nat) : pos (pre ++ [l]) k = if k = l then nI pre.length else pos pre k := by
  unfold pos
  by_cases h : k = l
  · subst h
    rw [if_pos (by simp), if_pos rfl, List.idxOf_append, if_neg hl]; simp
  · rw [if_neg h]
    by_cases hm : k ∈ pre
    · rw [if_pos (by simp [hm]), if_pos hm, List.idxOf_append, if_pos hm]
    · rw [if_neg (by simp [hm, h]), if_neg hm]
theorem pos_no {pre : List Nat} {k : Nat} (h : k ∉ pre) : pos pre k = -1 := if_neg h
theorem pos_in {pre : List Nat} {k : Nat} (h : k ∈ pre) (hl : pre.length ≤ 8) : ¬ pos pre k = -1 := by
  unfold pos; rw [if_pos h]; have := idx_lt h; exact nI_n1 (by omega)
theorem zsA_same {S : zS} {a : Nat} {f : Nat → Int32} (h : zA S a = f) : zsA S a f = S := h ▸ zsA_self S a
theorem dJ7_fill_53178_0 : decode cJ7_fill_53178 0 = .ok (.iconst 0, 1) := by decide +kernel
theorem dJ7_fill_53178_1 : decode cJ7_fill_53178 1 = .ok (.istore_n 2, 1) := by decide +kernel
theorem dJ7_fill_53178_2 : decode cJ7_fill_53178 2 = .ok (.aload_n 0, 1) := by decide +kernel
theorem dJ7_fill_53178_3 : decode cJ7_fill_53178 3 = .ok (.arraylength, 1) := by decide +kernel
theorem dJ7_fill_53178_4 : decode cJ7_fill_53178 4 = .ok (.istore_n 3, 1) := by decide +kernel
theorem dJ7_fill_53178_5 : decode cJ7_fill_53178 5 = .ok (.iload_n 2, 1) := by decide +kernel
theorem dJ7_fill_53178_6 : decode cJ7_fill_53178 6 = .ok (.iload_n 3, 1) := by decide +kernel
theorem dJ7_fill_53178_7 : decode cJ7_fill_53178 7 = .ok (.if_icmp .ge 13, 3) := by decide +kernel
theorem dJ7_fill_53178_10 : decode cJ7_fill_53178 10 = .ok (.aload_n 0, 1) := by decide +kernel
theorem dJ7_fill_53178_11 : decode cJ7_fill_53178 11 = .ok (.iload_n 2, 1) := by decide +kernel
theorem dJ7_fill_53178_12 : decode cJ7_fill_53178 12 = .ok (.iload_n 1, 1) := by decide +kernel
theorem dJ7_fill_53178_13 : decode cJ7_fill_53178 13 = .ok (.iastore, 1) := by decide +kernel
theorem dJ7_fill_53178_14 : decode cJ7_fill_53178 14 = .ok (.iinc 2 1, 3) := by decide +kernel
theorem dJ7_fill_53178_17 : decode cJ7_fill_53178 17 = .ok (.goto (-12), 3) := by decide +kernel
theorem dJ7_fill_53178_20 : decode cJ7_fill_53178 20 = .ok (.return_, 1) := by decide +kernel
theorem dX3_partner_0 : decode cX3_partner 0 = .ok (.iload_n 1, 1) := by decide +kernel
theorem dX3_partner_1 : decode cX3_partner 1 = .ok (.iload_n 2, 1) := by decide +kernel
theorem dX3_partner_2 : decode cX3_partner 2 = .ok (.iadd, 1) := by decide +kernel
theorem dX3_partner_3 : decode cX3_partner 3 = .ok (.iconst 1, 1) := by decide +kernel
theorem dX3_partner_4 : decode cX3_partner 4 = .ok (.ixor, 1) := by decide +kernel
theorem dX3_partner_5 : decode cX3_partner 5 = .ok (.iload_n 2, 1) := by decide +kernel
theorem dX3_partner_6 : decode cX3_partner 6 = .ok (.isub, 1) := by decide +kernel
theorem dX3_partner_7 : decode cX3_partner 7 = .ok (.istore_n 3, 1) := by decide +kernel
theorem dX3_partner_8 : decode cX3_partner 8 = .ok (.iload_n 3, 1) := by decide +kernel
theorem dX3_partner_9 : decode cX3_partner 9 = .ok (.ifCond .lt 15, 3) := by decide +kernel
theorem dX3_partner_12 : decode cX3_partner 12 = .ok (.iload_n 3, 1) := by decide +kernel
theorem dX3_partner_13 : decode cX3_partner 13 = .ok (.aload_n 0, 1) := by decide +kernel
theorem dX3_partner_14 : decode cX3_partner 14 = .ok (.getfield 31, 3) := by decide +kernel
theorem dX3_partner_17 : decode cX3_partner 17 = .ok (.if_icmp .ge 7, 3) := by decide +kernel
theorem dX3_partner_20 : decode cX3_partner 20 = .ok (.iload_n 3, 1) := by decide +kernel
theorem dX3_partner_21 : decode cX3_partner 21 = .ok (.goto 4, 3) := by decide +kernel
theorem dX3_partner_24 : decode cX3_partner 24 = .ok (.iconst (-1), 1) := by decide +kernel
theorem dX3_partner_25 : decode cX3_partner 25 = .ok (.ireturn, 1) := by decide +kernel
theorem dX3_placeOfLeaf_0 : decode cX3_placeOfLeaf 0 = .ok (.iload_n 1, 1) := by decide +kernel
theorem dX3_placeOfLeaf_1 : decode cX3_placeOfLeaf 1 = .ok (.ifCond .lt 18, 3) := by decide +kernel
theorem dX3_placeOfLeaf_4 : decode cX3_placeOfLeaf 4 = .ok (.iload_n 1, 1) := by decide +kernel
theorem dX3_placeOfLeaf_5 : decode cX3_placeOfLeaf 5 = .ok (.bipush 8, 2) := by decide +kernel
theorem dX3_placeOfLeaf_7 : decode cX3_placeOfLeaf 7 = .ok (.if_icmp .ge 12, 3) := by decide +kernel
theorem dX3_placeOfLeaf_10 : decode cX3_placeOfLeaf 10 = .ok (.aload_n 0, 1) := by decide +kernel
theorem dX3_placeOfLeaf_11 : decode cX3_placeOfLeaf 11 = .ok (.getfield 21, 3) := by decide +kernel
theorem dX3_placeOfLeaf_14 : decode cX3_placeOfLeaf 14 = .ok (.iload_n 1, 1) := by decide +kernel
theorem dX3_placeOfLeaf_15 : decode cX3_placeOfLeaf 15 = .ok (.iaload, 1) := by decide +kernel
theorem dX3_placeOfLeaf_16 : decode cX3_placeOfLeaf 16 = .ok (.goto 4, 3) := by decide +kernel
theorem dX3_placeOfLeaf_19 : decode cX3_placeOfLeaf 19 = .ok (.iconst (-1), 1) := by decide +kernel
theorem dX3_placeOfLeaf_20 : decode cX3_placeOfLeaf 20 = .ok (.ireturn, 1) := by decide +kernel
theorem dX3_leafAtPlace_0 : decode cX3_leafAtPlace 0 = .ok (.iload_n 1, 1) := by decide +kernel
theorem dX3_leafAtPlace_1 : decode cX3_leafAtPlace 1 = .ok (.ifCond .lt 18, 3) := by decide +kernel
theorem dX3_leafAtPlace_4 : decode cX3_leafAtPlace 4 = .ok (.iload_n 1, 1) := by decide +kernel
theorem dX3_leafAtPlace_5 : decode cX3_leafAtPlace 5 = .ok (.bipush 8, 2) := by decide +kernel
theorem dX3_leafAtPlace_7 : decode cX3_leafAtPlace 7 = .ok (.if_icmp .ge 12, 3) := by decide +kernel
theorem dX3_leafAtPlace_10 : decode cX3_leafAtPlace 10 = .ok (.aload_n 0, 1) := by decide +kernel
theorem dX3_leafAtPlace_11 : decode cX3_leafAtPlace 11 = .ok (.getfield 24, 3) := by decide +kernel
theorem dX3_leafAtPlace_14 : decode cX3_leafAtPlace 14 = .ok (.iload_n 1, 1) := by decide +kernel
theorem dX3_leafAtPlace_15 : decode cX3_leafAtPlace 15 = .ok (.iaload, 1) := by decide +kernel
theorem dX3_leafAtPlace_16 : decode cX3_leafAtPlace 16 = .ok (.goto 4, 3) := by decide +kernel
theorem dX3_leafAtPlace_19 : decode cX3_leafAtPlace 19 = .ok (.iconst (-1), 1) := by decide +kernel
theorem dX3_leafAtPlace_20 : decode cX3_leafAtPlace 20 = .ok (.ireturn, 1) := by decide +kernel
theorem dX3_lay_0 : decode cX3_lay 0 = .ok (.iload_n 1, 1) := by decide +kernel
theorem dX3_lay_1 : decode cX3_lay 1 = .ok (.ifCond .lt 33, 3) := by decide +kernel
theorem dX3_lay_4 : decode cX3_lay 4 = .ok (.iload_n 1, 1) := by decide +kernel
theorem dX3_lay_5 : decode cX3_lay 5 = .ok (.bipush 8, 2) := by decide +kernel
theorem dX3_lay_7 : decode cX3_lay 7 = .ok (.if_icmp .ge 27, 3) := by decide +kernel
theorem dX3_lay_10 : decode cX3_lay 10 = .ok (.iload_n 2, 1) := by decide +kernel
theorem dX3_lay_11 : decode cX3_lay 11 = .ok (.ifCond .lt 23, 3) := by decide +kernel
theorem dX3_lay_14 : decode cX3_lay 14 = .ok (.iload_n 2, 1) := by decide +kernel
theorem dX3_lay_15 : decode cX3_lay 15 = .ok (.bipush 8, 2) := by decide +kernel
theorem dX3_lay_17 : decode cX3_lay 17 = .ok (.if_icmp .ge 17, 3) := by decide +kernel
theorem dX3_lay_20 : decode cX3_lay 20 = .ok (.aload_n 0, 1) := by decide +kernel
theorem dX3_lay_21 : decode cX3_lay 21 = .ok (.getfield 21, 3) := by decide +kernel
theorem dX3_lay_24 : decode cX3_lay 24 = .ok (.iload_n 1, 1) := by decide +kernel
theorem dX3_lay_25 : decode cX3_lay 25 = .ok (.iload_n 2, 1) := by decide +kernel
theorem dX3_lay_26 : decode cX3_lay 26 = .ok (.iastore, 1) := by decide +kernel
theorem dX3_lay_27 : decode cX3_lay 27 = .ok (.aload_n 0, 1) := by decide +kernel
theorem dX3_lay_28 : decode cX3_lay 28 = .ok (.getfield 24, 3) := by decide +kernel
theorem dX3_lay_31 : decode cX3_lay 31 = .ok (.iload_n 2, 1) := by decide +kernel
theorem dX3_lay_32 : decode cX3_lay 32 = .ok (.iload_n 1, 1) := by decide +kernel
theorem dX3_lay_33 : decode cX3_lay 33 = .ok (.iastore, 1) := by decide +kernel
theorem dX3_lay_34 : decode cX3_lay 34 = .ok (.return_, 1) := by decide +kernel
theorem dX3_lift_0 : decode cX3_lift 0 = .ok (.iload_n 1, 1) := by decide +kernel
theorem dX3_lift_1 : decode cX3_lift 1 = .ok (.ifCond .lt 16, 3) := by decide +kernel
theorem dX3_lift_4 : decode cX3_lift 4 = .ok (.iload_n 1, 1) := by decide +kernel
theorem dX3_lift_5 : decode cX3_lift 5 = .ok (.bipush 8, 2) := by decide +kernel
theorem dX3_lift_7 : decode cX3_lift 7 = .ok (.if_icmp .ge 10, 3) := by decide +kernel
theorem dX3_lift_10 : decode cX3_lift 10 = .ok (.aload_n 0, 1) := by decide +kernel
theorem dX3_lift_11 : decode cX3_lift 11 = .ok (.getfield 21, 3) := by decide +kernel
theorem dX3_lift_14 : decode cX3_lift 14 = .ok (.iload_n 1, 1) := by decide +kernel
theorem dX3_lift_15 : decode cX3_lift 15 = .ok (.iconst (-1), 1) := by decide +kernel
theorem dX3_lift_16 : decode cX3_lift 16 = .ok (.iastore, 1) := by decide +kernel
theorem dX3_lift_17 : decode cX3_lift 17 = .ok (.return_, 1) := by decide +kernel
theorem dX3_closes_0 : decode cX3_closes 0 = .ok (.aload_n 0, 1) := by decide +kernel
theorem dX3_closes_1 : decode cX3_closes 1 = .ok (.aload_n 0, 1) := by decide +kernel
theorem dX3_closes_2 : decode cX3_closes 2 = .ok (.iload_n 1, 1) := by decide +kernel
theorem dX3_closes_3 : decode cX3_closes 3 = .ok (.iload_n 3, 1) := by decide +kernel
theorem dX3_closes_4 : decode cX3_closes 4 = .ok (.invokevirtual 44, 3) := by decide +kernel
theorem dX3_closes_7 : decode cX3_closes 7 = .ok (.invokevirtual 48, 3) := by decide +kernel
theorem dX3_closes_10 : decode cX3_closes 10 = .ok (.istore 4, 2) := by decide +kernel
theorem dX3_closes_12 : decode cX3_closes 12 = .ok (.iload 4, 2) := by decide +kernel
theorem dX3_closes_14 : decode cX3_closes 14 = .ok (.iconst (-1), 1) := by decide +kernel
theorem dX3_closes_15 : decode cX3_closes 15 = .ok (.if_icmp .ne 5, 3) := by decide +kernel
theorem dX3_closes_18 : decode cX3_closes 18 = .ok (.iconst 1, 1) := by decide +kernel
theorem dX3_closes_19 : decode cX3_closes 19 = .ok (.ireturn, 1) := by decide +kernel
theorem dX3_closes_20 : decode cX3_closes 20 = .ok (.iload 4, 2) := by decide +kernel
theorem dX3_closes_22 : decode cX3_closes 22 = .ok (.iconst 1, 1) := by decide +kernel
theorem dX3_closes_23 : decode cX3_closes 23 = .ok (.iadd, 1) := by decide +kernel
theorem dX3_closes_24 : decode cX3_closes 24 = .ok (.istore 5, 2) := by decide +kernel
theorem dX3_closes_26 : decode cX3_closes 26 = .ok (.iload 5, 2) := by decide +kernel
theorem dX3_closes_28 : decode cX3_closes 28 = .ok (.iload_n 2, 1) := by decide +kernel
theorem dX3_closes_29 : decode cX3_closes 29 = .ok (.if_icmp .ge 41, 3) := by decide +kernel
theorem dX3_closes_32 : decode cX3_closes 32 = .ok (.aload_n 0, 1) := by decide +kernel
theorem dX3_closes_33 : decode cX3_closes 33 = .ok (.aload_n 0, 1) := by decide +kernel
theorem dX3_closes_34 : decode cX3_closes 34 = .ok (.iload 5, 2) := by decide +kernel
theorem dX3_closes_36 : decode cX3_closes 36 = .ok (.invokevirtual 52, 3) := by decide +kernel
theorem dX3_closes_39 : decode cX3_closes 39 = .ok (.iload_n 3, 1) := by decide +kernel
theorem dX3_closes_40 : decode cX3_closes 40 = .ok (.invokevirtual 44, 3) := by decide +kernel
theorem dX3_closes_43 : decode cX3_closes 43 = .ok (.istore 6, 2) := by decide +kernel
theorem dX3_closes_45 : decode cX3_closes 45 = .ok (.iload 6, 2) := by decide +kernel
theorem dX3_closes_47 : decode cX3_closes 47 = .ok (.iconst (-1), 1) := by decide +kernel
theorem dX3_closes_48 : decode cX3_closes 48 = .ok (.if_icmp .eq 16, 3) := by decide +kernel
theorem dX3_closes_51 : decode cX3_closes 51 = .ok (.aload_n 0, 1) := by decide +kernel
theorem dX3_closes_52 : decode cX3_closes 52 = .ok (.iload 6, 2) := by decide +kernel
theorem dX3_closes_54 : decode cX3_closes 54 = .ok (.invokevirtual 48, 3) := by decide +kernel
theorem dX3_closes_57 : decode cX3_closes 57 = .ok (.iload 4, 2) := by decide +kernel
theorem dX3_closes_59 : decode cX3_closes 59 = .ok (.if_icmp .ge 5, 3) := by decide +kernel
theorem dX3_closes_62 : decode cX3_closes 62 = .ok (.iconst 0, 1) := by decide +kernel
theorem dX3_closes_63 : decode cX3_closes 63 = .ok (.ireturn, 1) := by decide +kernel
theorem dX3_closes_64 : decode cX3_closes 64 = .ok (.iinc 5 1, 3) := by decide +kernel
theorem dX3_closes_67 : decode cX3_closes 67 = .ok (.goto (-41), 3) := by decide +kernel
theorem dX3_closes_70 : decode cX3_closes 70 = .ok (.iconst 1, 1) := by decide +kernel
theorem dX3_closes_71 : decode cX3_closes 71 = .ok (.ireturn, 1) := by decide +kernel
theorem dX3_fits_0 : decode cX3_fits 0 = .ok (.aload_n 0, 1) := by decide +kernel
theorem dX3_fits_1 : decode cX3_fits 1 = .ok (.iload_n 1, 1) := by decide +kernel
theorem dX3_fits_2 : decode cX3_fits 2 = .ok (.iload_n 2, 1) := by decide +kernel
theorem dX3_fits_3 : decode cX3_fits 3 = .ok (.iconst 0, 1) := by decide +kernel
theorem dX3_fits_4 : decode cX3_fits 4 = .ok (.invokevirtual 40, 3) := by decide +kernel
theorem dX3_fits_7 : decode cX3_fits 7 = .ok (.ifCond .eq 17, 3) := by decide +kernel
theorem dX3_fits_10 : decode cX3_fits 10 = .ok (.aload_n 0, 1) := by decide +kernel
theorem dX3_fits_11 : decode cX3_fits 11 = .ok (.iload_n 1, 1) := by decide +kernel
theorem dX3_fits_12 : decode cX3_fits 12 = .ok (.iload_n 2, 1) := by decide +kernel
theorem dX3_fits_13 : decode cX3_fits 13 = .ok (.iconst 1, 1) := by decide +kernel
theorem dX3_fits_14 : decode cX3_fits 14 = .ok (.invokevirtual 40, 3) := by decide +kernel
theorem dX3_fits_17 : decode cX3_fits 17 = .ok (.ifCond .eq 7, 3) := by decide +kernel
theorem dX3_fits_20 : decode cX3_fits 20 = .ok (.iconst 1, 1) := by decide +kernel
theorem dX3_fits_21 : decode cX3_fits 21 = .ok (.goto 4, 3) := by decide +kernel
theorem dX3_fits_24 : decode cX3_fits 24 = .ok (.iconst 0, 1) := by decide +kernel
theorem dX3_fits_25 : decode cX3_fits 25 = .ok (.ireturn, 1) := by decide +kernel
theorem dX3_keep_0 : decode cX3_keep 0 = .ok (.aload_n 0, 1) := by decide +kernel
theorem dX3_keep_1 : decode cX3_keep 1 = .ok (.getfield 27, 3) := by decide +kernel
theorem dX3_keep_4 : decode cX3_keep 4 = .ok (.sipush 2100, 3) := by decide +kernel
theorem dX3_keep_7 : decode cX3_keep 7 = .ok (.if_icmp .ge 23, 3) := by decide +kernel
theorem dX3_keep_10 : decode cX3_keep 10 = .ok (.aload_n 0, 1) := by decide +kernel
theorem dX3_keep_11 : decode cX3_keep 11 = .ok (.getfield 11, 3) := by decide +kernel
theorem dX3_keep_14 : decode cX3_keep 14 = .ok (.aload_n 0, 1) := by decide +kernel
theorem dX3_keep_15 : decode cX3_keep 15 = .ok (.getfield 27, 3) := by decide +kernel
theorem dX3_keep_18 : decode cX3_keep 18 = .ok (.iload_n 1, 1) := by decide +kernel
theorem dX3_keep_19 : decode cX3_keep 19 = .ok (.iastore, 1) := by decide +kernel
theorem dX3_keep_20 : decode cX3_keep 20 = .ok (.aload_n 0, 1) := by decide +kernel
theorem dX3_keep_21 : decode cX3_keep 21 = .ok (.dup, 1) := by decide +kernel
theorem dX3_keep_22 : decode cX3_keep 22 = .ok (.getfield 27, 3) := by decide +kernel
theorem dX3_keep_25 : decode cX3_keep 25 = .ok (.iconst 1, 1) := by decide +kernel
theorem dX3_keep_26 : decode cX3_keep 26 = .ok (.iadd, 1) := by decide +kernel
theorem dX3_keep_27 : decode cX3_keep 27 = .ok (.putfield 27, 3) := by decide +kernel
theorem dX3_keep_30 : decode cX3_keep 30 = .ok (.return_, 1) := by decide +kernel
theorem dX3_clear_0 : decode cX3_clear 0 = .ok (.aload_n 0, 1) := by decide +kernel
theorem dX3_clear_1 : decode cX3_clear 1 = .ok (.iload_n 1, 1) := by decide +kernel
theorem dX3_clear_2 : decode cX3_clear 2 = .ok (.putfield 31, 3) := by decide +kernel
theorem dX3_clear_5 : decode cX3_clear 5 = .ok (.aload_n 0, 1) := by decide +kernel
theorem dX3_clear_6 : decode cX3_clear 6 = .ok (.getfield 21, 3) := by decide +kernel
theorem dX3_clear_9 : decode cX3_clear 9 = .ok (.iconst (-1), 1) := by decide +kernel
theorem dX3_clear_10 : decode cX3_clear 10 = .ok (.invokestatic 34, 3) := by decide +kernel
theorem dX3_clear_13 : decode cX3_clear 13 = .ok (.return_, 1) := by decide +kernel
theorem dX3_grow_0 : decode cX3_grow 0 = .ok (.iload_n 1, 1) := by decide +kernel
theorem dX3_grow_1 : decode cX3_grow 1 = .ok (.aload_n 0, 1) := by decide +kernel
theorem dX3_grow_2 : decode cX3_grow 2 = .ok (.getfield 31, 3) := by decide +kernel
theorem dX3_grow_5 : decode cX3_grow 5 = .ok (.if_icmp .ge 9, 3) := by decide +kernel
theorem dX3_grow_8 : decode cX3_grow 8 = .ok (.iload_n 1, 1) := by decide +kernel
theorem dX3_grow_9 : decode cX3_grow 9 = .ok (.bipush 8, 2) := by decide +kernel
theorem dX3_grow_11 : decode cX3_grow 11 = .ok (.if_icmp .lt 9, 3) := by decide +kernel
theorem dX3_grow_14 : decode cX3_grow 14 = .ok (.aload_n 0, 1) := by decide +kernel
theorem dX3_grow_15 : decode cX3_grow 15 = .ok (.iload_n 2, 1) := by decide +kernel
theorem dX3_grow_16 : decode cX3_grow 16 = .ok (.invokevirtual 63, 3) := by decide +kernel
theorem dX3_grow_19 : decode cX3_grow 19 = .ok (.return_, 1) := by decide +kernel
theorem dX3_grow_20 : decode cX3_grow 20 = .ok (.iconst 0, 1) := by decide +kernel
theorem dX3_grow_21 : decode cX3_grow 21 = .ok (.istore_n 3, 1) := by decide +kernel
theorem dX3_grow_22 : decode cX3_grow 22 = .ok (.iload_n 3, 1) := by decide +kernel
theorem dX3_grow_23 : decode cX3_grow 23 = .ok (.aload_n 0, 1) := by decide +kernel
theorem dX3_grow_24 : decode cX3_grow 24 = .ok (.getfield 31, 3) := by decide +kernel
theorem dX3_grow_27 : decode cX3_grow 27 = .ok (.if_icmp .ge 52, 3) := by decide +kernel
theorem dX3_grow_30 : decode cX3_grow 30 = .ok (.aload_n 0, 1) := by decide +kernel
theorem dX3_grow_31 : decode cX3_grow 31 = .ok (.iload_n 3, 1) := by decide +kernel
theorem dX3_grow_32 : decode cX3_grow 32 = .ok (.invokevirtual 48, 3) := by decide +kernel
theorem dX3_grow_35 : decode cX3_grow 35 = .ok (.iconst (-1), 1) := by decide +kernel
theorem dX3_grow_36 : decode cX3_grow 36 = .ok (.if_icmp .ne 37, 3) := by decide +kernel
theorem dX3_grow_39 : decode cX3_grow 39 = .ok (.aload_n 0, 1) := by decide +kernel
theorem dX3_grow_40 : decode cX3_grow 40 = .ok (.iload_n 3, 1) := by decide +kernel
theorem dX3_grow_41 : decode cX3_grow 41 = .ok (.iload_n 1, 1) := by decide +kernel
theorem dX3_grow_42 : decode cX3_grow 42 = .ok (.invokevirtual 66, 3) := by decide +kernel
theorem dX3_grow_45 : decode cX3_grow 45 = .ok (.ifCond .eq 28, 3) := by decide +kernel
theorem dX3_grow_48 : decode cX3_grow 48 = .ok (.aload_n 0, 1) := by decide +kernel
theorem dX3_grow_49 : decode cX3_grow 49 = .ok (.iload_n 3, 1) := by decide +kernel
theorem dX3_grow_50 : decode cX3_grow 50 = .ok (.iload_n 1, 1) := by decide +kernel
theorem dX3_grow_51 : decode cX3_grow 51 = .ok (.invokevirtual 70, 3) := by decide +kernel
theorem dX3_grow_54 : decode cX3_grow 54 = .ok (.aload_n 0, 1) := by decide +kernel
theorem dX3_grow_55 : decode cX3_grow 55 = .ok (.iload_n 1, 1) := by decide +kernel
theorem dX3_grow_56 : decode cX3_grow 56 = .ok (.iconst 1, 1) := by decide +kernel
theorem dX3_grow_57 : decode cX3_grow 57 = .ok (.iadd, 1) := by decide +kernel
theorem dX3_grow_58 : decode cX3_grow 58 = .ok (.iload_n 2, 1) := by decide +kernel
theorem dX3_grow_59 : decode cX3_grow 59 = .ok (.iload_n 3, 1) := by decide +kernel
theorem dX3_grow_60 : decode cX3_grow 60 = .ok (.iconst 3, 1) := by decide +kernel
theorem dX3_grow_61 : decode cX3_grow 61 = .ok (.iload_n 1, 1) := by decide +kernel
theorem dX3_grow_62 : decode cX3_grow 62 = .ok (.imul, 1) := by decide +kernel
theorem dX3_grow_63 : decode cX3_grow 63 = .ok (.ishl, 1) := by decide +kernel
theorem dX3_grow_64 : decode cX3_grow 64 = .ok (.ior, 1) := by decide +kernel
theorem dX3_grow_65 : decode cX3_grow 65 = .ok (.invokestatic 59, 3) := by decide +kernel
theorem dX3_grow_68 : decode cX3_grow 68 = .ok (.aload_n 0, 1) := by decide +kernel
theorem dX3_grow_69 : decode cX3_grow 69 = .ok (.iload_n 3, 1) := by decide +kernel
theorem dX3_grow_70 : decode cX3_grow 70 = .ok (.invokevirtual 74, 3) := by decide +kernel
theorem dX3_grow_73 : decode cX3_grow 73 = .ok (.iinc 3 1, 3) := by decide +kernel
theorem dX3_grow_76 : decode cX3_grow 76 = .ok (.goto (-54), 3) := by decide +kernel
theorem dX3_grow_79 : decode cX3_grow 79 = .ok (.return_, 1) := by decide +kernel
theorem gf_RX3_27_3 : RGet RX3 27 3 5 := rg_F (ref := "FoldedInHalf$Leaves") uX3 rfl (by decide) (by decide) (tb_1 80 rfl rfl) (.inl rfl)
theorem gf_RX3_11_3 : RGet RX3 11 3 0 := rg_F (ref := "FoldedInHalf$Leaves") uX3 rfl (by decide) (by decide) (tb_1 75 rfl rfl) (.inl rfl)
theorem pf_RX3_27_3 : RPut RX3 27 3 5 false false := rp_I (ref := "FoldedInHalf$Leaves") uX3 tyX3_ok nmX3 rfl (by decide) (by decide) rfl (tb_1 80 rfl rfl) (.inl rfl) rfl okI_int
theorem rl_RX3_2_63_3 : RCall RX3 2 63 2 3 yX3_keep cX3_keep 2 (none) := rc_V (n := 1) (tb_5 52 rfl rfl) (tb_5 54 rfl rfl) (TB_s 46 rfl rfl) (tb_1 3 rfl rfl) (tb_5 55 rfl rfl) (by decide +kernel) (by decide) rfl
theorem rl_RX3_2_66_3 : RCall RX3 2 66 3 3 yX3_fits cX3_fits 3 ((some .boolean)) := rc_V (n := 2) (tb_5 56 rfl rfl) (tb_5 18 rfl rfl) (TB_s 39 rfl rfl) (tb_1 3 rfl rfl) (tb_5 19 rfl rfl) (by decide +kernel) (by decide) rfl
theorem rl_RX3_2_70_3 : RCall RX3 2 70 3 3 yX3_lay cX3_lay 3 (none) := rc_V (n := 2) (tb_5 57 rfl rfl) (tb_5 38 rfl rfl) (TB_s 44 rfl rfl) (tb_1 3 rfl rfl) (tb_5 39 rfl rfl) (by decide +kernel) (by decide) rfl
theorem rl_RX3_0_59_99 : RCall RX3 0 59 3 99 yX3_grow cX3_grow 4 (none) := rc_S (n := 3) (tb_5 49 rfl rfl) (tb_5 50 rfl rfl) (tb_1 3 rfl rfl) (tb_5 51 rfl rfl) (by decide +kernel)
theorem rl_RX3_2_74_3 : RCall RX3 2 74 2 3 yX3_lift cX3_lift 2 (none) := rc_V (n := 1) (tb_5 58 rfl rfl) (tb_5 60 rfl rfl) (TB_s 47 rfl rfl) (tb_1 3 rfl rfl) (tb_5 61 rfl rfl) (by decide +kernel) (by decide) rfl
theorem gi_RX3_31_6 {x : Int32} {ad xs : Nat → Nat} {cD : va_G} {cy : Nat → ClassId} {A : Nat → Prop} {S : zS} {cc : ByteArray} {nL : Nat} {p : Program} {l : Launch} {e : Env} {R : Room} {s : State} {m : MethodId} {args : Array Value} {below : List Frame} {meth : Method} {c : Code} {Q : State → Prop} {Ts : List Cond} {cells slots pc : Nat} {H : Heap} {locs : List Loc} {ls : Array Slot} {rest : List Value} (hM : MX xs cD cy A p s m args c cc nL Ts RX3) (hT : ShT ad S) (hw : zPw cD cy A s.heap S H locs) (hv : zI S 306 (ad 10) = x) (hd : decode cc pc = .ok (.getfield 31, 3)) (k : W p l e R s m args below meth c H locs cells slots Q (F0 m (pc + 3) ls (.int x :: rest))) : W p l e R s m args below meth c H locs cells slots Q (F0 m pc ls (.ref (ad 10) :: rest)) := by
  refine gf_RX3_31_3 p l e _ s m args below meth c H locs _ _ _ xs cD cy A cc nL _ S (ad 10) pc ls rest 0 hM hw (sh_L hT (r := 10) (by decide +kernel)) (sh_K hT (r := 10) (by decide +kernel) rfl) hd rfl ?_
  have e1 : z_v S (ad 10) 0 (z_bs 3 + 6) = .int x := by
    show Value.int (zI S 306 (ad 10)) = _
    rw [hv]
  rw [e1]
  exact k
theorem gs_RX3_21_3 {ad xs : Nat → Nat} {cD : va_G} {cy : Nat → ClassId} {A : Nat → Prop} {S : zS} {cc : ByteArray} {nL : Nat} {p : Program} {l : Launch} {e : Env} {R : Room} {s : State} {m : MethodId} {args : Array Value} {below : List Frame} {meth : Method} {c : Code} {Q : State → Prop} {Ts : List Cond} {cells slots pc : Nat} {H : Heap} {locs : List Loc} {ls : Array Slot} {rest : List Value} (hM : MX xs cD cy A p s m args c cc nL Ts RX3) (hT : ShT ad S) (hw : zPw cD cy A s.heap S H locs) (hd : decode cc pc = .ok (.getfield 21, 3)) (k : W p l e R s m args below meth c H locs cells slots Q (F0 m (pc + 3) ls (.ref (ad 15) :: rest))) : W p l e R s m args below meth c H locs cells slots Q (F0 m pc ls (.ref (ad 10) :: rest)) := by
  refine gf_RX3_21_3 p l e _ s m args below meth c H locs _ _ _ xs cD cy A cc nL _ S (ad 10) pc ls rest 2 hM hw (sh_L hT (r := 10) (by decide +kernel)) (sh_K hT (r := 10) (by decide +kernel) rfl) hd rfl ?_
  have e1 : z_v S (ad 10) 2 (z_bs 3 + 3) = .ref (ad 15) := by
    show va_rf (zQ S (z_bs 3 + 3) (ad 10)) = _
    rw [sh_P hT (r := 10) (f := 3) (r2 := 15) (by decide +kernel) rfl (by decide) rfl (by decide +kernel)]; rfl
  rw [e1]
  exact k
theorem gs_RX3_24_4 {ad xs : Nat → Nat} {cD : va_G} {cy : Nat → ClassId} {A : Nat → Prop} {S : zS} {cc : ByteArray} {nL : Nat} {p : Program} {l : Launch} {e : Env} {R : Room} {s : State} {m : MethodId} {args : Array Value} {below : List Frame} {meth : Method} {c : Code} {Q : State → Prop} {Ts : List Cond} {cells slots pc : Nat} {H : Heap} {locs : List Loc} {ls : Array Slot} {rest : List Value} (hM : MX xs cD cy A p s m args c cc nL Ts RX3) (hT : ShT ad S) (hw : zPw cD cy A s.heap S H locs) (hd : decode cc pc = .ok (.getfield 24, 3)) (k : W p l e R s m args below meth c H locs cells slots Q (F0 m (pc + 3) ls (.ref (ad 16) :: rest))) : W p l e R s m args below meth c H locs cells slots Q (F0 m pc ls (.ref (ad 10) :: rest)) := by
  refine gf_RX3_24_3 p l e _ s m args below meth c H locs _ _ _ xs cD cy A cc nL _ S (ad 10) pc ls rest 2 hM hw (sh_L hT (r := 10) (by decide +kernel)) (sh_K hT (r := 10) (by decide +kernel) rfl) hd rfl ?_
  have e1 : z_v S (ad 10) 2 (z_bs 3 + 4) = .ref (ad 16) := by
    show va_rf (zQ S (z_bs 3 + 4) (ad 10)) = _
    rw [sh_P hT (r := 10) (f := 4) (r2 := 16) (by decide +kernel) rfl (by decide) rfl (by decide +kernel)]; rfl
  rw [e1]
  exact k
theorem gi_RX3_27_5 {x : Int32} {ad xs : Nat → Nat} {cD : va_G} {cy : Nat → ClassId} {A : Nat → Prop} {S : zS} {cc : ByteArray} {nL : Nat} {p : Program} {l : Launch} {e : Env} {R : Room} {s : State} {m : MethodId} {args : Array Value} {below : List Frame} {meth : Method} {c : Code} {Q : State → Prop} {Ts : List Cond} {cells slots pc : Nat} {H : Heap} {locs : List Loc} {ls : Array Slot} {rest : List Value} (hM : MX xs cD cy A p s m args c cc nL Ts RX3) (hT : ShT ad S) (hw : zPw cD cy A s.heap S H locs) (hv : zI S 305 (ad 10) = x) (hd : decode cc pc = .ok (.getfield 27, 3)) (k : W p l e R s m args below meth c H locs cells slots Q (F0 m (pc + 3) ls (.int x :: rest))) : W p l e R s m args below meth c H locs cells slots Q (F0 m pc ls (.ref (ad 10) :: rest)) := by
  refine gf_RX3_27_3 p l e _ s m args below meth c H locs _ _ _ xs cD cy A cc nL _ S (ad 10) pc ls rest 0 hM hw (sh_L hT (r := 10) (by decide +kernel)) (sh_K hT (r := 10) (by decide +kernel) rfl) hd rfl ?_
  have e1 : z_v S (ad 10) 0 (z_bs 3 + 5) = .int x := by
    show Value.int (zI S 305 (ad 10)) = _
    rw [hv]
  rw [e1]
  exact k
theorem gs_RX3_11_0 {ad xs : Nat → Nat} {cD : va_G} {cy : Nat → ClassId} {A : Nat → Prop} {S : zS} {cc : ByteArray} {nL : Nat} {p : Program} {l : Launch} {e : Env} {R : Room} {s : State} {m : MethodId} {args : Array Value} {below : List Frame} {meth : Method} {c : Code} {Q : State → Prop} {Ts : List Cond} {cells slots pc : Nat} {H : Heap} {locs : List Loc} {ls : Array Slot} {rest : List Value} (hM : MX xs cD cy A p s m args c cc nL Ts RX3) (hT : ShT ad S) (hw : zPw cD cy A s.heap S H locs) (hd : decode cc pc = .ok (.getfield 11, 3)) (k : W p l e R s m args below meth c H locs cells slots Q (F0 m (pc + 3) ls (.ref (ad 12) :: rest))) : W p l e R s m args below meth c H locs cells slots Q (F0 m pc ls (.ref (ad 10) :: rest)) := by
  refine gf_RX3_11_3 p l e _ s m args below meth c H locs _ _ _ xs cD cy A cc nL _ S (ad 10) pc ls rest 2 hM hw (sh_L hT (r := 10) (by decide +kernel)) (sh_K hT (r := 10) (by decide +kernel) rfl) hd rfl ?_
  have e1 : z_v S (ad 10) 2 (z_bs 3 + 0) = .ref (ad 12) := by
    show va_rf (zQ S (z_bs 3 + 0) (ad 10)) = _
    rw [sh_P hT (r := 10) (f := 0) (r2 := 12) (by decide +kernel) rfl (by decide) rfl (by decide +kernel)]; rfl
  rw [e1]
  exact k
theorem pi_RX3_27_5 {x : Int32} {ad xs : Nat → Nat} {cD : va_G} {cy : Nat → ClassId} {A : Nat → Prop} {S : zS} {cc : ByteArray} {nL : Nat} {p : Program} {l : Launch} {e : Env} {R : Room} {s : State} {m : MethodId} {args : Array Value} {below : List Frame} {meth : Method} {c : Code} {Q : State → Prop} {Ts : List Cond} {cells slots pc : Nat} {H : Heap} {locs : List Loc} {ls : Array Slot} {rest : List Value} (hM : MX xs cD cy A p s m args c cc nL Ts RX3) (hT : ShT ad S) (hw : zPw cD cy A s.heap S H locs) (hd : decode cc pc = .ok (.putfield 27, 3)) (k : ∀ (H1 : Heap) (locs1 : List Loc), zPw cD cy A s.heap (zsI S 305 (ad 10) x) H1 locs1 → W p l e R s m args below meth c H1 locs1 cells slots Q (F0 m (pc + 3) ls rest)) : W p l e R s m args below meth c H locs cells slots Q (F0 m pc ls (.int x :: .ref (ad 10) :: rest)) := by
  have P1 : RPutI RX3 27 3 5 false false := pf_RX3_27_3
  exact P1 p l e _ s m args below meth c H locs _ _ _ xs cD cy A cc nL _ S (ad 10) pc ls rest x hM (fun q => absurd q (by decide)) (fun q => absurd q (by decide)) hw (sh_L hT (r := 10) (by decide +kernel)) (sh_K hT (r := 10) (by decide +kernel) rfl) hd k
theorem pi_RX3_31_6 {x : Int32} {ad xs : Nat → Nat} {cD : va_G} {cy : Nat → ClassId} {A : Nat → Prop} {S : zS} {cc : ByteArray} {nL : Nat} {p : Program} {l : Launch} {e : Env} {R : Room} {s : State} {m : MethodId} {args : Array Value} {below : List Frame} {meth : Method} {c : Code} {Q : State → Prop} {Ts : List Cond} {cells slots pc : Nat} {H : Heap} {locs : List Loc} {ls : Array Slot} {rest : List Value} (hM : MX xs cD cy A p s m args c cc nL Ts RX3) (hT : ShT ad S) (hw : zPw cD cy A s.heap S H locs) (hd : decode cc pc = .ok (.putfield 31, 3)) (k : ∀ (H1 : Heap) (locs1 : List Loc), zPw cD cy A s.heap (zsI S 306 (ad 10) x) H1 locs1 → W p l e R s m args below meth c H1 locs1 cells slots Q (F0 m (pc + 3) ls rest)) : W p l e R s m args below meth c H locs cells slots Q (F0 m pc ls (.int x :: .ref (ad 10) :: rest)) := by
  have P1 : RPutI RX3 31 3 6 false false := pf_RX3_31_3
  exact P1 p l e _ s m args below meth c H locs _ _ _ xs cD cy A cc nL _ S (ad 10) pc ls rest x hM (fun q => absurd q (by decide)) (fun q => absurd q (by decide)) hw (sh_L hT (r := 10) (by decide +kernel)) (sh_K hT (r := 10) (by decide +kernel) rfl) hd k
set_option maxHeartbeats 1000000 in
set_option maxRecDepth 100000 in
theorem c_J7_fill_53178 {xs : Nat → Nat} (l : Launch) (cD : va_G) (cy : Nat → ClassId) (sz_ : Nat) (S_ : zS) (a0_ n0_ : Nat) (x_ : Int32) (hL : a0_ ∈ zL S_) (hk : zK S_ a0_ = 13) (hn : zN S_ a0_ = n0_) (hn0 : n0_ < 2147483648) : Met l yJ7_fill_53178 (Cond.code yJ7_fill_53178 cJ7_fill_53178 4 none :: TB) ({ frames := 0, cells := 0, slots := 0, locals := 0 } : Room) (va_Pc [.ref a0_, .int x_] (zPre xs cD cy S_ sz_)) (QX cD cy (PN (fun (S1 : zS) => ∃ f_, S1 = zsA S_ a0_ f_ ∧ (∀ k_, k_ < n0_ → f_ k_ = x_) ∧ (∀ k_, n0_ ≤ k_ → f_ k_ = zA S_ a0_ k_))) (zAd cy S_ sz_)) 0 0 (zAd cy S_ sz_) := by
  refine z_ofW (QQ := QX cD cy (PN (fun (S1 : zS) => ∃ f_, S1 = zsA S_ a0_ f_ ∧ (∀ k_, k_ < n0_ → f_ k_ = x_) ∧ (∀ k_, n0_ ≤ k_ → f_ k_ = zA S_ a0_ k_)))) (own := RJ7) (by decide +kernel) rfl rfl (Nat.le_of_ble_eq_true rfl) ?_
  intro p_ e_ s_ m_ args_ below_ meth_ c_ A_ ls hcf hr hlk hnm hK_ hE hZ hw hA hl
  have hM : MX xs cD cy A_ p_ s_ m_ args_ c_ cJ7_fill_53178 4 (Cond.code yJ7_fill_53178 cJ7_fill_53178 4 none :: TB) RJ7 := ⟨hcf, fun w hw => List.mem_cons_of_mem _ hw, hK_, hE, hZ, hA⟩
  obtain ⟨hx, hb_, hml, hown, hts⟩ := id hcf
  have hl : lv_has ls 4 [(0, .ref a0_), (1, .int x_)] := hl
  obtain ⟨N_, eN_⟩ : ∃ N_ : Int32, N_ = nI n0_ := ⟨_, rfl⟩
  refine lv_iconst (v := 0) hx hb_ dJ7_fill_53178_0 (by decide) ?_
  refine lv_istore_n (lv' := [(2, .int 0), (0, .ref a0_), (1, .int x_)]) hx hb_ dJ7_fill_53178_1 rfl hl (by decide) rfl (fun ls hl => ?_)
  refine lv_aload_n hx hb_ dJ7_fill_53178_2 rfl (lv_at hl 1 rfl) ?_
  refine z_alen (n := n0_) (v := N_) hcf hK_ hw hL (Or.inl hk) hn eN_.symm dJ7_fill_53178_3 ?_
  refine lv_istore_n (lv' := [(3, .int N_), (2, .int 0), (0, .ref a0_), (1, .int x_)]) hx hb_ dJ7_fill_53178_4 rfl hl (by decide) rfl (fun ls hl => ?_)
  have J_ : ∀ (n_ j_ : Nat) (i_ : Int32), i_ = nI j_ → j_ ≤ n0_ → n0_ < j_ + n_ → ∀ (f_ : Nat → Int32), (∀ k_, k_ < j_ → f_ k_ = x_) → (∀ k_, j_ ≤ k_ → f_ k_ = zA S_ a0_ k_) → ∀ (H_ : Heap) (locs_ : List Loc), zPw cD cy A_ s_.heap (zsA S_ a0_ f_) H_ locs_ → ∀ ls : Array Slot, lv_has ls 4 [(0, .ref a0_), (1, .int x_), (2, .int i_), (3, .int N_)] → W p_ l e_ ({ frames := 0, cells := 0, slots := 0, locals := 0 } : Room) s_ m_ args_ below_ meth_ c_ H_ locs_ 0 0 (MQ below_ (QX cD cy (PN (fun (S1 : zS) => ∃ f_, S1 = zsA S_ a0_ f_ ∧ (∀ k_, k_ < n0_ → f_ k_ = x_) ∧ (∀ k_, n0_ ≤ k_ → f_ k_ = zA S_ a0_ k_))) A_) args_ s_ 0 0 A_) (F0 m_ 5 ls []) := by
    intro n_
    induction n_ with
    | zero => intro j_ i_ _ _ h_; exact absurd h_ (by omega)
    | succ n_ ih_ =>
      intro j_ i_ ei hj hm_ f_ hf hg H_ locs_ hw ls hl
      have hk2 : zK (zsA S_ a0_ f_) a0_ = 13 := hk
      refine lv_iload_n hx hb_ dJ7_fill_53178_5 rfl (lv_at hl 2 rfl) ?_
      refine lv_iload_n hx hb_ dJ7_fill_53178_6 rfl (lv_at hl 3 rfl) ?_
      refine lv_icmp_ge (tgt := 20) hx hb_ dJ7_fill_53178_7 (by decide) (fun c_7 => ?_) (fun c_7 => ?_)
      · exact z_vretI hcf hr hlk hw (⟨f_, rfl, fun k_ h_ => hf k_ (by have := zn_ge ei eN_ hn0 c_7; omega), fun k_ h_ => hg k_ (by omega)⟩) dJ7_fill_53178_20
      · refine lv_aload_n hx hb_ dJ7_fill_53178_10 rfl (lv_at hl 0 rfl) ?_
        refine lv_iload_n hx hb_ dJ7_fill_53178_11 rfl (lv_at hl 2 rfl) ?_
        refine lv_iload_n hx hb_ dJ7_fill_53178_12 rfl (lv_at hl 1 rfl) ?_
        refine z_iast (n := n0_) hcf hK_ hw hL hk2 hn (by rw [ei]; exact vp_in_nI (zn_lt ei eN_ (by omega) c_7) hn0) dJ7_fill_53178_13 (fun H_ locs_ hw => ?_)
        obtain ⟨i2_, ei2⟩ : ∃ y_ : Int32, y_ = i_ + 1 := ⟨_, rfl⟩
        refine lv_iinc (v := i2_) (lv' := [(2, .int i2_), (0, .ref a0_), (1, .int x_), (3, .int N_)]) hx hb_ dJ7_fill_53178_14 hl (k := 2) rfl (by rw [ei2]; rfl) (by decide) rfl (fun ls hl => ?_)
        refine lv_goto (tgt := 5) hx hb_ dJ7_fill_53178_17 (by decide) ?_
        rw [zsA_zsA, zA_zsA] at hw
        have hlt : j_ < n0_ := zn_lt ei eN_ (by omega) c_7
        refine ih_ (j_ + 1) i2_ (by rw [ei2, ei]; exact nI_1 j_) hlt (by omega) _ (fun k_ hk => ?_) (fun k_ hk => ?_) _ _ hw ls (lv_sub hl [1, 2, 0, 3] rfl)
        · by_cases e_ : k_ = j_
          · subst e_; simp [upd, ei, nI_clamp (show k_ < 2 ^ 31 by omega)]
          · simp only [upd, ei, nI_clamp (show j_ < 2 ^ 31 by omega), if_neg e_]; exact hf k_ (by omega)
        · have e_ : k_ ≠ j_ := by omega
          simp only [upd, ei, nI_clamp (show j_ < 2 ^ 31 by omega), if_neg e_]; exact hg k_ (by omega)
  exact J_ (n0_ + 1) 0 0 nI_0.symm (Nat.zero_le _) (by omega) (zA S_ a0_) (fun k_ h_ => absurd h_ (Nat.not_lt_zero k_)) (fun k_ _ => rfl) _ _ (by rw [zsA_self]; exact hw) ls (lv_sub hl [2, 3, 1, 0] rfl)
set_option maxHeartbeats 1000000 in
set_option maxRecDepth 100000 in
theorem c_X3_partner {xs ad : Nat → Nat} (lau : Launch) (cD : va_G) (cy : Nat → ClassId) (sz_ : Nat) (S_ : zS) (hSh : ShT ad S_) (n_ l odd : Nat) (hl8 : l < 8) (ho : odd < 2) (hn : n_ ≤ 8) (hs : zI S_ 306 (ad 10) = nI n_) : Met lau yX3_partner (Cond.code yX3_partner cX3_partner 4 (some .int) :: TB) ({ frames := 0, cells := 0, slots := 0, locals := 0 } : Room) (va_Pc [.ref (ad 10), .int (nI l), .int (nI odd)] (zPre xs cD cy S_ sz_)) (QX cD cy (PI (fun (v_ : Int32) (S1 : zS) => v_ = prI n_ l odd ∧ S_ = S1)) (zAd cy S_ sz_)) 0 0 (zAd cy S_ sz_) := by
  refine z_ofW (QQ := QX cD cy (PI (fun (v_ : Int32) (S1 : zS) => v_ = prI n_ l odd ∧ S_ = S1))) (own := RX3) (by decide +kernel) rfl rfl (Nat.le_of_ble_eq_true rfl) ?_
  intro p_ e_ s_ m_ args_ below_ meth_ c_ A_ ls hcf hr hlk hnm hK_ hE hZ hw hA hl
  have hM : MX xs cD cy A_ p_ s_ m_ args_ c_ cX3_partner 4 (Cond.code yX3_partner cX3_partner 4 (some .int) :: TB) RX3 := ⟨hcf, fun w hw => List.mem_cons_of_mem _ hw, hK_, hE, hZ, hA⟩
  obtain ⟨hx, hb_, hml, hown, hts⟩ := id hcf
  have hl : lv_has ls 4 [(0, .ref (ad 10)), (1, .int (nI l)), (2, .int (nI odd))] := hl
  refine lv_iload_n hx hb_ dX3_partner_0 rfl (lv_at hl 1 rfl) ?_
  refine lv_iload_n hx hb_ dX3_partner_1 rfl (lv_at hl 2 rfl) ?_
  refine lv_iadd hx hb_ dX3_partner_2 ?_
  refine lv_iconst (v := 1) hx hb_ dX3_partner_3 (by decide) ?_
  refine lv_ixor hx hb_ dX3_partner_4 ?_
  refine lv_iload_n hx hb_ dX3_partner_5 rfl (lv_at hl 2 rfl) ?_
  refine lv_isub hx hb_ dX3_partner_6 ?_
  refine lv_topi (fun ot eot => ?_)
  refine lv_istore_n (lv' := [(3, .int ot), (0, .ref (ad 10)), (1, .int (nI l)), (2, .int (nI odd))]) hx hb_ dX3_partner_7 rfl hl (by decide) rfl (fun ls hl => ?_)
  refine lv_iload_n hx hb_ dX3_partner_8 rfl (lv_at hl 0 rfl) ?_
  refine lv_if_lt (tgt := 24) hx hb_ dX3_partner_9 (by decide) (fun c_9 => ?_) (fun c_9 => ?_)
  · refine lv_iconst (v := (-1)) hx hb_ dX3_partner_24 (by decide) ?_
    exact z_iretI (ty := .int) (v := (-1)) hcf hr rfl hlk hw (⟨by rw [prI_t l hl8 odd ho n_ (by omega), ← eot]; simp [c_9], rfl⟩) dX3_partner_25
  · refine lv_iload_n hx hb_ dX3_partner_12 rfl (lv_at hl 0 rfl) ?_
    refine lv_aload_n hx hb_ dX3_partner_13 rfl (lv_at hl 1 rfl) ?_
    refine gi_RX3_31_6 (x := (nI n_)) hM hSh hw (hs) dX3_partner_14 ?_
    refine lv_icmp_ge (tgt := 24) hx hb_ dX3_partner_17 (by decide) (fun c_17 => ?_) (fun c_17 => ?_)
    · refine lv_iconst (v := (-1)) hx hb_ dX3_partner_24 (by decide) ?_
      exact z_iretI (ty := .int) (v := (-1)) hcf hr rfl hlk hw (⟨by rw [prI_t l hl8 odd ho n_ (by omega), ← eot]; simp [c_9, c_17], rfl⟩) dX3_partner_25
    · refine lv_iload_n hx hb_ dX3_partner_20 rfl (lv_at hl 0 rfl) ?_
      refine lv_goto (tgt := 25) hx hb_ dX3_partner_21 (by decide) ?_
      exact z_iretI (ty := .int) (v := ot) hcf hr rfl hlk hw (⟨by rw [prI_t l hl8 odd ho n_ (by omega), ← eot]; simp [c_9, c_17], rfl⟩) dX3_partner_25
set_option maxHeartbeats 1000000 in
set_option maxRecDepth 100000 in
theorem c_X3_placeOfLeaf {xs ad : Nat → Nat} (lau : Launch) (cD : va_G) (cy : Nat → ClassId) (sz_ : Nat) (S_ : zS) (hSh : ShT ad S_) (x_ : Int32) : Met lau yX3_placeOfLeaf (Cond.code yX3_placeOfLeaf cX3_placeOfLeaf 2 (some .int) :: TB) ({ frames := 0, cells := 0, slots := 0, locals := 0 } : Room) (va_Pc [.ref (ad 10), .int x_] (zPre xs cD cy S_ sz_)) (QX cD cy (PI (fun (v_ : Int32) (S1 : zS) => v_ = pOf (zA S_ (ad 15)) x_ ∧ S_ = S1)) (zAd cy S_ sz_)) 0 0 (zAd cy S_ sz_) := by
  refine z_ofW (QQ := QX cD cy (PI (fun (v_ : Int32) (S1 : zS) => v_ = pOf (zA S_ (ad 15)) x_ ∧ S_ = S1))) (own := RX3) (by decide +kernel) rfl rfl (Nat.le_of_ble_eq_true rfl) ?_
  intro p_ e_ s_ m_ args_ below_ meth_ c_ A_ ls hcf hr hlk hnm hK_ hE hZ hw hA hl
  have hM : MX xs cD cy A_ p_ s_ m_ args_ c_ cX3_placeOfLeaf 2 (Cond.code yX3_placeOfLeaf cX3_placeOfLeaf 2 (some .int) :: TB) RX3 := ⟨hcf, fun w hw => List.mem_cons_of_mem _ hw, hK_, hE, hZ, hA⟩
  obtain ⟨hx, hb_, hml, hown, hts⟩ := id hcf
  have hl : lv_has ls 2 [(0, .ref (ad 10)), (1, .int x_)] := hl
  refine lv_iload_n hx hb_ dX3_placeOfLeaf_0 rfl (lv_at hl 1 rfl) ?_
  refine lv_if_lt (tgt := 19) hx hb_ dX3_placeOfLeaf_1 (by decide) (fun c_1 => ?_) (fun c_1 => ?_)
  · refine lv_iconst (v := (-1)) hx hb_ dX3_placeOfLeaf_19 (by decide) ?_
    exact z_iretI (ty := .int) (v := (-1)) hcf hr rfl hlk hw (⟨by simp [pOf, c_1], rfl⟩) dX3_placeOfLeaf_20
  · refine lv_iload_n hx hb_ dX3_placeOfLeaf_4 rfl (lv_at hl 1 rfl) ?_
    refine lv_bipush (v := 8) hx hb_ dX3_placeOfLeaf_5 (by decide) ?_
    refine lv_icmp_ge (tgt := 19) hx hb_ dX3_placeOfLeaf_7 (by decide) (fun c_7 => ?_) (fun c_7 => ?_)
    · refine lv_iconst (v := (-1)) hx hb_ dX3_placeOfLeaf_19 (by decide) ?_
      exact z_iretI (ty := .int) (v := (-1)) hcf hr rfl hlk hw (⟨by simp [pOf, c_1, c_7], rfl⟩) dX3_placeOfLeaf_20
    · refine lv_aload_n hx hb_ dX3_placeOfLeaf_10 rfl (lv_at hl 0 rfl) ?_
      refine gs_RX3_21_3 hM hSh hw dX3_placeOfLeaf_11 ?_
      refine lv_iload_n hx hb_ dX3_placeOfLeaf_14 rfl (lv_at hl 1 rfl) ?_
      refine z_iald (n := 8) hcf hK_ hw (sh_L hSh (r := 15) (by decide +kernel)) (sh_K hSh (r := 15) (by decide +kernel) rfl) (sh_N hSh (r := 15) (by decide +kernel) rfl (by decide)) (zx_in c_1 c_7 (by decide)) dX3_placeOfLeaf_15 ?_
      refine lv_goto (tgt := 20) hx hb_ dX3_placeOfLeaf_16 (by decide) ?_
      exact z_iretI (ty := .int) (v := (zA S_ (ad 15) (x_ : Int32).toNatClampNeg)) hcf hr rfl hlk hw (⟨by simp [pOf, c_1, c_7], rfl⟩) dX3_placeOfLeaf_20
set_option maxHeartbeats 1000000 in
set_option maxRecDepth 100000 in
theorem c_X3_leafAtPlace {xs ad : Nat → Nat} (lau : Launch) (cD : va_G) (cy : Nat → ClassId) (sz_ : Nat) (S_ : zS) (hSh : ShT ad S_) (x_ : Int32) : Met lau yX3_leafAtPlace (Cond.code yX3_leafAtPlace cX3_leafAtPlace 2 (some .int) :: TB) ({ frames := 0, cells := 0, slots := 0, locals := 0 } : Room) (va_Pc [.ref (ad 10), .int x_] (zPre xs cD cy S_ sz_)) (QX cD cy (PI (fun (v_ : Int32) (S1 : zS) => v_ = pOf (zA S_ (ad 16)) x_ ∧ S_ = S1)) (zAd cy S_ sz_)) 0 0 (zAd cy S_ sz_) := by
  refine z_ofW (QQ := QX cD cy (PI (fun (v_ : Int32) (S1 : zS) => v_ = pOf (zA S_ (ad 16)) x_ ∧ S_ = S1))) (own := RX3) (by decide +kernel) rfl rfl (Nat.le_of_ble_eq_true rfl) ?_
  intro p_ e_ s_ m_ args_ below_ meth_ c_ A_ ls hcf hr hlk hnm hK_ hE hZ hw hA hl
  have hM : MX xs cD cy A_ p_ s_ m_ args_ c_ cX3_leafAtPlace 2 (Cond.code yX3_leafAtPlace cX3_leafAtPlace 2 (some .int) :: TB) RX3 := ⟨hcf, fun w hw => List.mem_cons_of_mem _ hw, hK_, hE, hZ, hA⟩
  obtain ⟨hx, hb_, hml, hown, hts⟩ := id hcf
  have hl : lv_has ls 2 [(0, .ref (ad 10)), (1, .int x_)] := hl
  refine lv_iload_n hx hb_ dX3_leafAtPlace_0 rfl (lv_at hl 1 rfl) ?_
  refine lv_if_lt (tgt := 19) hx hb_ dX3_leafAtPlace_1 (by decide) (fun c_1 => ?_) (fun c_1 => ?_)
  · refine lv_iconst (v := (-1)) hx hb_ dX3_leafAtPlace_19 (by decide) ?_
    exact z_iretI (ty := .int) (v := (-1)) hcf hr rfl hlk hw (⟨by simp [pOf, c_1], rfl⟩) dX3_leafAtPlace_20
  · refine lv_iload_n hx hb_ dX3_leafAtPlace_4 rfl (lv_at hl 1 rfl) ?_
    refine lv_bipush (v := 8) hx hb_ dX3_leafAtPlace_5 (by decide) ?_
    refine lv_icmp_ge (tgt := 19) hx hb_ dX3_leafAtPlace_7 (by decide) (fun c_7 => ?_) (fun c_7 => ?_)
    · refine lv_iconst (v := (-1)) hx hb_ dX3_leafAtPlace_19 (by decide) ?_
      exact z_iretI (ty := .int) (v := (-1)) hcf hr rfl hlk hw (⟨by simp [pOf, c_1, c_7], rfl⟩) dX3_leafAtPlace_20
    · refine lv_aload_n hx hb_ dX3_leafAtPlace_10 rfl (lv_at hl 0 rfl) ?_
      refine gs_RX3_24_4 hM hSh hw dX3_leafAtPlace_11 ?_
      refine lv_iload_n hx hb_ dX3_leafAtPlace_14 rfl (lv_at hl 1 rfl) ?_
      refine z_iald (n := 8) hcf hK_ hw (sh_L hSh (r := 16) (by decide +kernel)) (sh_K hSh (r := 16) (by decide +kernel) rfl) (sh_N hSh (r := 16) (by decide +kernel) rfl (by decide)) (zx_in c_1 c_7 (by decide)) dX3_leafAtPlace_15 ?_
      refine lv_goto (tgt := 20) hx hb_ dX3_leafAtPlace_16 (by decide) ?_
      exact z_iretI (ty := .int) (v := (zA S_ (ad 16) (x_ : Int32).toNatClampNeg)) hcf hr rfl hlk hw (⟨by simp [pOf, c_1, c_7], rfl⟩) dX3_leafAtPlace_20
set_option maxHeartbeats 1000000 in
set_option maxRecDepth 100000 in
theorem c_X3_lay {xs ad : Nat → Nat} (lau : Launch) (cD : va_G) (cy : Nat → ClassId) (sz_ : Nat) (S_ : zS) (hSh : ShT ad S_) (l pz : Nat) (hl8 : l < 8) (hp8 : pz < 8) : Met lau yX3_lay (Cond.code yX3_lay cX3_lay 3 none :: TB) ({ frames := 0, cells := 0, slots := 0, locals := 0 } : Room) (va_Pc [.ref (ad 10), .int (nI l), .int (nI pz)] (zPre xs cD cy S_ sz_)) (QX cD cy (PN (fun (S1 : zS) => S1 = zsA (zsA S_ (ad 15) (upd (zA S_ (ad 15)) l (nI pz))) (ad 16) (upd (zA S_ (ad 16)) pz (nI l)))) (zAd cy S_ sz_)) 0 0 (zAd cy S_ sz_) := by
  refine z_ofW (QQ := QX cD cy (PN (fun (S1 : zS) => S1 = zsA (zsA S_ (ad 15) (upd (zA S_ (ad 15)) l (nI pz))) (ad 16) (upd (zA S_ (ad 16)) pz (nI l))))) (own := RX3) (by decide +kernel) rfl rfl (Nat.le_of_ble_eq_true rfl) ?_
  intro p_ e_ s_ m_ args_ below_ meth_ c_ A_ ls hcf hr hlk hnm hK_ hE hZ hw hA hl
  have hM : MX xs cD cy A_ p_ s_ m_ args_ c_ cX3_lay 3 (Cond.code yX3_lay cX3_lay 3 none :: TB) RX3 := ⟨hcf, fun w hw => List.mem_cons_of_mem _ hw, hK_, hE, hZ, hA⟩
  obtain ⟨hx, hb_, hml, hown, hts⟩ := id hcf
  have hl : lv_has ls 3 [(0, .ref (ad 10)), (1, .int (nI l)), (2, .int (nI pz))] := hl
  refine lv_iload_n hx hb_ dX3_lay_0 rfl (lv_at hl 1 rfl) ?_
  refine lv_if_lt (tgt := 34) hx hb_ dX3_lay_1 (by decide) (fun c_1 => absurd c_1 (nI_pos (by omega))) (fun c_1 => ?_)
  refine lv_iload_n hx hb_ dX3_lay_4 rfl (lv_at hl 1 rfl) ?_
  refine lv_bipush (v := 8) hx hb_ dX3_lay_5 (by decide) ?_
  refine lv_icmp_ge (tgt := 34) hx hb_ dX3_lay_7 (by decide) (fun c_7 => absurd c_7 (nI_ge hl8 (by decide))) (fun c_7 => ?_)
  refine lv_iload_n hx hb_ dX3_lay_10 rfl (lv_at hl 2 rfl) ?_
  refine lv_if_lt (tgt := 34) hx hb_ dX3_lay_11 (by decide) (fun c_11 => absurd c_11 (nI_pos (by omega))) (fun c_11 => ?_)
  refine lv_iload_n hx hb_ dX3_lay_14 rfl (lv_at hl 2 rfl) ?_
  refine lv_bipush (v := 8) hx hb_ dX3_lay_15 (by decide) ?_
  refine lv_icmp_ge (tgt := 34) hx hb_ dX3_lay_17 (by decide) (fun c_17 => absurd c_17 (nI_ge hp8 (by decide))) (fun c_17 => ?_)
  refine lv_aload_n hx hb_ dX3_lay_20 rfl (lv_at hl 0 rfl) ?_
  refine gs_RX3_21_3 hM hSh hw dX3_lay_21 ?_
  refine lv_iload_n hx hb_ dX3_lay_24 rfl (lv_at hl 1 rfl) ?_
  refine lv_iload_n hx hb_ dX3_lay_25 rfl (lv_at hl 2 rfl) ?_
  refine z_iast (n := 8) hcf hK_ hw (sh_L hSh (r := 15) (by decide +kernel)) (sh_K hSh (r := 15) (by decide +kernel) rfl) (sh_N hSh (r := 15) (by decide +kernel) rfl (by decide)) (vp_in_nI (by omega) (by decide)) dX3_lay_26 (fun H_ locs_ hw => ?_)
  obtain ⟨f1, ef1⟩ : ∃ zz, zz = (upd (zA S_ (ad 15)) ((nI l) : Int32).toNatClampNeg (nI pz)) := ⟨_, rfl⟩
  rw [← ef1] at hw
  have hf1 : f1 = upd (zA S_ (ad 15)) l (nI pz) := by rw [ef1, (nI_clamp (show l < 2 ^ 31 by omega)), show zA S_ (ad 15) = _ from rfl]
  refine lv_aload_n hx hb_ dX3_lay_27 rfl (lv_at hl 0 rfl) ?_
  refine gs_RX3_24_4 hM (sh_A hSh) hw dX3_lay_28 ?_
  refine lv_iload_n hx hb_ dX3_lay_31 rfl (lv_at hl 2 rfl) ?_
  refine lv_iload_n hx hb_ dX3_lay_32 rfl (lv_at hl 1 rfl) ?_
  refine z_iast (n := 8) hcf hK_ hw (sh_L hSh (r := 16) (by decide +kernel)) (sh_K hSh (r := 16) (by decide +kernel) rfl) (sh_N hSh (r := 16) (by decide +kernel) rfl (by decide)) (vp_in_nI (by omega) (by decide)) dX3_lay_33 (fun H_ locs_ hw => ?_)
  obtain ⟨f2, ef2⟩ : ∃ zz, zz = (upd (zA (zsA S_ (ad 15) f1) (ad 16)) ((nI pz) : Int32).toNatClampNeg (nI l)) := ⟨_, rfl⟩
  rw [← ef2] at hw
  have hf2 : f2 = upd (zA S_ (ad 16)) pz (nI l) := by rw [ef2, (nI_clamp (show pz < 2 ^ 31 by omega)), show zA (zsA S_ (ad 15) f1) (ad 16) = _ from (zA_ne _ _ (sh_ne hSh (r := 16) (r2 := 15) (by decide +kernel) (by decide +kernel) (by decide)))]
  exact z_vretI hcf hr hlk hw (by rw [hf1, hf2]) dX3_lay_34
set_option maxHeartbeats 1000000 in
set_option maxRecDepth 100000 in
theorem c_X3_lift {xs ad : Nat → Nat} (lau : Launch) (cD : va_G) (cy : Nat → ClassId) (sz_ : Nat) (S_ : zS) (hSh : ShT ad S_) (l : Nat) (hl8 : l < 8) : Met lau yX3_lift (Cond.code yX3_lift cX3_lift 2 none :: TB) ({ frames := 0, cells := 0, slots := 0, locals := 0 } : Room) (va_Pc [.ref (ad 10), .int (nI l)] (zPre xs cD cy S_ sz_)) (QX cD cy (PN (fun (S1 : zS) => S1 = zsA S_ (ad 15) (upd (zA S_ (ad 15)) l (-1)))) (zAd cy S_ sz_)) 0 0 (zAd cy S_ sz_) := by
  refine z_ofW (QQ := QX cD cy (PN (fun (S1 : zS) => S1 = zsA S_ (ad 15) (upd (zA S_ (ad 15)) l (-1))))) (own := RX3) (by decide +kernel) rfl rfl (Nat.le_of_ble_eq_true rfl) ?_
  intro p_ e_ s_ m_ args_ below_ meth_ c_ A_ ls hcf hr hlk hnm hK_ hE hZ hw hA hl
  have hM : MX xs cD cy A_ p_ s_ m_ args_ c_ cX3_lift 2 (Cond.code yX3_lift cX3_lift 2 none :: TB) RX3 := ⟨hcf, fun w hw => List.mem_cons_of_mem _ hw, hK_, hE, hZ, hA⟩
  obtain ⟨hx, hb_, hml, hown, hts⟩ := id hcf
  have hl : lv_has ls 2 [(0, .ref (ad 10)), (1, .int (nI l))] := hl
  refine lv_iload_n hx hb_ dX3_lift_0 rfl (lv_at hl 1 rfl) ?_
  refine lv_if_lt (tgt := 17) hx hb_ dX3_lift_1 (by decide) (fun c_1 => absurd c_1 (nI_pos (by omega))) (fun c_1 => ?_)
  refine lv_iload_n hx hb_ dX3_lift_4 rfl (lv_at hl 1 rfl) ?_
  refine lv_bipush (v := 8) hx hb_ dX3_lift_5 (by decide) ?_
  refine lv_icmp_ge (tgt := 17) hx hb_ dX3_lift_7 (by decide) (fun c_7 => absurd c_7 (nI_ge hl8 (by decide))) (fun c_7 => ?_)
  refine lv_aload_n hx hb_ dX3_lift_10 rfl (lv_at hl 0 rfl) ?_
  refine gs_RX3_21_3 hM hSh hw dX3_lift_11 ?_
  refine lv_iload_n hx hb_ dX3_lift_14 rfl (lv_at hl 1 rfl) ?_
  refine lv_iconst (v := (-1)) hx hb_ dX3_lift_15 (by decide) ?_
  refine z_iast (n := 8) hcf hK_ hw (sh_L hSh (r := 15) (by decide +kernel)) (sh_K hSh (r := 15) (by decide +kernel) rfl) (sh_N hSh (r := 15) (by decide +kernel) rfl (by decide)) (vp_in_nI (by omega) (by decide)) dX3_lift_16 (fun H_ locs_ hw => ?_)
  obtain ⟨f1, ef1⟩ : ∃ zz, zz = (upd (zA S_ (ad 15)) ((nI l) : Int32).toNatClampNeg (-1)) := ⟨_, rfl⟩
  rw [← ef1] at hw
  have hf1 : f1 = upd (zA S_ (ad 15)) l (-1) := by rw [ef1, (nI_clamp (show l < 2 ^ 31 by omega)), show zA S_ (ad 15) = _ from rfl]
  exact z_vretI hcf hr hlk hw (by rw [hf1]) dX3_lift_17
set_option maxHeartbeats 1000000 in
set_option maxRecDepth 100000 in
theorem c_X3_closes {xs ad : Nat → Nat} (lau : Launch) (cD : va_G) (cy : Nat → ClassId) (sz_ : Nat) (S_ : zS) (hSh : ShT ad S_) (n_ l odd : Nat) (pre : List Nat) (hl8 : l < 8) (ho : odd < 2) (hn : n_ ≤ 8) (hs : zI S_ 306 (ad 10) = nI n_) (hP : ∀ k_, k_ < 8 → zA S_ (ad 15) k_ = pos pre k_) (hA2 : ∀ k_, k_ < pre.length → zA S_ (ad 16) k_ = nI (pre.getD k_ 0)) (hb8 : ∀ x_, x_ ∈ pre → x_ < 8) (hlen : pre.length ≤ 8) : Met lau yX3_closes (Cond.code yX3_closes cX3_closes 7 (some .boolean) :: TB) ({ frames := 1, cells := 0, slots := 0, locals := 23 } : Room) (va_Pc [.ref (ad 10), .int (nI l), .int (nI pre.length), .int (nI odd)] (zPre xs cD cy S_ sz_)) (QX cD cy (PI (fun (v_ : Int32) (S1 : zS) => v_ = (if cCl n_ pre l odd = true then 1 else 0) ∧ S_ = S1)) (zAd cy S_ sz_)) 0 0 (zAd cy S_ sz_) := by
  refine z_ofW (QQ := QX cD cy (PI (fun (v_ : Int32) (S1 : zS) => v_ = (if cCl n_ pre l odd = true then 1 else 0) ∧ S_ = S1))) (own := RX3) (by decide +kernel) rfl rfl (Nat.le_of_ble_eq_true rfl) ?_
  intro p_ e_ s_ m_ args_ below_ meth_ c_ A_ ls hcf hr hlk hnm hK_ hE hZ hw hA hl
  have hM : MX xs cD cy A_ p_ s_ m_ args_ c_ cX3_closes 7 (Cond.code yX3_closes cX3_closes 7 (some .boolean) :: TB) RX3 := ⟨hcf, fun w hw => List.mem_cons_of_mem _ hw, hK_, hE, hZ, hA⟩
  obtain ⟨hx, hb_, hml, hown, hts⟩ := id hcf
  have hl : lv_has ls 7 [(0, .ref (ad 10)), (1, .int (nI l)), (2, .int (nI pre.length)), (3, .int (nI odd))] := hl
  refine lv_aload_n hx hb_ dX3_closes_0 rfl (lv_at hl 0 rfl) ?_
  refine lv_aload_n hx hb_ dX3_closes_1 rfl (lv_at hl 0 rfl) ?_
  refine lv_iload_n hx hb_ dX3_closes_2 rfl (lv_at hl 1 rfl) ?_
  refine lv_iload_n hx hb_ dX3_closes_3 rfl (lv_at hl 3 rfl) ?_
  refine z_call hw hA (rl_RX3_2_44_3 p_ lau e_ _ s_ m_ args_ below_ meth_ c_ _ _ _ _ xs cD cy A_ _ _ _ _ 4 ls [.ref (ad 10)] [.ref (ad 10), .int (nI l), .int (nI odd)] _ _ 0 0 _ hM hw rfl (Or.inr (Or.inl ⟨by decide, _, _, rfl, sh_L hSh (r := 10) (by decide +kernel), sh_K hSh (r := 10) (by decide +kernel) rfl⟩)) (c_X3_partner lau cD cy _ S_ hSh n_ l odd hl8 ho hn hs) rfl rfl (show 0 + 1 ≤ 1 by omega) (show 8 + (4 + 11) + (0) ≤ 23 by omega) (show (1 : Nat) ≤ 8 by decide) dX3_closes_4 ⟨Nat.le_refl _, Nat.le_refl _⟩ hl.1) (fun rv_ S2 ρ2 H_ locs_ hp hw => ?_)
  obtain ⟨v1, rfl, hp⟩ := hp
  obtain ⟨hv1, rfl⟩ := hp
  refine z_call hw hA (rl_RX3_2_48_3 p_ lau e_ _ s_ m_ args_ below_ meth_ c_ _ _ _ _ xs cD cy A_ _ _ _ _ 7 ls [] [.ref (ad 10), .int v1] _ _ 0 0 _ hM hw rfl (Or.inr (Or.inl ⟨by decide, _, _, rfl, sh_L hSh (r := 10) (by decide +kernel), sh_K hSh (r := 10) (by decide +kernel) rfl⟩)) (c_X3_placeOfLeaf lau cD cy _ S_ hSh v1) rfl rfl (show 0 + 1 ≤ 1 by omega) (show 8 + (2 + 11) + (0) ≤ 23 by omega) (show (0 : Nat) ≤ 8 by decide) dX3_closes_7 ⟨Nat.le_refl _, Nat.le_refl _⟩ hl.1) (fun rv_ S4 ρ2 H_ locs_ hp hw => ?_)
  obtain ⟨v3, rfl, hp⟩ := hp
  obtain ⟨hv3, rfl⟩ := hp
  have ht0 : v3 = tpI n_ pre l odd := by rw [hv3, hv1]; exact pOf_pr hn hP
  refine lv_istore (lv' := [(4, .int v3), (0, .ref (ad 10)), (1, .int (nI l)), (2, .int (nI pre.length)), (3, .int (nI odd))]) hx hb_ dX3_closes_10 hl (by decide) rfl (fun ls hl => ?_)
  refine lv_iload hx hb_ dX3_closes_12 (lv_at hl 0 rfl) ?_
  refine lv_iconst (v := (-1)) hx hb_ dX3_closes_14 (by decide) ?_
  refine lv_icmp_ne (tgt := 20) hx hb_ dX3_closes_15 (by decide) (fun c_15 => ?_) (fun c_15 => ?_)
  · obtain ⟨tp, htp, etp, hcl⟩ := tpI_some (n := n_) (pre := pre) (l := l) (odd := odd) (fun q_ => c_15 (ht0.trans q_))
    refine lv_iload hx hb_ dX3_closes_20 (lv_at hl 0 rfl) ?_
    refine lv_iconst (v := 1) hx hb_ dX3_closes_22 (by decide) ?_
    refine lv_iadd hx hb_ dX3_closes_23 ?_
    refine lv_istore (lv' := [(5, .int (v3 + 1)), (4, .int v3), (0, .ref (ad 10)), (1, .int (nI l)), (2, .int (nI pre.length)), (3, .int (nI odd))]) hx hb_ dX3_closes_24 hl (by decide) rfl (fun ls hl => ?_)
    have JA : ∀ (nA jA : Nat) (iA : Int32), iA = nI jA → jA ≤ pre.length → pre.length < jA + nA → tp < jA → cBt n_ pre odd tp jA = true → ∀ (H_ : Heap) (locs_ : List Loc), zPw cD cy A_ s_.heap S_ H_ locs_ → ∀ ls : Array Slot, lv_has ls 7 [(0, .ref (ad 10)), (1, .int (nI l)), (2, .int (nI pre.length)), (3, .int (nI odd)), (4, .int v3), (5, .int iA)] → W p_ lau e_ ({ frames := 1, cells := 0, slots := 0, locals := 23 } : Room) s_ m_ args_ below_ meth_ c_ H_ locs_ 0 0 (MQ below_ (QX cD cy (PI (fun (v_ : Int32) (S1 : zS) => v_ = (if cCl n_ pre l odd = true then 1 else 0) ∧ S_ = S1)) A_) args_ s_ 0 0 A_) (F0 m_ 26 ls []) := by
      intro nA
      induction nA with
      | zero => intro jA iA _ hjA h_; exact absurd h_ (by omega)
      | succ nA ihA =>
        intro jA iA eiA hjA hmA htj hbt H_ locs_ hw ls hl
        refine lv_iload hx hb_ dX3_closes_26 (lv_at hl 5 rfl) ?_
        refine lv_iload_n hx hb_ dX3_closes_28 rfl (lv_at hl 2 rfl) ?_
        refine lv_icmp_ge (tgt := 70) hx hb_ dX3_closes_29 (by decide) (fun c_29 => ?_) (fun c_29 => ?_)
        · refine lv_iconst (v := 1) hx hb_ dX3_closes_70 (by decide) ?_
          exact z_iretI (ty := .boolean) (v := 1) hcf hr rfl hlk hw (⟨(if_pos (by rw [hcl, ← hbt]; congr 1; have := zn_ge eiA rfl (by omega) c_29; omega)).symm, rfl⟩) dX3_closes_71
        · have hlt : jA < pre.length := zn_lt eiA rfl (by omega) c_29
          have hm8 : pre.getD jA 0 < 8 := hb8 _ (by rw [List.getD_eq_getElem?_getD, List.getElem?_eq_getElem hlt]; exact List.getElem_mem hlt)
          refine lv_aload_n hx hb_ dX3_closes_32 rfl (lv_at hl 0 rfl) ?_
          refine lv_aload_n hx hb_ dX3_closes_33 rfl (lv_at hl 0 rfl) ?_
          refine lv_iload hx hb_ dX3_closes_34 (lv_at hl 5 rfl) ?_
          refine z_call hw hA (rl_RX3_2_52_3 p_ lau e_ _ s_ m_ args_ below_ meth_ c_ _ _ _ _ xs cD cy A_ _ _ _ _ 36 ls [.ref (ad 10)] [.ref (ad 10), .int iA] _ _ 0 0 _ hM hw rfl (Or.inr (Or.inl ⟨by decide, _, _, rfl, sh_L hSh (r := 10) (by decide +kernel), sh_K hSh (r := 10) (by decide +kernel) rfl⟩)) (c_X3_leafAtPlace lau cD cy _ S_ hSh iA) rfl rfl (show 0 + 1 ≤ 1 by omega) (show 8 + (2 + 11) + (0) ≤ 23 by omega) (show (1 : Nat) ≤ 8 by decide) dX3_closes_36 ⟨Nat.le_refl _, Nat.le_refl _⟩ hl.1) (fun rv_ S6 ρ2 H_ locs_ hp hw => ?_)
          obtain ⟨v5, rfl, hp⟩ := hp
          obtain ⟨hv5, rfl⟩ := hp
          refine z_topi (y := nI (pre.getD jA 0)) (by rw [hv5, eiA, pOf_nI (by omega)]; exact hA2 jA hlt) ?_
          refine lv_iload_n hx hb_ dX3_closes_39 rfl (lv_at hl 3 rfl) ?_
          refine z_call hw hA (rl_RX3_2_44_3 p_ lau e_ _ s_ m_ args_ below_ meth_ c_ _ _ _ _ xs cD cy A_ _ _ _ _ 40 ls [] [.ref (ad 10), .int (nI (pre.getD jA 0)), .int (nI odd)] _ _ 0 0 _ hM hw rfl (Or.inr (Or.inl ⟨by decide, _, _, rfl, sh_L hSh (r := 10) (by decide +kernel), sh_K hSh (r := 10) (by decide +kernel) rfl⟩)) (c_X3_partner lau cD cy _ S_ hSh n_ ((pre.getD jA 0)) odd hm8 ho hn hs) rfl rfl (show 0 + 1 ≤ 1 by omega) (show 8 + (4 + 11) + (0) ≤ 23 by omega) (show (0 : Nat) ≤ 8 by decide) dX3_closes_40 ⟨Nat.le_refl _, Nat.le_refl _⟩ hl.1) (fun rv_ S8 ρ2 H_ locs_ hp hw => ?_)
          obtain ⟨v7, rfl, hp⟩ := hp
          obtain ⟨hv7, rfl⟩ := hp
          refine lv_istore (lv' := [(6, .int v7), (0, .ref (ad 10)), (1, .int (nI l)), (2, .int (nI pre.length)), (3, .int (nI odd)), (4, .int v3), (5, .int iA)]) hx hb_ dX3_closes_43 hl (by decide) rfl (fun ls hl => ?_)
          refine lv_iload hx hb_ dX3_closes_45 (lv_at hl 0 rfl) ?_
          refine lv_iconst (v := (-1)) hx hb_ dX3_closes_47 (by decide) ?_
          refine lv_icmp_eq (tgt := 64) hx hb_ dX3_closes_48 (by decide) (fun c_48 => ?_) (fun c_48 => ?_)
          · obtain ⟨i2_, ei2⟩ : ∃ y_ : Int32, y_ = iA + 1 := ⟨_, rfl⟩
            refine lv_iinc (v := i2_) (lv' := [(5, .int i2_), (6, .int v7), (0, .ref (ad 10)), (1, .int (nI l)), (2, .int (nI pre.length)), (3, .int (nI odd)), (4, .int v3)]) hx hb_ dX3_closes_64 hl (k := 6) rfl (by rw [ei2]; rfl) (by decide) rfl (fun ls hl => ?_)
            refine lv_goto (tgt := 26) hx hb_ dX3_closes_67 (by decide) ?_
            exact ihA (jA + 1) i2_ (by rw [ei2, eiA]; exact nI_1 jA) (by omega) (by omega) (by omega) (by rw [cBt, hbt, if_pos htj, (cOk_iff hn hlen (by omega)).mpr (Or.inl (by rw [← hv7]; exact c_48))]; rfl) _ _ hw ls (lv_sub hl [2, 3, 4, 5, 6, 0] rfl)
          · refine lv_aload_n hx hb_ dX3_closes_51 rfl (lv_at hl 1 rfl) ?_
            refine lv_iload hx hb_ dX3_closes_52 (lv_at hl 0 rfl) ?_
            refine z_call hw hA (rl_RX3_2_48_3 p_ lau e_ _ s_ m_ args_ below_ meth_ c_ _ _ _ _ xs cD cy A_ _ _ _ _ 54 ls [] [.ref (ad 10), .int v7] _ _ 0 0 _ hM hw rfl (Or.inr (Or.inl ⟨by decide, _, _, rfl, sh_L hSh (r := 10) (by decide +kernel), sh_K hSh (r := 10) (by decide +kernel) rfl⟩)) (c_X3_placeOfLeaf lau cD cy _ S_ hSh v7) rfl rfl (show 0 + 1 ≤ 1 by omega) (show 8 + (2 + 11) + (0) ≤ 23 by omega) (show (0 : Nat) ≤ 8 by decide) dX3_closes_54 ⟨Nat.le_refl _, Nat.le_refl _⟩ hl.1) (fun rv_ S10 ρ2 H_ locs_ hp hw => ?_)
            obtain ⟨v9, rfl, hp⟩ := hp
            obtain ⟨hv9, rfl⟩ := hp
            have ht1 : v9 = tpI n_ pre (pre.getD jA 0) odd := by rw [hv9, hv7]; exact pOf_pr hn hP
            refine lv_iload hx hb_ dX3_closes_57 (lv_at hl 5 rfl) ?_
            refine lv_icmp_ge (tgt := 64) hx hb_ dX3_closes_59 (by decide) (fun c_59 => ?_) (fun c_59 => ?_)
            · obtain ⟨i2_, ei2⟩ : ∃ y_ : Int32, y_ = iA + 1 := ⟨_, rfl⟩
              refine lv_iinc (v := i2_) (lv' := [(5, .int i2_), (6, .int v7), (0, .ref (ad 10)), (1, .int (nI l)), (2, .int (nI pre.length)), (3, .int (nI odd)), (4, .int v3)]) hx hb_ dX3_closes_64 hl (k := 6) rfl (by rw [ei2]; rfl) (by decide) rfl (fun ls hl => ?_)
              refine lv_goto (tgt := 26) hx hb_ dX3_closes_67 (by decide) ?_
              exact ihA (jA + 1) i2_ (by rw [ei2, eiA]; exact nI_1 jA) (by omega) (by omega) (by omega) (by rw [cBt, hbt, if_pos htj, (cOk_iff hn hlen (by omega)).mpr (Or.inr (by rw [← etp, ← ht0, ← ht1]; exact c_59))]; rfl) _ _ hw ls (lv_sub hl [2, 3, 4, 5, 6, 0] rfl)
            · refine lv_iconst (v := 0) hx hb_ dX3_closes_62 (by decide) ?_
              exact z_iretI (ty := .boolean) (v := 0) hcf hr rfl hlk hw (⟨(if_neg (fun q_ => by rw [hcl] at q_; exact ((cOk_iff hn hlen (by omega)).mp (cBt_iff.mp q_ jA htj hlt)).elim (fun z_ => c_48 (by rw [hv7]; exact z_)) (fun z_ => c_59 (by rw [ht0, etp, ht1]; exact z_)))).symm, rfl⟩) dX3_closes_63
    exact JA (pre.length + 1) (tp + 1) _ (by rw [ht0, etp]; exact nI_1 tp) (by omega) (by omega) (by omega) (cBt_iff.mpr (fun k_ h1 h2 => by omega)) _ _ hw ls (lv_sub hl [2, 3, 4, 5, 1, 0] rfl)
  · refine lv_iconst (v := 1) hx hb_ dX3_closes_18 (by decide) ?_
    exact z_iretI (ty := .boolean) (v := 1) hcf hr rfl hlk hw (⟨(if_pos (tpI_no hlen (ht0.symm.trans c_15))).symm, rfl⟩) dX3_closes_19
set_option maxHeartbeats 1000000 in
set_option maxRecDepth 100000 in
theorem c_X3_fits {xs ad : Nat → Nat} (lau : Launch) (cD : va_G) (cy : Nat → ClassId) (sz_ : Nat) (S_ : zS) (hSh : ShT ad S_) (n_ l : Nat) (pre : List Nat) (hl8 : l < 8) (hn : n_ ≤ 8) (hs : zI S_ 306 (ad 10) = nI n_) (hP : ∀ k_, k_ < 8 → zA S_ (ad 15) k_ = pos pre k_) (hA2 : ∀ k_, k_ < pre.length → zA S_ (ad 16) k_ = nI (pre.getD k_ 0)) (hb8 : ∀ x_, x_ ∈ pre → x_ < 8) (hlen : pre.length ≤ 8) : Met lau yX3_fits (Cond.code yX3_fits cX3_fits 3 (some .boolean) :: TB) ({ frames := 2, cells := 0, slots := 0, locals := 49 } : Room) (va_Pc [.ref (ad 10), .int (nI l), .int (nI pre.length)] (zPre xs cD cy S_ sz_)) (QX cD cy (PI (fun (v_ : Int32) (S1 : zS) => v_ = (if cFit n_ pre l = true then 1 else 0) ∧ S_ = S1)) (zAd cy S_ sz_)) 0 0 (zAd cy S_ sz_) := by
  refine z_ofW (QQ := QX cD cy (PI (fun (v_ : Int32) (S1 : zS) => v_ = (if cFit n_ pre l = true then 1 else 0) ∧ S_ = S1))) (own := RX3) (by decide +kernel) rfl rfl (Nat.le_of_ble_eq_true rfl) ?_
  intro p_ e_ s_ m_ args_ below_ meth_ c_ A_ ls hcf hr hlk hnm hK_ hE hZ hw hA hl
  have hM : MX xs cD cy A_ p_ s_ m_ args_ c_ cX3_fits 3 (Cond.code yX3_fits cX3_fits 3 (some .boolean) :: TB) RX3 := ⟨hcf, fun w hw => List.mem_cons_of_mem _ hw, hK_, hE, hZ, hA⟩
  obtain ⟨hx, hb_, hml, hown, hts⟩ := id hcf
  have hl : lv_has ls 3 [(0, .ref (ad 10)), (1, .int (nI l)), (2, .int (nI pre.length))] := hl
  refine lv_aload_n hx hb_ dX3_fits_0 rfl (lv_at hl 0 rfl) ?_
  refine lv_iload_n hx hb_ dX3_fits_1 rfl (lv_at hl 1 rfl) ?_
  refine lv_iload_n hx hb_ dX3_fits_2 rfl (lv_at hl 2 rfl) ?_
  refine lv_iconst (v := 0) hx hb_ dX3_fits_3 (by decide) ?_
  refine z_call hw hA (rl_RX3_2_40_3 p_ lau e_ _ s_ m_ args_ below_ meth_ c_ _ _ _ _ xs cD cy A_ _ _ _ _ 4 ls [] [.ref (ad 10), .int (nI l), .int (nI pre.length), .int 0] _ _ 0 0 _ hM hw rfl (Or.inr (Or.inl ⟨by decide, _, _, rfl, sh_L hSh (r := 10) (by decide +kernel), sh_K hSh (r := 10) (by decide +kernel) rfl⟩)) (c_X3_closes lau cD cy _ S_ hSh n_ l 0 pre hl8 (by decide) hn hs hP hA2 hb8 hlen) rfl rfl (show 1 + 1 ≤ 2 by omega) (show 8 + (7 + 11) + (23) ≤ 49 by omega) (show (0 : Nat) ≤ 8 by decide) dX3_fits_4 ⟨Nat.le_refl _, Nat.le_refl _⟩ hl.1) (fun rv_ S2 ρ2 H_ locs_ hp hw => ?_)
  obtain ⟨v1, rfl, hp⟩ := hp
  obtain ⟨hv1, rfl⟩ := hp
  refine lv_if_eq (tgt := 24) hx hb_ dX3_fits_7 (by decide) (fun c_7 => ?_) (fun c_7 => ?_)
  · refine lv_iconst (v := 0) hx hb_ dX3_fits_24 (by decide) ?_
    exact z_iretI (ty := .boolean) (v := 0) hcf hr rfl hlk hw (⟨(if_neg (fun q_ => by unfold cFit at q_; rw [Bool.and_eq_true] at q_; rw [hv1, if_pos q_.1] at c_7; exact absurd c_7 (by decide))).symm, rfl⟩) dX3_fits_25
  · refine lv_aload_n hx hb_ dX3_fits_10 rfl (lv_at hl 0 rfl) ?_
    refine lv_iload_n hx hb_ dX3_fits_11 rfl (lv_at hl 1 rfl) ?_
    refine lv_iload_n hx hb_ dX3_fits_12 rfl (lv_at hl 2 rfl) ?_
    refine lv_iconst (v := 1) hx hb_ dX3_fits_13 (by decide) ?_
    refine z_call hw hA (rl_RX3_2_40_3 p_ lau e_ _ s_ m_ args_ below_ meth_ c_ _ _ _ _ xs cD cy A_ _ _ _ _ 14 ls [] [.ref (ad 10), .int (nI l), .int (nI pre.length), .int 1] _ _ 0 0 _ hM hw rfl (Or.inr (Or.inl ⟨by decide, _, _, rfl, sh_L hSh (r := 10) (by decide +kernel), sh_K hSh (r := 10) (by decide +kernel) rfl⟩)) (c_X3_closes lau cD cy _ S_ hSh n_ l 1 pre hl8 (by decide) hn hs hP hA2 hb8 hlen) rfl rfl (show 1 + 1 ≤ 2 by omega) (show 8 + (7 + 11) + (23) ≤ 49 by omega) (show (0 : Nat) ≤ 8 by decide) dX3_fits_14 ⟨Nat.le_refl _, Nat.le_refl _⟩ hl.1) (fun rv_ S4 ρ2 H_ locs_ hp hw => ?_)
    obtain ⟨v3, rfl, hp⟩ := hp
    obtain ⟨hv3, rfl⟩ := hp
    refine lv_if_eq (tgt := 24) hx hb_ dX3_fits_17 (by decide) (fun c_17 => ?_) (fun c_17 => ?_)
    · refine lv_iconst (v := 0) hx hb_ dX3_fits_24 (by decide) ?_
      exact z_iretI (ty := .boolean) (v := 0) hcf hr rfl hlk hw (⟨(if_neg (fun q_ => by unfold cFit at q_; rw [Bool.and_eq_true] at q_; rw [hv3, if_pos q_.2] at c_17; exact absurd c_17 (by decide))).symm, rfl⟩) dX3_fits_25
    · refine lv_iconst (v := 1) hx hb_ dX3_fits_20 (by decide) ?_
      refine lv_goto (tgt := 25) hx hb_ dX3_fits_21 (by decide) ?_
      exact z_iretI (ty := .boolean) (v := 1) hcf hr rfl hlk hw (⟨(if_pos (cFit_of hv1 hv3 c_7 c_17)).symm, rfl⟩) dX3_fits_25
set_option maxHeartbeats 1000000 in
set_option maxRecDepth 100000 in
theorem c_X3_keep {xs ad : Nat → Nat} (lau : Launch) (cD : va_G) (cy : Nat → ClassId) (sz_ : Nat) (S_ : zS) (hSh : ShT ad S_) (cn : Nat) (x_ : Int32) (hcn : cn < 2100) (hcc : zI S_ 305 (ad 10) = nI cn) : Met lau yX3_keep (Cond.code yX3_keep cX3_keep 2 none :: TB) ({ frames := 0, cells := 0, slots := 0, locals := 0 } : Room) (va_Pc [.ref (ad 10), .int x_] (zPre xs cD cy S_ sz_)) (QX cD cy (PN (fun (S1 : zS) => S1 = zsI (zsA S_ (ad 12) (upd (zA S_ (ad 12)) cn x_)) 305 (ad 10) (nI (cn + 1)))) (zAd cy S_ sz_)) 0 0 (zAd cy S_ sz_) := by
  refine z_ofW (QQ := QX cD cy (PN (fun (S1 : zS) => S1 = zsI (zsA S_ (ad 12) (upd (zA S_ (ad 12)) cn x_)) 305 (ad 10) (nI (cn + 1))))) (own := RX3) (by decide +kernel) rfl rfl (Nat.le_of_ble_eq_true rfl) ?_
  intro p_ e_ s_ m_ args_ below_ meth_ c_ A_ ls hcf hr hlk hnm hK_ hE hZ hw hA hl
  have hM : MX xs cD cy A_ p_ s_ m_ args_ c_ cX3_keep 2 (Cond.code yX3_keep cX3_keep 2 none :: TB) RX3 := ⟨hcf, fun w hw => List.mem_cons_of_mem _ hw, hK_, hE, hZ, hA⟩
  obtain ⟨hx, hb_, hml, hown, hts⟩ := id hcf
  have hl : lv_has ls 2 [(0, .ref (ad 10)), (1, .int x_)] := hl
  refine lv_aload_n hx hb_ dX3_keep_0 rfl (lv_at hl 0 rfl) ?_
  refine gi_RX3_27_5 (x := (nI cn)) hM hSh hw (hcc) dX3_keep_1 ?_
  refine lv_sipush (v := 2100) hx hb_ dX3_keep_4 (by decide) ?_
  refine lv_icmp_ge (tgt := 30) hx hb_ dX3_keep_7 (by decide) (fun c_7 => absurd c_7 (nI_ge hcn (by decide))) (fun c_7 => ?_)
  refine lv_aload_n hx hb_ dX3_keep_10 rfl (lv_at hl 0 rfl) ?_
  refine gs_RX3_11_0 hM hSh hw dX3_keep_11 ?_
  refine lv_aload_n hx hb_ dX3_keep_14 rfl (lv_at hl 0 rfl) ?_
  refine gi_RX3_27_5 (x := (nI cn)) hM hSh hw (hcc) dX3_keep_15 ?_
  refine lv_iload_n hx hb_ dX3_keep_18 rfl (lv_at hl 1 rfl) ?_
  refine z_iast (n := 2100) hcf hK_ hw (sh_L hSh (r := 12) (by decide +kernel)) (sh_K hSh (r := 12) (by decide +kernel) rfl) (sh_N hSh (r := 12) (by decide +kernel) rfl (by decide)) (vp_in_nI hcn (by decide)) dX3_keep_19 (fun H_ locs_ hw => ?_)
  obtain ⟨f1, ef1⟩ : ∃ zz, zz = (upd (zA S_ (ad 12)) ((nI cn) : Int32).toNatClampNeg x_) := ⟨_, rfl⟩
  rw [← ef1] at hw
  have hf1 : f1 = upd (zA S_ (ad 12)) cn x_ := by rw [ef1, (nI_clamp (show cn < 2 ^ 31 by omega)), show zA S_ (ad 12) = _ from rfl]
  refine lv_aload_n hx hb_ dX3_keep_20 rfl (lv_at hl 0 rfl) ?_
  refine lv_dup hx hb_ dX3_keep_21 rfl ?_
  refine gi_RX3_27_5 (x := (nI cn)) hM (sh_A hSh) hw (hcc) dX3_keep_22 ?_
  refine lv_iconst (v := 1) hx hb_ dX3_keep_25 (by decide) ?_
  refine lv_iadd hx hb_ dX3_keep_26 ?_
  refine z_topi (y := (nI (cn + 1))) (nI_1 cn) ?_
  refine pi_RX3_27_5 hM (sh_A hSh) hw dX3_keep_27 (fun H_ locs_ hw => ?_)
  exact z_vretI hcf hr hlk hw (by rw [hf1]) dX3_keep_30
set_option maxHeartbeats 1000000 in
set_option maxRecDepth 100000 in
theorem c_X3_clear {xs ad : Nat → Nat} (lau : Launch) (cD : va_G) (cy : Nat → ClassId) (sz_ : Nat) (S_ : zS) (hSh : ShT ad S_) (x_ : Int32) : Met lau yX3_clear (Cond.code yX3_clear cX3_clear 2 none :: TB) ({ frames := 1, cells := 0, slots := 0, locals := 23 } : Room) (va_Pc [.ref (ad 10), .int x_] (zPre xs cD cy S_ sz_)) (QX cD cy (PN (fun (S1 : zS) => ∃ fl, S1 = zsA (zsI S_ 306 (ad 10) x_) (ad 15) fl ∧ ∀ k_, k_ < 8 → fl k_ = -1)) (zAd cy S_ sz_)) 0 0 (zAd cy S_ sz_) := by
  refine z_ofW (QQ := QX cD cy (PN (fun (S1 : zS) => ∃ fl, S1 = zsA (zsI S_ 306 (ad 10) x_) (ad 15) fl ∧ ∀ k_, k_ < 8 → fl k_ = -1))) (own := RX3) (by decide +kernel) rfl rfl (Nat.le_of_ble_eq_true rfl) ?_
  intro p_ e_ s_ m_ args_ below_ meth_ c_ A_ ls hcf hr hlk hnm hK_ hE hZ hw hA hl
  have hM : MX xs cD cy A_ p_ s_ m_ args_ c_ cX3_clear 2 (Cond.code yX3_clear cX3_clear 2 none :: TB) RX3 := ⟨hcf, fun w hw => List.mem_cons_of_mem _ hw, hK_, hE, hZ, hA⟩
  obtain ⟨hx, hb_, hml, hown, hts⟩ := id hcf
  have hl : lv_has ls 2 [(0, .ref (ad 10)), (1, .int x_)] := hl
  have hSh0 := hSh
  refine lv_aload_n hx hb_ dX3_clear_0 rfl (lv_at hl 0 rfl) ?_
  refine lv_iload_n hx hb_ dX3_clear_1 rfl (lv_at hl 1 rfl) ?_
  refine pi_RX3_31_6 hM hSh hw dX3_clear_2 (fun H_ locs_ hw => ?_)
  have hSh : ShT ad (zsI S_ 306 (ad 10) x_) := (sh_I hSh0)
  refine lv_aload_n hx hb_ dX3_clear_5 rfl (lv_at hl 0 rfl) ?_
  refine gs_RX3_21_3 hM hSh hw dX3_clear_6 ?_
  refine lv_iconst (v := (-1)) hx hb_ dX3_clear_9 (by decide) ?_
  refine z_call hw hA (rl_RX3_0_34_99 p_ lau e_ _ s_ m_ args_ below_ meth_ c_ _ _ _ _ xs cD cy A_ _ _ _ _ 10 ls [] [.ref (ad 15), .int (-1)] _ _ 0 0 _ hM hw rfl (Or.inl rfl) (c_J7_fill_53178 lau cD cy _ (zsI S_ 306 (ad 10) x_) (ad 15) 8 (-1) (sh_L hSh (r := 15) (by decide +kernel)) (sh_K hSh (r := 15) (by decide +kernel) rfl) (sh_N hSh (r := 15) (by decide +kernel) rfl (by decide)) (by decide)) rfl rfl (show 0 + 1 ≤ 1 by omega) (show 8 + (4 + 11) + (0) ≤ 23 by omega) (show (0 : Nat) ≤ 8 by decide) dX3_clear_10 ⟨Nat.le_refl _, Nat.le_refl _⟩ hl.1) (fun rv_ S2 ρ2 H_ locs_ hp hw => ?_)
  obtain ⟨rfl, hp⟩ := hp
  obtain ⟨fl3, rfl, hfl3, -⟩ := hp
  have hSh : ShT ad (zsA (zsI S_ 306 (ad 10) x_) (ad 15) fl3) := (sh_A (sh_I hSh0))
  exact z_vretI hcf hr hlk hw (⟨fl3, rfl, fun k_ hk => hfl3 k_ hk⟩) dX3_clear_13
set_option maxHeartbeats 1000000 in
set_option maxRecDepth 100000 in
theorem c_X3_grow {xs ad : Nat → Nat} (lau : Launch) (cD : va_G) (cy : Nat → ClassId) (n_ : Nat) (hn : n_ ≤ 8) : ∀ (ee : Nat) (sz_ : Nat) (S_ : zS) (hSh : ShT ad S_) (cn : Nat) (pre : List Nat) (hlen : pre.length + ee = n_) (hb8 : ∀ x_, x_ ∈ pre → x_ < 8) (hs : zI S_ 306 (ad 10) = nI n_) (hcc : zI S_ 305 (ad 10) = nI cn) (hct : cn + (cG n_ ee pre).length ≤ 2100) (hP : ∀ k_, k_ < 8 → zA S_ (ad 15) k_ = pos pre k_) (hA2 : ∀ k_, k_ < pre.length → zA S_ (ad 16) k_ = nI (pre.getD k_ 0)), Met lau yX3_grow (Cond.code yX3_grow cX3_grow 4 none :: TB) ({ frames := ee + 2, cells := 0, slots := 0, locals := 23 * ee + 48 } : Room) (va_Pc [.ref (ad 10), .int (nI pre.length), .int (cdI pre)] (zPre xs cD cy S_ sz_)) (QX cD cy (PN (fun (S1 : zS) => ∃ cod la : Nat → Int32, S1 = zsI (zsA (zsA (zsA S_ (ad 12) cod) (ad 15) (zA S_ (ad 15))) (ad 16) la) 305 (ad 10) (nI (cn + (cG n_ ee pre).length)) ∧ (∀ k_, k_ < cn → cod k_ = zA S_ (ad 12) k_) ∧ (∀ i_, i_ < (cG n_ ee pre).length → cod (cn + i_) = cdI ((cG n_ ee pre).getD i_ [])) ∧ (∀ k_, k_ < pre.length → la k_ = zA S_ (ad 16) k_))) (zAd cy S_ sz_)) 0 0 (zAd cy S_ sz_) := by
  intro ee
  induction ee with
  | zero => ?_
  | succ ee ih => ?_
  all_goals
    intro sz_ S_ hSh cn pre hlen hb8 hs hcc hct hP hA2
    refine z_ofW (QQ := QX cD cy (PN (fun (S1 : zS) => ∃ cod la : Nat → Int32, S1 = zsI (zsA (zsA (zsA S_ (ad 12) cod) (ad 15) (zA S_ (ad 15))) (ad 16) la) 305 (ad 10) (nI (cn + (cG n_ _ pre).length)) ∧ (∀ k_, k_ < cn → cod k_ = zA S_ (ad 12) k_) ∧ (∀ i_, i_ < (cG n_ _ pre).length → cod (cn + i_) = cdI ((cG n_ _ pre).getD i_ [])) ∧ (∀ k_, k_ < pre.length → la k_ = zA S_ (ad 16) k_)))) (own := RX3) (by decide +kernel) rfl rfl (Nat.le_of_ble_eq_true rfl) ?_
    intro p_ e_ s_ m_ args_ below_ meth_ c_ A_ ls hcf hr hlk hnm hK_ hE hZ hw hA hl
    have hM : MX xs cD cy A_ p_ s_ m_ args_ c_ cX3_grow 4 (Cond.code yX3_grow cX3_grow 4 none :: TB) RX3 := ⟨hcf, fun w hw => List.mem_cons_of_mem _ hw, hK_, hE, hZ, hA⟩
    obtain ⟨hx, hb_, hml, hown, hts⟩ := id hcf
    have hl : lv_has ls 4 [(0, .ref (ad 10)), (1, .int (nI pre.length)), (2, .int (cdI pre))] := hl
    have hSh0 := hSh
  · refine lv_iload_n hx hb_ dX3_grow_0 rfl (lv_at hl 1 rfl) ?_
    refine lv_aload_n hx hb_ dX3_grow_1 rfl (lv_at hl 0 rfl) ?_
    refine gi_RX3_31_6 (x := (nI n_)) hM hSh hw (hs) dX3_grow_2 ?_
    refine lv_icmp_ge (tgt := 14) hx hb_ dX3_grow_5 (by decide) (fun c_5 => ?_) (fun c_5 => absurd (nI_le (by omega) (by omega)) c_5)
    refine lv_aload_n hx hb_ dX3_grow_14 rfl (lv_at hl 0 rfl) ?_
    refine lv_iload_n hx hb_ dX3_grow_15 rfl (lv_at hl 2 rfl) ?_
    refine z_call hw hA (rl_RX3_2_63_3 p_ lau e_ _ s_ m_ args_ below_ meth_ c_ _ _ _ _ xs cD cy A_ _ _ _ _ 16 ls [] [.ref (ad 10), .int (cdI pre)] _ _ 0 0 _ hM hw rfl (Or.inr (Or.inl ⟨by decide, _, _, rfl, sh_L hSh (r := 10) (by decide +kernel), sh_K hSh (r := 10) (by decide +kernel) rfl⟩)) (c_X3_keep lau cD cy _ S_ hSh cn (cdI pre) (by have := hct; simp [cG] at this; omega) hcc) rfl rfl (show 0 + 1 ≤ 0 + 2 by omega) (show 8 + (2 + 11) + (0) ≤ 23 * 0 + 48 by omega) (show (0 : Nat) ≤ 8 by decide) dX3_grow_16 ⟨Nat.le_refl _, Nat.le_refl _⟩ hl.1) (fun rv_ S2 ρ2 H_ locs_ hp hw => ?_)
    obtain ⟨rfl, hp⟩ := hp
    obtain rfl := hp
    obtain ⟨f3_, hf3⟩ : ∃ zz, zz = upd (zA S_ (ad 12)) cn (cdI pre) := ⟨_, rfl⟩
    rw [← hf3] at hw
    have hSh : ShT ad (zsI (zsA S_ (ad 12) f3_) 305 (ad 10) (nI (cn + 1))) := (sh_I (sh_A hSh0))
    exact z_vretI hcf hr hlk hw (⟨f3_, zA S_ (ad 16), by rw [zsA_same (S := zsA S_ (ad 12) f3_) (a := ad 15) (zA_ne _ _ (sh_ne hSh (r := 15) (r2 := 12) (by decide +kernel) (by decide +kernel) (by decide))), zsA_same (S := zsA S_ (ad 12) f3_) (a := ad 16) (zA_ne _ _ (sh_ne hSh (r := 16) (r2 := 12) (by decide +kernel) (by decide +kernel) (by decide)))]; rfl, fun k_ hk => by rw [hf3, upd_no _ _ (by omega)], fun i_ hi_ => by have e0 : i_ = 0 := (by simp [cG] at hi_; omega); subst e0; rw [hf3]; exact upd_at _ _ _, fun k_ hk => rfl⟩) dX3_grow_19
  · refine lv_iload_n hx hb_ dX3_grow_0 rfl (lv_at hl 1 rfl) ?_
    refine lv_aload_n hx hb_ dX3_grow_1 rfl (lv_at hl 0 rfl) ?_
    refine gi_RX3_31_6 (x := (nI n_)) hM hSh hw (hs) dX3_grow_2 ?_
    refine lv_icmp_ge (tgt := 14) hx hb_ dX3_grow_5 (by decide) (fun c_5 => absurd c_5 (nI_ge (show pre.length < n_ by omega) (by omega))) (fun c_5 => ?_)
    refine lv_iload_n hx hb_ dX3_grow_8 rfl (lv_at hl 1 rfl) ?_
    refine lv_bipush (v := 8) hx hb_ dX3_grow_9 (by decide) ?_
    refine lv_icmp_lt (tgt := 20) hx hb_ dX3_grow_11 (by decide) (fun c_11 => ?_) (fun c_11 => absurd (nI_lt (show pre.length < 8 by omega) (by decide)) c_11)
    refine lv_iconst (v := 0) hx hb_ dX3_grow_20 (by decide) ?_
    refine lv_istore_n (lv' := [(3, .int 0), (0, .ref (ad 10)), (1, .int (nI pre.length)), (2, .int (cdI pre))]) hx hb_ dX3_grow_21 rfl hl (by decide) rfl (fun ls hl => ?_)
    have JA : ∀ (nA jA : Nat) (iA : Int32), iA = nI jA → jA ≤ n_ → n_ < jA + nA → ∀ (cod la : Nat → Int32) (T : List (List Nat)), T = (List.range jA).flatMap (cGf n_ ee pre) → (∀ k_, k_ < cn → cod k_ = zA S_ (ad 12) k_) → (∀ i_, i_ < T.length → cod (cn + i_) = cdI (T.getD i_ [])) → (∀ k_, k_ < pre.length → la k_ = nI (pre.getD k_ 0)) → ∀ (H_ : Heap) (locs_ : List Loc), zPw cD cy A_ s_.heap (zsI (zsA (zsA (zsA S_ (ad 12) cod) (ad 15) (zA S_ (ad 15))) (ad 16) la) 305 (ad 10) (nI (cn + T.length))) H_ locs_ → ∀ ls : Array Slot, lv_has ls 4 [(0, .ref (ad 10)), (1, .int (nI pre.length)), (2, .int (cdI pre)), (3, .int iA)] → W p_ lau e_ ({ frames := (ee + 1) + 2, cells := 0, slots := 0, locals := 23 * (ee + 1) + 48 } : Room) s_ m_ args_ below_ meth_ c_ H_ locs_ 0 0 (MQ below_ (QX cD cy (PN (fun (S1 : zS) => ∃ cod la : Nat → Int32, S1 = zsI (zsA (zsA (zsA S_ (ad 12) cod) (ad 15) (zA S_ (ad 15))) (ad 16) la) 305 (ad 10) (nI (cn + (cG n_ (ee + 1) pre).length)) ∧ (∀ k_, k_ < cn → cod k_ = zA S_ (ad 12) k_) ∧ (∀ i_, i_ < (cG n_ (ee + 1) pre).length → cod (cn + i_) = cdI ((cG n_ (ee + 1) pre).getD i_ [])) ∧ (∀ k_, k_ < pre.length → la k_ = zA S_ (ad 16) k_))) A_) args_ s_ 0 0 A_) (F0 m_ 22 ls []) := by
      intro nA
      induction nA with
      | zero => intro jA iA _ hjA h_; exact absurd h_ (by omega)
      | succ nA ihA =>
        intro jA iA eiA hjA hmA cod la T hT hk1 hk2 hla H_ locs_ hw ls hl
        subst eiA
        have hSh : ShT ad (zsI (zsA (zsA (zsA S_ (ad 12) cod) (ad 15) (zA S_ (ad 15))) (ad 16) la) 305 (ad 10) (nI (cn + T.length))) := (sh_I (sh_A (sh_A (sh_A hSh0))))
        refine lv_iload_n hx hb_ dX3_grow_22 rfl (lv_at hl 3 rfl) ?_
        refine lv_aload_n hx hb_ dX3_grow_23 rfl (lv_at hl 0 rfl) ?_
        refine gi_RX3_31_6 (x := (nI n_)) hM hSh hw (((zI_nj (by decide)).trans (zI_A.trans (zI_A.trans (zI_A.trans hs))))) dX3_grow_24 ?_
        refine lv_icmp_ge (tgt := 79) hx hb_ dX3_grow_27 (by decide) (fun c_27 => ?_) (fun c_27 => ?_)
        · exact z_vretI hcf hr hlk hw (by have hj : jA = n_ := (by have := zn_ge rfl rfl (by omega) c_27; omega); have hTG : T = cG n_ (ee + 1) pre := (by rw [hT, hj]; rfl); exact ⟨cod, la, by rw [hTG], hk1, by rw [← hTG]; exact hk2, fun k_ hk => (hla k_ hk).trans (hA2 k_ hk).symm⟩) dX3_grow_79
        · have hlt : jA < n_ := zn_lt rfl rfl (by omega) c_27
          have hle : T.length + (cGf n_ ee pre jA).length ≤ (cG n_ (ee + 1) pre).length := by have := rg_le (cGf n_ ee pre) (show jA + 1 ≤ n_ by omega); rw [rg_fm, List.length_append, ← hT, ← cG_eq] at this; exact this
          refine lv_aload_n hx hb_ dX3_grow_30 rfl (lv_at hl 0 rfl) ?_
          refine lv_iload_n hx hb_ dX3_grow_31 rfl (lv_at hl 3 rfl) ?_
          refine z_call hw hA (rl_RX3_2_48_3 p_ lau e_ _ s_ m_ args_ below_ meth_ c_ _ _ _ _ xs cD cy A_ _ _ _ _ 32 ls [] [.ref (ad 10), .int (nI jA)] _ _ 0 0 _ hM hw rfl (Or.inr (Or.inl ⟨by decide, _, _, rfl, sh_L hSh (r := 10) (by decide +kernel), sh_K hSh (r := 10) (by decide +kernel) rfl⟩)) (c_X3_placeOfLeaf lau cD cy _ (zsI (zsA (zsA (zsA S_ (ad 12) cod) (ad 15) (zA S_ (ad 15))) (ad 16) la) 305 (ad 10) (nI (cn + T.length))) hSh (nI jA)) rfl rfl (show 0 + 1 ≤ (ee + 1) + 2 by omega) (show 8 + (2 + 11) + (0) ≤ 23 * (ee + 1) + 48 by omega) (show (0 : Nat) ≤ 8 by decide) dX3_grow_32 ⟨Nat.le_refl _, Nat.le_refl _⟩ hl.1) (fun rv_ S5 ρ2 H_ locs_ hp hw => ?_)
          obtain ⟨v4, rfl, hp⟩ := hp
          obtain ⟨hv4, rfl⟩ := hp
          have hpv : v4 = pos pre jA := by rw [hv4, pOf_nI (by omega), congrFun (show zA (zsI (zsA (zsA (zsA S_ (ad 12) cod) (ad 15) (zA S_ (ad 15))) (ad 16) la) 305 (ad 10) (nI (cn + T.length))) (ad 15) = (zA S_ (ad 15)) from (zA_I.trans ((zA_ne _ _ (sh_ne hSh (r := 15) (r2 := 16) (by decide +kernel) (by decide +kernel) (by decide))).trans (zA_zsA _ _ _)))) jA]; exact hP jA (by omega)
          refine lv_iconst (v := (-1)) hx hb_ dX3_grow_35 (by decide) ?_
          refine lv_icmp_ne (tgt := 73) hx hb_ dX3_grow_36 (by decide) (fun c_36 => ?_) (fun c_36 => ?_)
          · obtain ⟨i2_, ei2⟩ : ∃ y_ : Int32, y_ = (nI jA) + 1 := ⟨_, rfl⟩
            refine lv_iinc (v := i2_) (lv' := [(3, .int i2_), (0, .ref (ad 10)), (1, .int (nI pre.length)), (2, .int (cdI pre))]) hx hb_ dX3_grow_73 hl (k := 3) rfl (by rw [ei2]; rfl) (by decide) rfl (fun ls hl => ?_)
            refine lv_goto (tgt := 22) hx hb_ dX3_grow_76 (by decide) ?_
            have hG : cGf n_ ee pre jA = [] := by rw [cGf, if_pos (Classical.byContradiction fun q_ => c_36 (hpv.trans (pos_no q_)))]
            exact ihA (jA + 1) i2_ (by rw [ei2]; exact nI_1 jA) (by omega) (by omega) cod la T (by rw [rg_fm, hG, List.append_nil]; exact hT) hk1 hk2 hla _ _ hw ls (lv_sub hl [1, 2, 3, 0] rfl)
          · have hnm : jA ∉ pre := fun q_ => pos_in q_ (by omega) (hpv.symm.trans c_36)
            refine lv_aload_n hx hb_ dX3_grow_39 rfl (lv_at hl 0 rfl) ?_
            refine lv_iload_n hx hb_ dX3_grow_40 rfl (lv_at hl 3 rfl) ?_
            refine lv_iload_n hx hb_ dX3_grow_41 rfl (lv_at hl 1 rfl) ?_
            refine z_call hw hA (rl_RX3_2_66_3 p_ lau e_ _ s_ m_ args_ below_ meth_ c_ _ _ _ _ xs cD cy A_ _ _ _ _ 42 ls [] [.ref (ad 10), .int (nI jA), .int (nI pre.length)] _ _ 0 0 _ hM hw rfl (Or.inr (Or.inl ⟨by decide, _, _, rfl, sh_L hSh (r := 10) (by decide +kernel), sh_K hSh (r := 10) (by decide +kernel) rfl⟩)) (c_X3_fits lau cD cy _ (zsI (zsA (zsA (zsA S_ (ad 12) cod) (ad 15) (zA S_ (ad 15))) (ad 16) la) 305 (ad 10) (nI (cn + T.length))) hSh n_ jA pre (by omega) hn ((zI_nj (by decide)).trans (zI_A.trans (zI_A.trans (zI_A.trans hs)))) (fun k_ hk => (congrFun (show zA (zsI (zsA (zsA (zsA S_ (ad 12) cod) (ad 15) (zA S_ (ad 15))) (ad 16) la) 305 (ad 10) (nI (cn + T.length))) (ad 15) = (zA S_ (ad 15)) from (zA_I.trans ((zA_ne _ _ (sh_ne hSh (r := 15) (r2 := 16) (by decide +kernel) (by decide +kernel) (by decide))).trans (zA_zsA _ _ _)))) k_).trans (hP k_ hk)) (fun k_ hk => (congrFun (show zA (zsI (zsA (zsA (zsA S_ (ad 12) cod) (ad 15) (zA S_ (ad 15))) (ad 16) la) 305 (ad 10) (nI (cn + T.length))) (ad 16) = la from (zA_I.trans (zA_zsA _ _ _))) k_).trans (hla k_ hk)) hb8 (by omega)) rfl rfl (show 2 + 1 ≤ (ee + 1) + 2 by omega) (show 8 + (3 + 11) + (49) ≤ 23 * (ee + 1) + 48 by omega) (show (0 : Nat) ≤ 8 by decide) dX3_grow_42 ⟨Nat.le_refl _, Nat.le_refl _⟩ hl.1) (fun rv_ hk ρ2 H_ locs_ hp hw => ?_)
            obtain ⟨k_, rfl, hp⟩ := hp
            obtain ⟨hv6, rfl⟩ := hp
            refine lv_if_eq (tgt := 73) hx hb_ dX3_grow_45 (by decide) (fun c_45 => ?_) (fun c_45 => ?_)
            · obtain ⟨i2_, ei2⟩ : ∃ y_ : Int32, y_ = (nI jA) + 1 := ⟨_, rfl⟩
              refine lv_iinc (v := i2_) (lv' := [(3, .int i2_), (0, .ref (ad 10)), (1, .int (nI pre.length)), (2, .int (cdI pre))]) hx hb_ dX3_grow_73 hl (k := 3) rfl (by rw [ei2]; rfl) (by decide) rfl (fun ls hl => ?_)
              refine lv_goto (tgt := 22) hx hb_ dX3_grow_76 (by decide) ?_
              have hG : cGf n_ ee pre jA = [] := by unfold cGf; exact (Decidable.em (jA ∈ pre)).elim (fun q_ => if_pos q_) (fun q_ => (if_neg q_).trans (if_neg (fun z_ => by rw [hv6, if_pos z_] at c_45; exact absurd c_45 (by decide))))
              exact ihA (jA + 1) i2_ (by rw [ei2]; exact nI_1 jA) (by omega) (by omega) cod la T (by rw [rg_fm, hG, List.append_nil]; exact hT) hk1 hk2 hla _ _ hw ls (lv_sub hl [1, 2, 3, 0] rfl)
            · have hft : cFit n_ pre jA = true := Classical.byContradiction fun q_ => c_45 (by rw [hv6, if_neg q_])
              refine lv_aload_n hx hb_ dX3_grow_48 rfl (lv_at hl 0 rfl) ?_
              refine lv_iload_n hx hb_ dX3_grow_49 rfl (lv_at hl 3 rfl) ?_
              refine lv_iload_n hx hb_ dX3_grow_50 rfl (lv_at hl 1 rfl) ?_
              refine z_call hw hA (rl_RX3_2_70_3 p_ lau e_ _ s_ m_ args_ below_ meth_ c_ _ _ _ _ xs cD cy A_ _ _ _ _ 51 ls [] [.ref (ad 10), .int (nI jA), .int (nI pre.length)] _ _ 0 0 _ hM hw rfl (Or.inr (Or.inl ⟨by decide, _, _, rfl, sh_L hSh (r := 10) (by decide +kernel), sh_K hSh (r := 10) (by decide +kernel) rfl⟩)) (c_X3_lay lau cD cy _ (zsI (zsA (zsA (zsA S_ (ad 12) cod) (ad 15) (zA S_ (ad 15))) (ad 16) la) 305 (ad 10) (nI (cn + T.length))) hSh jA pre.length (by omega) (by omega)) rfl rfl (show 0 + 1 ≤ (ee + 1) + 2 by omega) (show 8 + (3 + 11) + (0) ≤ 23 * (ee + 1) + 48 by omega) (show (0 : Nat) ≤ 8 by decide) dX3_grow_51 ⟨Nat.le_refl _, Nat.le_refl _⟩ hl.1) (fun rv_ S9 ρ2 H_ locs_ hp hw => ?_)
              obtain ⟨rfl, hp⟩ := hp
              obtain rfl := hp
              rw [show zA (zsI (zsA (zsA (zsA S_ (ad 12) cod) (ad 15) (zA S_ (ad 15))) (ad 16) la) 305 (ad 10) (nI (cn + T.length))) (ad 15) = _ from (zA_I.trans ((zA_ne _ _ (sh_ne hSh (r := 15) (r2 := 16) (by decide +kernel) (by decide +kernel) (by decide))).trans (zA_zsA _ _ _))), show zA (zsI (zsA (zsA (zsA S_ (ad 12) cod) (ad 15) (zA S_ (ad 15))) (ad 16) la) 305 (ad 10) (nI (cn + T.length))) (ad 16) = _ from (zA_I.trans (zA_zsA _ _ _))] at hw
              obtain ⟨f10, hf10⟩ : ∃ zz, zz = (upd (zA S_ (ad 15)) jA (nI pre.length)) := ⟨_, rfl⟩
              rw [← hf10] at hw
              rw [zsA_zsI, zsA_comm _ _ _ (sh_ne hSh (r := 16) (r2 := 15) (by decide +kernel) (by decide +kernel) (by decide)), zsA_zsA] at hw
              obtain ⟨f11, hf11⟩ : ∃ zz, zz = (upd la pre.length (nI jA)) := ⟨_, rfl⟩
              rw [← hf11] at hw
              rw [zsA_zsI, zsA_zsA] at hw
              have hSh : ShT ad (zsI (zsA (zsA (zsA S_ (ad 12) cod) (ad 15) f10) (ad 16) f11) 305 (ad 10) (nI (cn + T.length))) := (sh_I (sh_A (sh_A (sh_A hSh0))))
              refine lv_aload_n hx hb_ dX3_grow_54 rfl (lv_at hl 0 rfl) ?_
              refine lv_iload_n hx hb_ dX3_grow_55 rfl (lv_at hl 1 rfl) ?_
              refine lv_iconst (v := 1) hx hb_ dX3_grow_56 (by decide) ?_
              refine lv_iadd hx hb_ dX3_grow_57 ?_
              refine z_topi (y := (nI (pre ++ [jA]).length)) (by rw [nI_1, List.length_append]; rfl) ?_
              refine lv_iload_n hx hb_ dX3_grow_58 rfl (lv_at hl 2 rfl) ?_
              refine lv_iload_n hx hb_ dX3_grow_59 rfl (lv_at hl 3 rfl) ?_
              refine lv_iconst (v := 3) hx hb_ dX3_grow_60 (by decide) ?_
              refine lv_iload_n hx hb_ dX3_grow_61 rfl (lv_at hl 1 rfl) ?_
              refine lv_imul hx hb_ dX3_grow_62 ?_
              refine lv_ishl hx hb_ dX3_grow_63 ?_
              refine lv_ior hx hb_ dX3_grow_64 ?_
              refine z_topi (y := (cdI (pre ++ [jA]))) (cdI_app pre jA) ?_
              refine z_call hw hA (rl_RX3_0_59_99 p_ lau e_ _ s_ m_ args_ below_ meth_ c_ _ _ _ _ xs cD cy A_ _ _ _ _ 65 ls [] [.ref (ad 10), .int (nI (pre ++ [jA]).length), .int (cdI (pre ++ [jA]))] _ _ 0 0 _ hM hw rfl (Or.inl rfl) (ih _ (zsI (zsA (zsA (zsA S_ (ad 12) cod) (ad 15) f10) (ad 16) f11) 305 (ad 10) (nI (cn + T.length))) hSh (cn + T.length) (pre ++ [jA]) (by rw [List.length_append, List.length_singleton]; omega) (fun x_ hx => (List.mem_append.mp hx).elim (fun q_ => hb8 x_ q_) (fun q_ => by rw [List.mem_singleton] at q_; omega)) ((zI_nj (by decide)).trans (zI_A.trans (zI_A.trans (zI_A.trans hs)))) zI_at (by rw [cGf, if_neg hnm, if_pos hft] at hle; omega) (fun k_ hk => by rw [congrFun (show zA (zsI (zsA (zsA (zsA S_ (ad 12) cod) (ad 15) f10) (ad 16) f11) 305 (ad 10) (nI (cn + T.length))) (ad 15) = f10 from (zA_I.trans ((zA_ne _ _ (sh_ne hSh (r := 15) (r2 := 16) (by decide +kernel) (by decide +kernel) (by decide))).trans (zA_zsA _ _ _)))) k_, hf10, pos_app hnm]; exact (Decidable.em (k_ = jA)).elim (fun q_ => by rw [q_, upd_at, if_pos rfl]) (fun q_ => by rw [upd_no _ _ q_, if_neg q_]; exact hP k_ hk)) (fun k_ hk => by rw [congrFun (show zA (zsI (zsA (zsA (zsA S_ (ad 12) cod) (ad 15) f10) (ad 16) f11) 305 (ad 10) (nI (cn + T.length))) (ad 16) = f11 from (zA_I.trans (zA_zsA _ _ _))) k_, hf11]; rw [List.length_append, List.length_singleton] at hk; exact (Decidable.em (k_ = pre.length)).elim (fun q_ => by rw [q_, upd_at]; simp [List.getD_eq_getElem?_getD]) (fun q_ => by rw [upd_no _ _ q_, hla k_ (by omega), List.getD_eq_getElem?_getD, List.getD_eq_getElem?_getD, List.getElem?_append_left (by omega)]))) rfl rfl (show ee + 2 + 1 ≤ (ee + 1) + 2 by omega) (show 8 + (4 + 11) + (23 * ee + 48) ≤ 23 * (ee + 1) + 48 by omega) (show (0 : Nat) ≤ 8 by decide) dX3_grow_65 ⟨Nat.le_refl _, Nat.le_refl _⟩ hl.1) (fun rv_ x_ ρ2 H_ locs_ hp hw => ?_)
              obtain ⟨rfl, hp⟩ := hp
              obtain ⟨cod14, la15, rfl, hc1, hc2, hl2⟩ := hp
              rw [show zA (zsI (zsA (zsA (zsA S_ (ad 12) cod) (ad 15) f10) (ad 16) f11) 305 (ad 10) (nI (cn + T.length))) (ad 15) = _ from (zA_I.trans ((zA_ne _ _ (sh_ne hSh (r := 15) (r2 := 16) (by decide +kernel) (by decide +kernel) (by decide))).trans (zA_zsA _ _ _)))] at hw
              rw [zsA_zsI, zsA_comm _ _ _ (sh_ne hSh (r := 16) (r2 := 12) (by decide +kernel) (by decide +kernel) (by decide)), zsA_comm _ _ _ (sh_ne hSh (r := 15) (r2 := 12) (by decide +kernel) (by decide +kernel) (by decide)), zsA_zsA] at hw
              rw [zsA_zsI, zsA_comm _ _ _ (sh_ne hSh (r := 16) (r2 := 15) (by decide +kernel) (by decide +kernel) (by decide)), zsA_zsA] at hw
              rw [zsA_zsI, zsA_zsA] at hw
              rw [zsI_zsI] at hw
              have hSh : ShT ad (zsI (zsA (zsA (zsA S_ (ad 12) cod14) (ad 15) f10) (ad 16) la15) 305 (ad 10) (nI (cn + T.length + (cG n_ ee (pre ++ [jA])).length))) := (sh_I (sh_A (sh_A (sh_A hSh0))))
              refine lv_aload_n hx hb_ dX3_grow_68 rfl (lv_at hl 0 rfl) ?_
              refine lv_iload_n hx hb_ dX3_grow_69 rfl (lv_at hl 3 rfl) ?_
              refine z_call hw hA (rl_RX3_2_74_3 p_ lau e_ _ s_ m_ args_ below_ meth_ c_ _ _ _ _ xs cD cy A_ _ _ _ _ 70 ls [] [.ref (ad 10), .int (nI jA)] _ _ 0 0 _ hM hw rfl (Or.inr (Or.inl ⟨by decide, _, _, rfl, sh_L hSh (r := 10) (by decide +kernel), sh_K hSh (r := 10) (by decide +kernel) rfl⟩)) (c_X3_lift lau cD cy _ (zsI (zsA (zsA (zsA S_ (ad 12) cod14) (ad 15) f10) (ad 16) la15) 305 (ad 10) (nI (cn + T.length + (cG n_ ee (pre ++ [jA])).length))) hSh jA (by omega)) rfl rfl (show 0 + 1 ≤ (ee + 1) + 2 by omega) (show 8 + (2 + 11) + (0) ≤ 23 * (ee + 1) + 48 by omega) (show (0 : Nat) ≤ 8 by decide) dX3_grow_70 ⟨Nat.le_refl _, Nat.le_refl _⟩ hl.1) (fun rv_ S17 ρ2 H_ locs_ hp hw => ?_)
              obtain ⟨rfl, hp⟩ := hp
              obtain rfl := hp
              rw [show zA (zsI (zsA (zsA (zsA S_ (ad 12) cod14) (ad 15) f10) (ad 16) la15) 305 (ad 10) (nI (cn + T.length + (cG n_ ee (pre ++ [jA])).length))) (ad 15) = _ from (zA_I.trans ((zA_ne _ _ (sh_ne hSh (r := 15) (r2 := 16) (by decide +kernel) (by decide +kernel) (by decide))).trans (zA_zsA _ _ _)))] at hw
              obtain ⟨f18, hf18⟩ : ∃ zz, zz = (upd f10 jA (-1)) := ⟨_, rfl⟩
              rw [← hf18] at hw
              rw [zsA_zsI, zsA_comm _ _ _ (sh_ne hSh (r := 16) (r2 := 15) (by decide +kernel) (by decide +kernel) (by decide)), zsA_zsA] at hw
              have hSh : ShT ad (zsI (zsA (zsA (zsA S_ (ad 12) cod14) (ad 15) f18) (ad 16) la15) 305 (ad 10) (nI (cn + T.length + (cG n_ ee (pre ++ [jA])).length))) := (sh_I (sh_A (sh_A (sh_A hSh0))))
              have hpl : f18 = zA S_ (ad 15) := funext fun k_ => by rw [hf18, hf10]; exact (Decidable.em (k_ = jA)).elim (fun q_ => by rw [q_, upd_at]; exact (pos_no hnm).symm.trans (hP jA (by omega)).symm) (fun q_ => by rw [upd_no _ _ q_, upd_no _ _ q_])
              rw [hpl] at hw
              have hSh : ShT ad (zsI (zsA (zsA (zsA S_ (ad 12) cod14) (ad 15) (zA S_ (ad 15))) (ad 16) la15) 305 (ad 10) (nI (cn + T.length + (cG n_ ee (pre ++ [jA])).length))) := (sh_I (sh_A (sh_A (sh_A hSh0))))
              obtain ⟨i2_, ei2⟩ : ∃ y_ : Int32, y_ = (nI jA) + 1 := ⟨_, rfl⟩
              refine lv_iinc (v := i2_) (lv' := [(3, .int i2_), (0, .ref (ad 10)), (1, .int (nI pre.length)), (2, .int (cdI pre))]) hx hb_ dX3_grow_73 hl (k := 3) rfl (by rw [ei2]; rfl) (by decide) rfl (fun ls hl => ?_)
              refine lv_goto (tgt := 22) hx hb_ dX3_grow_76 (by decide) ?_
              have hG : cGf n_ ee pre jA = cG n_ ee (pre ++ [jA]) := by rw [cGf, if_neg hnm, if_pos hft]
              have ecc : cn + T.length + (cG n_ ee (pre ++ [jA])).length = cn + (T ++ cG n_ ee (pre ++ [jA])).length := by rw [List.length_append]; omega
              rw [ecc] at hw
              refine ihA (jA + 1) i2_ (by rw [ei2]; exact nI_1 jA) (by omega) (by omega) cod14 la15 (T ++ cG n_ ee (pre ++ [jA])) (by rw [rg_fm, hG, hT]) (fun k_ hk => (hc1 k_ (by omega)).trans ((congrFun (show zA (zsI (zsA (zsA (zsA S_ (ad 12) cod) (ad 15) f10) (ad 16) f11) 305 (ad 10) (nI (cn + T.length))) (ad 12) = cod from (zA_I.trans ((zA_ne _ _ (sh_ne hSh (r := 12) (r2 := 16) (by decide +kernel) (by decide +kernel) (by decide))).trans ((zA_ne _ _ (sh_ne hSh (r := 12) (r2 := 15) (by decide +kernel) (by decide +kernel) (by decide))).trans (zA_zsA _ _ _))))) k_).trans (hk1 k_ hk))) (fun i_ hi_ => ?_) (fun k_ hk => ?_) _ _ hw ls (lv_sub hl [1, 2, 3, 0] rfl)
              · rcases Nat.lt_or_ge i_ T.length with q_ | q_
                · rw [hc1 (cn + i_) (by omega), congrFun (show zA (zsI (zsA (zsA (zsA S_ (ad 12) cod) (ad 15) f10) (ad 16) f11) 305 (ad 10) (nI (cn + T.length))) (ad 12) = cod from (zA_I.trans ((zA_ne _ _ (sh_ne hSh (r := 12) (r2 := 16) (by decide +kernel) (by decide +kernel) (by decide))).trans ((zA_ne _ _ (sh_ne hSh (r := 12) (r2 := 15) (by decide +kernel) (by decide +kernel) (by decide))).trans (zA_zsA _ _ _))))) (cn + i_), hk2 i_ q_, List.getD_eq_getElem?_getD, List.getD_eq_getElem?_getD, List.getElem?_append_left q_]
                · rw [List.length_append] at hi_
                  have := hc2 (i_ - T.length) (by omega)
                  rw [show cn + T.length + (i_ - T.length) = cn + i_ by omega] at this
                  rw [this, List.getD_eq_getElem?_getD, List.getD_eq_getElem?_getD, List.getElem?_append_right q_]
              · rw [hl2 k_ (by rw [List.length_append]; omega), congrFun (show zA (zsI (zsA (zsA (zsA S_ (ad 12) cod) (ad 15) f10) (ad 16) f11) 305 (ad 10) (nI (cn + T.length))) (ad 16) = f11 from (zA_I.trans (zA_zsA _ _ _))) k_, hf11, upd_no _ _ (by omega)]; exact hla k_ hk
    exact JA (n_ + 1) 0 0 nI_0.symm (Nat.zero_le _) (by omega) (zA S_ (ad 12)) (zA S_ (ad 16)) [] rfl (fun k_ hk => rfl) (fun i_ hi_ => absurd hi_ (Nat.not_lt_zero i_)) hA2 _ _ (by rw [zsA_self, zsA_self, zsA_self, show cn + ([] : List (List Nat)).length = cn from rfl, zsI_self hcc]; exact hw) ls (lv_sub hl [1, 2, 3, 0] rfl)
