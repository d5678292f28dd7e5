/-! by hand: the marks wiped out -/
theorem gf_RX12_93_12 : RGet RX12 93 12 37 := rg_F (ref := "FoldedInHalfModel") uX12 rfl (by decide) (by decide) (tb_5 212 rfl rfl) (.inl rfl)
theorem gf_RX12_96_12 : RGet RX12 96 12 38 := rg_F (ref := "FoldedInHalfModel") uX12 rfl (by decide) (by decide) (tb_5 213 rfl rfl) (.inl rfl)
theorem pf_RX12_276_12 : RPut RX12 276 12 39 false false := rp_I (ref := "FoldedInHalfModel") uX12 tyX12_ok nmX12 rfl (by decide) (by decide) rfl (tb_5 214 rfl rfl) (.inl rfl) rfl okI_int
theorem ki_RX12_279 : RCst RX12 (.ldc 279) 2 (fun _ => .int (Int32.ofInt (.ofNat 40503))) ∧ RCst RX12 (.ldc_w 279) 3 (fun _ => .int (Int32.ofInt (.ofNat 40503))) := rk_I rfl (tb_7 79 rfl rfl)
section FLDT
variable {ad : Nat → Nat} {S : zS} {ρ : Nat → Nat}
theorem ty_fld (h : Typed zT ad S ρ) {r f r2 : Nat} {ri : RI} (hr : r < tU zT) (hri : (tRT zT)[r]? = some ri) (hk : ri.1 < 13) (hf : ri.2.2.1[f]? = some (.inr (.inl (false, [r2])))) (hr2 : r2 < tU zT) : zQ S (z_bs ri.1 + f) (ad r) = some (ad r2) := by
  obtain ⟨g1, g2⟩ := h.2.1 r hr
  obtain ⟨ri', k1, k2⟩ := h.1 _ g1
  rw [g2, hri] at k1
  cases k1
  have k3 := k2.2.2.1 hk f _ hf
  unfold FldOK at k3
  dsimp only at k3
  cases hq : zQ S (z_bs ri.1 + f) (ad r) with
  | none => rw [hq] at k3; cases k3
  | some a =>
    rw [hq] at k3
    have k4 : ρ a = r2 := List.mem_singleton.mp k3.2
    have := h.2.2 a k3.1 (by rw [k4]; exact hr2)
    rw [k4] at this
    rw [this]
theorem ty_cel (h : Typed zT ad S ρ) {r : Nat} {ri : RI} (hr : r < tU zT) (hri : (tRT zT)[r]? = some ri) : ad r ∈ zL S ∧ ρ (ad r) = r ∧ CelOK S ρ ri (ad r) := by
  obtain ⟨g1, g2⟩ := h.2.1 r hr
  obtain ⟨ri', k1, k2⟩ := h.1 _ g1
  rw [g2, hri] at k1
  cases k1
  exact ⟨g1, g2, k2⟩
theorem ad_inj (h : Typed zT ad S ρ) {r r2 : Nat} (hr : r < tU zT) (hr2 : r2 < tU zT) (hn : r ≠ r2) : ad r ≠ ad r2 := fun e => by
  have a := (h.2.1 r hr).2
  have b := (h.2.1 r2 hr2).2
  rw [e, b] at a
  exact hn a.symm
end FLDT
theorem zcm_z {f : Nat → Int} : ∀ {n : Nat}, (∀ i, i < n → f i = 0) → zcm f n = 0
  | 0, _ => rfl
  | n + 1, h => by
    show zcm f n + (if f n = 0 then 0 else 1) = 0
    rw [zcm_z (fun i hi => h i (by omega)), if_pos (h n (by omega))]
theorem ty_pI {ad : Nat → Nat} {S : zS} {ρ : Nat → Nat} (h : Typed zT ad S ρ) {r f a k : Nat} {x : Int32} {iv : Itv} {ri : RI} (hra : ρ a = r) (hri : (tRT zT)[r]? = some ri) (hk : ri.1 = k) (hf : ri.2.2.1[f]? = some (.inl iv)) (hx : iv.1 ≤ x.toInt ∧ x.toInt ≤ iv.2) : Typed zT ad (zsI S (z_bs k + f) a x) ρ := h.putI (fun ri' g1 _ i t ht hj => by
  rw [hra, hri] at g1
  cases g1
  rw [hk] at hj
  have hi : i = f := by omega
  subst hi
  rw [hf] at ht
  cases ht
  exact ⟨_, rfl, hx⟩)
section CLR
variable {ad xs : Nat → Nat} {cD : va_G} {cy : Nat → ClassId} {A : Nat → Prop} {gh : zS → Int → Int} {XI : zS → Prop} {S0 : zS} {ρ : Nat → Nat}
variable {p : Program} {l : Launch} {e : Env} {R : Room} {s : State} {m : MethodId} {args : Array Value} {below : List Frame} {meth : Method} {c : Code} {Q : State → Prop} {Ts : List Cond} {cells slots : Nat}
theorem clr_loop (hM : MX xs cD cy A p s m args c cX12_clears 2 Ts RX12) (hT : TOK zT ad gh XI)
    (fin : ∀ (S : zS) (H : Heap) (locs : List Loc) (ls : Array Slot), Typed zT ad S ρ → zL S = zL S0 → (∀ reg, reg < (tRG zT).length → reg ≠ 21 → ∀ i, RGv zT ad S reg i = RGv zT ad S0 reg i) → (∀ j, j < 16384 → zA S (ad 44) j = 0) → zPw cD cy A s.heap S H locs → lv_has ls 2 [(1, .int (Int32.ofInt 16384)), (0, .ref (ad 17))] → W p l e R s m args below meth c H locs cells slots Q (F0 m 29 ls [])) :
    ∀ (n i : Nat), i + n = 16384 → ∀ (S : zS) (H : Heap) (locs : List Loc) (ls : Array Slot), Typed zT ad S ρ → zL S = zL S0 → (∀ reg, reg < (tRG zT).length → reg ≠ 21 → ∀ i, RGv zT ad S reg i = RGv zT ad S0 reg i) → (∀ j, j < i → zA S (ad 44) j = 0) → zPw cD cy A s.heap S H locs → lv_has ls 2 [(1, .int (Int32.ofInt i)), (0, .ref (ad 17))] → W p l e R s m args below meth c H locs cells slots Q (F0 m 2 ls []) := by
  intro n
  induction n with
  | zero => ?_
  | succ n ih => ?_
  all_goals
    intro i hi S H locs ls hTy hL hF hz hw hl
    have hx := hM.1.1
    have hb := hM.1.2.1
    have vi : (Int32.ofInt (i : Int)).toInt = (i : Int) := i32_of (by rw [k32l_eq, k32h_eq]; omega)
    have v16 : (16384 : Int32).toInt = 16384 := by decide
    refine lv_iload_n (k := 1) (i := 1) hx hb (by decide +kernel) rfl (lv_at hl 0 rfl) ?_
    refine lv_sipush (n := 16384) (v := 16384) hx hb (by decide +kernel) (by decide) ?_
  · refine lv_icmp_ge (off := 23) (tgt := 29) hx hb (by decide +kernel) (by decide) (fun _ => ?_) (fun q => absurd ?_ q)
    · have e0 : i = 16384 := by omega
      subst e0
      exact fin S H locs ls hTy hL hF hz hw hl
    · rw [Int32.le_iff_toInt_le, vi, v16]; omega
  · refine lv_icmp_ge (off := 23) (tgt := 29) hx hb (by decide +kernel) (by decide) (fun q => ?_) (fun _ => ?_)
    · rw [Int32.le_iff_toInt_le, vi, v16] at q; omega
    have c17 := ty_cel hTy (r := 17) (by decide +kernel) rfl
    have cm := ty_cel hTy (r := 44) (by decide +kernel) rfl
    have co := ty_cel hTy (r := 45) (by decide +kernel) rfl
    have hne : ad 45 ≠ ad 44 := ad_inj hTy (by decide +kernel) (by decide +kernel) (by decide)
    have vin : vp_in (Int32.ofInt (i : Int)) 16384 ∧ (Int32.ofInt (i : Int)).toNatClampNeg = i := ⟨vp_in_iff.mpr ⟨by omega, by omega⟩, by show (Int32.ofInt (i : Int)).toInt.toNat = i; rw [vi]; omega⟩
    refine lv_aload_n (k := 0) (i := 0) hx hb (by decide +kernel) rfl (lv_at hl 1 rfl) ?_
    refine gf_RX12_93_12 p l e R s m args below meth c H locs cells slots Q xs cD cy A cX12_clears 2 Ts S (ad 17) 10 ls [] 2 hM hw c17.1 c17.2.2.1 (by decide +kernel) rfl ?_
    have e1 : z_v S (ad 17) 2 (z_bs 12 + 37) = .ref (ad 44) := by
      show va_rf (zQ S (z_bs 12 + 37) (ad 17)) = _
      rw [ty_fld hTy (r := 17) (f := 37) (r2 := 44) (by decide +kernel) rfl (by decide) rfl (by decide +kernel)]; rfl
    rw [e1]
    refine lv_iload_n (k := 1) (i := 1) hx hb (by decide +kernel) rfl (lv_at hl 0 rfl) ?_
    refine lv_iconst (n := 0) (v := 0) hx hb (by decide +kernel) (by decide) ?_
    refine z_iast hM.1 hM.2.2.1 hw cm.1 cm.2.2.1 (cm.2.2.2.1 (by decide)) vin.1 (by decide +kernel) (fun H1 locs1 hw1 => ?_)
    rw [vin.2] at hw1
    have t1 : Typed zT ad (zsA S (ad 44) (upd (zA S (ad 44)) i 0)) ρ := hTy.putA (n := i) (x := 0) (fun j hj => by simp [upd, hj]) (by simp [upd]) (fun ri hri hk q hq => by
      rw [cm.2.1] at hri
      have hri : some ((13, 16384, [], [], (false, [])) : RI) = some ri := hri
      cases hri; cases hq)
    have f1 := fr_A (ad := ad) (gh := gh) (XI := XI) (rs := [44]) (f := upd (zA S (ad 44)) i 0) hT hTy (a := ad 44) (by rw [cm.2.1]; exact List.mem_cons_self)
    rw [show tch zT [44] true 0 = [21] by decide +kernel] at f1
    have co1 := ty_cel t1 (r := 45) (by decide +kernel) rfl
    have c171 := ty_cel t1 (r := 17) (by decide +kernel) rfl
    refine lv_aload_n (k := 0) (i := 0) hx hb (by decide +kernel) rfl (lv_at hl 1 rfl) ?_
    refine gf_RX12_96_12 p l e R s m args below meth c _ _ _ _ Q xs cD cy A cX12_clears 2 Ts _ (ad 17) 17 ls [] 2 hM hw1 c171.1 c171.2.2.1 (by decide +kernel) rfl ?_
    have e2 : z_v (zsA S (ad 44) (upd (zA S (ad 44)) i 0)) (ad 17) 2 (z_bs 12 + 38) = .ref (ad 45) := by
      show va_rf (zQ _ (z_bs 12 + 38) (ad 17)) = _
      rw [ty_fld t1 (r := 17) (f := 38) (r2 := 45) (by decide +kernel) rfl (by decide) rfl (by decide +kernel)]; rfl
    rw [e2]
    refine lv_iload_n (k := 1) (i := 1) hx hb (by decide +kernel) rfl (lv_at hl 0 rfl) ?_
    refine lv_iconst (n := 0) (v := 0) hx hb (by decide +kernel) (by decide) ?_
    refine z_iast hM.1 hM.2.2.1 hw1 co1.1 co1.2.2.1 (co1.2.2.2.1 (by decide)) vin.1 (by decide +kernel) (fun H2 locs2 hw2 => ?_)
    rw [vin.2] at hw2
    have t2 := t1.putA (a := ad 45) (n := i) (x := 0) (f := upd (zA (zsA S (ad 44) (upd (zA S (ad 44)) i 0)) (ad 45)) i 0) (fun j hj => by simp [upd, hj]) (by simp [upd]) (fun ri hri hk q hq => by
      rw [co1.2.1] at hri
      have hri : some ((13, 16384, [], [], (false, [])) : RI) = some ri := hri
      cases hri; cases hq)
    have f2 := fr_A (ad := ad) (gh := gh) (XI := XI) (rs := [45]) (f := upd (zA (zsA S (ad 44) (upd (zA S (ad 44)) i 0)) (ad 45)) i 0) hT t1 (a := ad 45) (by rw [co1.2.1]; exact List.mem_cons_self)
    rw [show tch zT [45] true 0 = [] by decide +kernel] at f2
    refine lv_iinc (n := 1) (k := 0) (v := Int32.ofInt ((i + 1 : Nat) : Int)) (lv' := [(1, .int (Int32.ofInt ((i + 1 : Nat) : Int))), (0, .ref (ad 17))]) hx hb (by decide +kernel) hl rfl ?_ (by decide) rfl (fun ls hl => ?_)
    · have := Int32.ofInt_add (i : Int) 1
      exact this.symm
    refine lv_goto (off := -24) (tgt := 2) hx hb (by decide +kernel) (by decide) ?_
    refine ih (i + 1) (by omega) _ H2 locs2 ls t2 hL (fun reg hr hg k => ?_) (fun j hj => ?_) hw2 hl
    · rw [f2.2 reg hr List.not_mem_nil k, f1.2 reg hr (by simpa using hg) k]
      exact hF reg hr hg k
    · show va_up (va_up (zA S) (ad 44) (upd (zA S (ad 44)) i 0)) (ad 45) _ (ad 44) j = 0
      rw [va_up_ne _ _ hne.symm]
      have e3 : va_up (zA S) (ad 44) (upd (zA S (ad 44)) i 0) (ad 44) = upd (zA S (ad 44)) i 0 := by simp [va_up]
      rw [e3]
      by_cases q : j = i
      · simp [upd, q]
      · have := hz j (by omega)
        simp [upd, q, this]
end CLR
theorem cn_X12_clears_0 {ad xs : Nat → Nat} {cD : va_G} {cy : Nat → ClassId} {l : Launch} {neg0 : Int → Int} (hb0 : bndN neg0) : Con zT ad (ghN (zC ad) neg0) (zXI ad) xs cD cy l yX12_clears cX12_clears 2 (none) 0 0 sg_X12_clears_0 [] := by
  intro g τ S ρ sz hpre
  obtain ⟨p1, p2, p3, p4, p5, p6, p7⟩ := hpre
  have hT := zT_ok (ad := ad) hb0
  have q0 := p2 0 _ rfl
  cases ht0 : τ 0 with
  | none => rw [ht0] at q0; cases q0
  | some a =>
  rw [ht0] at q0
  obtain ⟨ha, hra⟩ := q0
  have hra : ρ a = 17 := List.mem_singleton.mp hra
  have haa : a = ad 17 := by
    have := p6.1.2.2 a ha (by rw [hra]; decide +kernel)
    rw [hra] at this; exact this
  have eav : γK g τ xs (sA sg_X12_clears_0) = [.ref (ad 17)] := by
    show [va_rf (τ 0)] = _
    rw [ht0, haa]; rfl
  rw [eav]
  refine z_ofW (QQ := QX cD cy (PostOK zT ad (ghN (zC ad) neg0) (zXI ad) xs sg_X12_clears_0 g τ S ρ)) (own := RX12) (by decide +kernel) rfl rfl (Nat.le_of_ble_eq_true rfl) ?_
  intro p e s m args below meth c A ls hcf hr hlk hnm hK hE hZ hw hA hl
  have hM : MX xs cD cy A p s m args c cX12_clears 2 (Cond.code yX12_clears cX12_clears 2 none :: TB) RX12 := ⟨hcf, fun w hw => List.mem_cons_of_mem _ hw, hK, hE, hZ, hA⟩
  have hx := hcf.1
  have hb := hcf.2.1
  have hl : lv_has ls 2 [(0, .ref (ad 17))] := hl
  refine lv_iconst (n := 0) (v := 0) hx hb (by decide +kernel) (by decide) ?_
  refine lv_istore_n (k := 1) (i := 1) (lv' := [(1, .int 0), (0, .ref (ad 17))]) hx hb (by decide +kernel) rfl hl (by decide) rfl (fun ls hl => ?_)
  refine clr_loop (S0 := S) (ρ := ρ) hM hT ?_ 16384 0 rfl S s.heap [] ls p6.1 rfl (fun _ _ _ _ => rfl) (fun j hj => by omega) hw hl
  intro S' H locs ls hTy hL hF hz hw hl
  have c17 := ty_cel hTy (r := 17) (by decide +kernel) rfl
  refine lv_aload_n (k := 0) (i := 0) hx hb (by decide +kernel) rfl (lv_at hl 1 rfl) ?_
  refine lv_iconst (n := 0) (v := 0) hx hb (by decide +kernel) (by decide) ?_
  have P1 : RPutI RX12 276 12 39 false false := pf_RX12_276_12
  refine P1 p l e _ s m args below meth c H locs _ _ _ xs cD cy A cX12_clears 2 _ S' (ad 17) 31 ls [] 0 hM (fun q => absurd q (by decide)) (fun q => absurd q (by decide)) hw c17.1 c17.2.2.1 (by decide +kernel) (fun H1 locs1 hw1 => ?_)
  have t1 : Typed zT ad (zsI S' (z_bs 12 + 39) (ad 17) 0) ρ := ty_pI (r := 17) (f := 39) (k := 12) hTy c17.2.1 rfl rfl rfl ⟨by decide, by decide⟩
  have f1 := fr_I (ad := ad) (gh := ghN (zC ad) neg0) (XI := zXI ad) (x := (0 : Int32)) (j := z_bs 12 + 39) (a := ad 17) (rs := [17]) hT hTy (by rw [c17.2.1]; exact List.mem_cons_self)
  rw [show tch zT [17] false (z_bs 12 + 39) = [11] by decide +kernel] at f1
  have fF : Fr zT ad [11, 21] S ρ (zsI S' (z_bs 12 + 39) (ad 17) 0) ρ := by
    refine ⟨fun b hb => ⟨by show b ∈ zL S'; rw [hL]; exact hb, rfl⟩, fun reg hrg hn i => ?_⟩
    rw [f1.2 reg hrg (fun q => hn (by rw [List.mem_singleton.mp q]; exact List.mem_cons_self)) i]
    exact hF reg hrg (fun q => hn (by rw [q]; simp)) i
  have e11 : RGv zT ad (zsI S' (z_bs 12 + 39) (ad 17) 0) 11 0 = 0 := by
    show ((zu2 (zI S') (z_bs 12 + 39) (ad 17) 0) (z_bs 12 + 39) (ad 17)).toInt = 0
    rw [zu2_self]; rfl
  have x1 : zXI ad (zsI S' (z_bs 12 + 39) (ad 17) 0) := by
    refine ⟨?_, XI2_fr fF (by decide) p6.2.2⟩
    unfold XI1
    rw [e11, zcm_z (fun i hi => ?_)]
    · exact Int.le_refl 0
    · show (zA S' (ad 44) (Int.toNat (i : Int))).toInt = 0
      rw [Int.toNat_natCast, hz i hi]; rfl
  refine W.vret hx hb hr (fun t ht hW => ⟨⟨none, _, ρ, rfl, ⟨⟨t1, x1⟩, ?_, fF, ([], [], [], [], [(14, [], (.ofNat 0, []))]), List.mem_cons_self, g, τ, fun _ _ => rfl, fun _ _ => rfl, fun j hj => by simp at hj, fun j q hq => by simp at hq, rfl, fun f hf => by simp at hf, fun mm hm => ?_⟩, by rw [ht]; exact hw1.1, hw1.2.1⟩, hw1.2.2.F ht⟩) hw1.2.2.2.2 (by decide +kernel) hlk
  · exact p7.fr hT fF (fun gi G hG c hc => by
      have : zCG.all (fun G => G.1.all (fun c => !(nin c.1 [11, 21]))) = true := by decide +kernel
      have h2 := List.all_eq_true.mp (List.all_eq_true.mp this G (List.mem_of_getElem? hG)) c hc
      intro q
      rw [nin_iff.mpr q] at h2
      exact absurd h2 (by decide))
  · cases List.mem_singleton.mp hm
    exact ⟨e11, fun reg hrg => by cases List.mem_singleton.mp hrg; decide +kernel⟩
