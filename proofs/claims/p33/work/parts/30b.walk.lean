/-! by hand: the constructor of Walk -/
theorem pf_RX10_23_10 : RPut RX10 23 10 0 false true := rp_QF (ref := "FoldedInHalf$Walk") uX10 tyX10_ok nmX10 rfl (by decide) (by decide) rfl (tb_4 18 rfl rfl) (.inl rfl) rfl rfl okQ_obj
theorem pf_RX10_27_10 : RPut RX10 27 10 1 false true := rp_JF (ref := "FoldedInHalf$Walk") uX10 tyX10_ok nmX10 rfl (by decide) (by decide) rfl (tb_4 19 rfl rfl) (.inl rfl) rfl rfl rfl
theorem ob_RX10_1 : RObj RX10 1 := ⟨(tb_4 17 rfl rfl), (tb_1 29 rfl rfl), (tb_1 30 rfl rfl)⟩
def norole (T : Tt) (r : Nat) : Bool := (tRT T).all (fun ri => ri.2.2.1.all (fun t => match t with
  | .inr (.inl nr) => !nin r nr.2
  | _ => true) && !nin r ri.2.2.2.2.2)
theorem ref_role {S : zS} {ρ : Nat → Nat} {a r r' : Nat} {n : Bool} {rs : List Nat} {q : Option Nat} (hr : ρ a = r) (hn : nin r rs = false) (h : RefOK S ρ n rs q) : RefOK S (va_up ρ a r') n rs q := by
  cases q with
  | none => exact h
  | some t =>
    have hne : t ≠ a := fun e => by
      have := nin_iff.mpr h.2
      rw [e, hr, hn] at this; cases this
    exact ⟨h.1, by rw [va_up_ne _ _ hne]; exact h.2⟩
theorem cel_role {T : Tt} {S : zS} {ρ : Nat → Nat} {a b r r' : Nat} {ri : RI} (hn : norole T r = true) (hri : ri ∈ tRT T) (hr : ρ a = r) (h : CelOK S ρ ri b) : CelOK S (va_up ρ a r') ri b := by
  have h1 := List.all_eq_true.mp hn ri hri
  rw [Bool.and_eq_true] at h1
  obtain ⟨c1, c2, c3, c4, c5⟩ := h
  refine ⟨c1, c2, fun hk i t ht => ?_, c4, fun hk i hi => ref_role hr (by have := h1.2; simpa using this) (c5 hk i hi)⟩
  have h2 := List.all_eq_true.mp h1.1 t (List.mem_of_getElem? ht)
  have h3 := c3 hk i t ht
  unfold FldOK at h3 ⊢
  match t, h2, h3 with
  | .inl iv, _, h3 => exact h3
  | .inr (.inl nr), h2, h3 => exact ref_role hr (by simpa using h2) h3
  | .inr (.inr _), _, _ => trivial
theorem ty_role {T : Tt} {ad : Nat → Nat} {S : zS} {ρ : Nat → Nat} {a r r' : Nat} {ri' : RI} (h : Typed T ad S ρ) (hr : ρ a = r) (hu : tU T ≤ r) (hu' : tU T ≤ r') (hn : norole T r = true) (hri : (tRT T)[r']? = some ri') (hc : CelOK S ρ ri' a) (ha : a ∈ zL S) : Typed T ad S (va_up ρ a r') := by
  obtain ⟨h1, h2, h3⟩ := h
  have hs : va_up ρ a r' a = r' := by simp [va_up]
  refine ⟨fun b hb => ?_, fun k hk => ?_, fun b hb hk => ?_⟩
  · by_cases e : b = a
    · rw [e, hs]
      exact ⟨ri', hri, cel_role hn (List.mem_of_getElem? hri) hr hc⟩
    · rw [va_up_ne _ _ e]
      obtain ⟨ri, g1, g2⟩ := h1 b hb
      exact ⟨ri, g1, cel_role hn (List.mem_of_getElem? g1) hr g2⟩
  · obtain ⟨g1, g2⟩ := h2 k hk
    refine ⟨g1, ?_⟩
    rw [va_up_ne _ _ (fun e => by rw [e, hr] at g2; omega)]
    exact g2
  · by_cases e : b = a
    · rw [e, hs] at hk; omega
    · rw [va_up_ne _ _ e] at hk ⊢
      exact h3 b hb hk
theorem cn_X10_init_0 {ad xs : Nat → Nat} {cD : va_G} {cy : Nat → ClassId} {l : Launch} {neg0 : Int → Int} (hb0 : bndN neg0) : Con zT ad (ghN (zC ad) neg0) (zXI ad) xs cD cy l yX10_init cX10_init 4 (none) 1 40 sg_X10_init_0 [] := by
  intro g τ S ρ sz hpre
  obtain ⟨p1, p2, p3, p4, p5, p6, p7⟩ := hpre
  have hT := zT_ok (ad := ad) hb0
  have q0 := p2 0 _ rfl
  have q1 := p2 1 _ rfl
  cases ht0 : τ 0 with
  | none => rw [ht0] at q0; cases q0
  | some a =>
  cases ht1 : τ 1 with
  | none => rw [ht1] at q1; cases q1
  | some b =>
  rw [ht0] at q0
  rw [ht1] at q1
  obtain ⟨ha, hra⟩ := q0
  obtain ⟨hbm, hrb⟩ := q1
  have hra : ρ a = 66 := List.mem_singleton.mp hra
  have hka : zK S a = 10 := by
    obtain ⟨ri, g1, g2⟩ := p6.1.1 a ha
    rw [hra] at g1
    have g1 : some ((10, 0, [.inr (.inl (true, [58, 59, 60, 61, 62, 63, 64])), .inr (.inr ()), .inr (.inr ()), .inr (.inr ()), .inr (.inr ()), .inl (.negSucc 2147483647, .ofNat 2147483647)], [], (false, [])) : RI) = some ri := g1
    cases g1
    exact g2.1
  have eav : γK g τ xs (sA sg_X10_init_0) = [.ref a, .ref b, .long (Int64.ofInt (g 0))] := by
    show [va_rf (τ 0), va_rf (τ 1), Value.long (Int64.ofInt (ev g (0, [(0, 1)])))] = _
    rw [ht0, ht1, show ev g (0, [(0, 1)]) = g 0 from ev_lsy (s := 0)]; rfl
  rw [eav]
  refine z_ofW (QQ := QX cD cy (PostOK zT ad (ghN (zC ad) neg0) (zXI ad) xs sg_X10_init_0 g τ S ρ)) (own := RX10) (by decide +kernel) rfl rfl (Nat.le_of_ble_eq_true rfl) ?_
  intro p e s m args below meth c A ls hcf hr hlk hnm hK hE hZ hw hA hl
  have hM : MX xs cD cy A p s m args c cX10_init 4 (Cond.code yX10_init cX10_init 4 none :: TB) RX10 := ⟨hcf, fun w hw => List.mem_cons_of_mem _ hw, hK, hE, hZ, hA⟩
  have hx := hcf.1
  have hb := hcf.2.1
  have hl : lv_has ls 4 [(0, .ref a), (1, .ref b), (2, .long (Int64.ofInt (g 0)))] := hl
  obtain ⟨o1, o2, o3⟩ := ob_RX10_1
  have hts : ∀ w ∈ TB, w.before args s = true := fun w hw => hcf.2.2.2.2 _ (List.mem_cons_of_mem _ hw)
  refine lv_aload_n (k := 0) (i := 0) hx hb (by decide +kernel) rfl (lv_at hl 0 rfl) ?_
  refine W.objInit (a := a) (rest := []) hx hb hcf.2.2.2.1 (hts _ o1) (hts _ o2) (hts _ o3) rfl (by show ls.size = _; rw [hcf.2.2.1]; exact hl.1) rfl (show decode cX10_init 1 = .ok (.invokespecial 1, 3) by decide +kernel) (Nat.le_refl _) (by show 2 * 0 + 0 + 12 ≤ 40; omega) ?_
  show W p l e _ s m args below meth c _ _ _ _ _ (F0 m 4 ls [])
  have P1 : RPutJ RX10 7 10 2 false := pf_RX10_7_10
  have P2 : RPutJ RX10 13 10 3 false := pf_RX10_13_10
  have P3 : RPutJ RX10 16 10 4 false := pf_RX10_16_10
  have P4 : RPutI RX10 19 10 5 false false := pf_RX10_19_10
  have P5 : RPutQ RX10 23 10 0 true := pf_RX10_23_10
  have P6 : RPutJ RX10 27 10 1 true := pf_RX10_27_10
  have hnm2 : true = true → meth.name = "<init>" := fun _ => hnm
  refine lv_aload_n (k := 0) (i := 0) hx hb (by decide +kernel) rfl (lv_at hl 0 rfl) ?_
  refine lv_lconst (n := 0) (v := 0) hx hb (by decide +kernel) (by decide) ?_
  refine P1 p l e _ s m args below meth c _ _ _ _ _ xs cD cy A cX10_init 4 _ S a 6 ls [] 0 hM (fun h => by cases h) hw ha hka (by decide +kernel) (fun H1 locs1 hw1 => ?_)
  refine lv_aload_n (k := 0) (i := 0) hx hb (by decide +kernel) rfl (lv_at hl 0 rfl) ?_
  refine lv_lconst (n := 0) (v := 0) hx hb (by decide +kernel) (by decide) ?_
  refine P2 p l e _ s m args below meth c _ _ _ _ _ xs cD cy A cX10_init 4 _ _ a 11 ls [] 0 hM (fun h => by cases h) hw1 ha hka (by decide +kernel) (fun H2 locs2 hw2 => ?_)
  refine lv_aload_n (k := 0) (i := 0) hx hb (by decide +kernel) rfl (lv_at hl 0 rfl) ?_
  refine lv_lconst (n := 0) (v := 0) hx hb (by decide +kernel) (by decide) ?_
  refine P3 p l e _ s m args below meth c _ _ _ _ _ xs cD cy A cX10_init 4 _ _ a 16 ls [] 0 hM (fun h => by cases h) hw2 ha hka (by decide +kernel) (fun H3 locs3 hw3 => ?_)
  refine lv_aload_n (k := 0) (i := 0) hx hb (by decide +kernel) rfl (lv_at hl 0 rfl) ?_
  refine lv_iconst (n := 0) (v := 0) hx hb (by decide +kernel) (by decide) ?_
  refine P4 p l e _ s m args below meth c _ _ _ _ _ xs cD cy A cX10_init 4 _ _ a 21 ls [] 0 hM (fun h => by cases h) (fun h => by cases h) hw3 ha hka (by decide +kernel) (fun H4 locs4 hw4 => ?_)
  refine lv_aload_n (k := 0) (i := 0) hx hb (by decide +kernel) rfl (lv_at hl 0 rfl) ?_
  refine lv_aload_n (k := 1) (i := 1) hx hb (by decide +kernel) rfl (lv_at hl 1 rfl) ?_
  refine P5 p l e _ s m args below meth c _ _ _ _ _ xs cD cy A cX10_init 4 _ _ a 26 ls [] (some b) hM hnm2 hw4 ha hka (by decide +kernel) (fun H5 locs5 hw5 => ?_)
  refine lv_aload_n (k := 0) (i := 0) hx hb (by decide +kernel) rfl (lv_at hl 0 rfl) ?_
  refine lv_lload_n (k := 2) (i := 2) hx hb (by decide +kernel) rfl (lv_at hl 2 rfl) ?_
  refine P6 p l e _ s m args below meth c _ _ _ _ _ xs cD cy A cX10_init 4 _ _ a 31 ls [] (Int64.ofInt (g 0)) hM hnm2 hw5 ha hka (by decide +kernel) (fun H6 locs6 hw6 => ?_)
  have t3 := ((p6.1.putJ (a := a) (j := z_bs 10 + 2) (x := 0)).putJ (a := a) (j := z_bs 10 + 3) (x := 0)).putJ (a := a) (j := z_bs 10 + 4) (x := 0)
  have t4 := t3.putI (a := a) (j := z_bs 10 + 5) (x := 0) (fun ri g1 hk i t ht hj => by
    rw [hra] at g1
    have g1 : some ((10, 0, [.inr (.inl (true, [58, 59, 60, 61, 62, 63, 64])), .inr (.inr ()), .inr (.inr ()), .inr (.inr ()), .inr (.inr ()), .inl (.negSucc 2147483647, .ofNat 2147483647)], [], (false, [])) : RI) = some ri := g1
    cases g1
    have hi : i = 5 := by
      have : z_bs 10 + i = z_bs 10 + 5 := hj
      omega
    subst hi
    cases ht
    exact ⟨_, rfl, by decide, by decide⟩)
  have t5 := t4.putQ (a := a) (j := z_bs 10 + 0) (x := some b) (fun ri g1 hk i t ht hj => by
    rw [hra] at g1
    have g1 : some ((10, 0, [.inr (.inl (true, [58, 59, 60, 61, 62, 63, 64])), .inr (.inr ()), .inr (.inr ()), .inr (.inr ()), .inr (.inr ()), .inl (.negSucc 2147483647, .ofNat 2147483647)], [], (false, [])) : RI) = some ri := g1
    cases g1
    have hi : i = 0 := by
      have : z_bs 10 + i = z_bs 10 + 0 := hj
      omega
    subst hi
    cases ht
    exact ⟨_, rfl, hbm, hrb⟩)
  have t6 := t5.putJ (a := a) (j := z_bs 10 + 1) (x := Int64.ofInt (g 0))
  have f4 := fr_I (ad := ad) (gh := ghN (zC ad) neg0) (XI := zXI ad) (x := (0 : Int32)) (j := z_bs 10 + 5) (a := a) (rs := [66]) hT t3 (by rw [hra]; exact List.mem_cons_self)
  have f5 := fr_Q (ad := ad) (gh := ghN (zC ad) neg0) (XI := zXI ad) (x := some b) (j := z_bs 10 + 0) (a := a) (rs := [66]) hT t4 (by rw [hra]; exact List.mem_cons_self)
  have e4 : tch zT [66] false (z_bs 10 + 5) = [] := by decide +kernel
  have e5 : tch zT [66] true (z_bs 10 + 0 + 2) = [] := by decide +kernel
  rw [e4] at f4
  rw [e5] at f5
  have f6 : Fr zT ad ([] ++ ([] ++ ([] ++ ([] ++ ([] ++ []))))) S ρ _ ρ := (fr_J (T := zT) (ad := ad) (S := S) (ρ := ρ) (a := a) (j := z_bs 10 + 2) (x := 0)).trans ((fr_J (a := a) (j := z_bs 10 + 3) (x := 0)).trans ((fr_J (a := a) (j := z_bs 10 + 4) (x := 0)).trans (f4.trans (f5.trans (fr_J (a := a) (j := z_bs 10 + 1) (x := Int64.ofInt (g 0)))))))
  have hreg : ∀ reg, reg < (tRG zT).length → ∀ i, RGv zT ad _ reg i = RGv zT ad S reg i := fun reg hr i => f6.2 reg hr (by simp) i
  have hri65 : (tRT zT)[65]? = some ((10, 0, [.inr (.inl (false, [58, 59, 60, 61, 62, 63, 64])), .inr (.inr ()), .inr (.inr ()), .inr (.inr ()), .inr (.inr ()), .inl (.negSucc 2147483647, .ofNat 2147483647)], [], (false, [])) : RI) := rfl
  have hfl : ∀ (i : Nat) (t : FTy), ((10, 0, [.inr (.inl (false, [58, 59, 60, 61, 62, 63, 64])), .inr (.inr ()), .inr (.inr ()), .inr (.inr ()), .inr (.inr ()), .inl (.negSucc 2147483647, .ofNat 2147483647)], [], (false, [])) : RI).2.2.1[i]? = some t → FldOK (zsJ (zsQ (zsI (zsJ (zsJ (zsJ S (z_bs 10 + 2) a 0) (z_bs 10 + 3) a 0) (z_bs 10 + 4) a 0) (z_bs 10 + 5) a 0) (z_bs 10 + 0) a (some b)) (z_bs 10 + 1) a (Int64.ofInt (g 0))) ρ t (z_bs 10 + i) a := fun i t ht => by
      obtain ⟨ri, g1, g2⟩ := t6.1 a ha
      rw [hra] at g1
      have g1 : some ((10, 0, [.inr (.inl (true, [58, 59, 60, 61, 62, 63, 64])), .inr (.inr ()), .inr (.inr ()), .inr (.inr ()), .inr (.inr ()), .inl (.negSucc 2147483647, .ofNat 2147483647)], [], (false, [])) : RI) = some ri := g1
      cases g1
      have g3 := g2.2.2.1 (by decide)
      match i, ht with
      | 0, ht =>
        cases ht
        show RefOK _ ρ false _ (zu2 _ (z_bs 10 + 0) a (some b) (z_bs 10 + 0) a)
        rw [zu2_self]
        exact ⟨hbm, hrb⟩
      | 1, ht => cases ht; trivial
      | 2, ht => cases ht; trivial
      | 3, ht => cases ht; trivial
      | 4, ht => cases ht; trivial
      | 5, ht => exact g3 5 t ht
      | i + 6, ht => cases ht
  have tw := ty_role (r' := 65) t6 hra (by decide +kernel) (by decide +kernel) (by decide +kernel) hri65 ⟨hka, fun h => absurd h (by decide), fun _ i t ht => hfl i t ht, fun h => absurd h (by decide), fun h => absurd h (by decide)⟩ ha
  refine W.vret hx hb hr (fun t ht hW => ⟨⟨none, _, va_up ρ a 65, rfl, ⟨⟨tw, hT.2.2.2.2.1 _ _ (fun reg hrg i => hreg reg (hT.2.2.1 reg hrg) i) p6.2⟩, ?_, ⟨fun b2 hb2 => ⟨hb2, fun hne => va_up_ne _ _ (fun q => hne (by rw [q]; exact ht0))⟩, fun b2 hb2 => ?_, fun reg hrg _ i => hreg reg hrg i⟩, ([], [], [], [], []), List.mem_cons_self, g, τ, fun _ _ => rfl, fun _ _ => rfl, fun j hj => by simp at hj, fun j q hq => by simp at hq, rfl, fun f hf => by simp at hf, fun mm hm => by simp at hm⟩, by rw [ht]; exact hw6.1, hw6.2.1⟩, hw6.2.2.F ht⟩) hw6.2.2.2.2 (by decide +kernel) hlk
  · exact p7.fr hT f6 (fun _ _ _ _ _ h => by simp at h)
  · have : b2 = a := by
      have h0 : τ 0 = some b2 := hb2
      rw [ht0] at h0; cases h0; rfl
    rw [this]; simp [va_up]
