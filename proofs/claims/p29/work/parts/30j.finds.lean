/-! by hand: all orders of so many leaves are found anew, or stand there -/
theorem cn_X12_finds_0 {ad xs : Nat → Nat} {cD : va_G} {cy : Nat → ClassId} {l : Launch} {neg0 : Int → Int} (hb0 : bndN neg0) : Con zT ad (ghN (zC ad) neg0) (zXI ad) xs cD cy l yX12_finds cX12_finds 2 (none) 12 400 sg_X12_finds_0 [] := by
  intro g τ S ρ sz hpre
  obtain ⟨p1, p2, p3, p4, p5, p6, p7⟩ := hpre
  have hT := zT_ok (ad := ad) hb0
  have q0 := p2 0 _ rfl
  cases ht0 : τ 0 with
  | none => rw [ht0] at q0; cases q0
  | some a =>
  rw [ht0] at q0
  obtain ⟨ha, hra⟩ := q0
  have hra : ρ a = 17 := List.mem_singleton.mp hra
  have haa : a = ad 17 := by
    have := p6.1.2.2 a ha (by rw [hra]; decide +kernel)
    rw [hra] at this; exact this
  have i0 : (1 : Int) ≤ g 0 ∧ g 0 ≤ 8 := p1 0 (by decide)
  obtain ⟨n, hn⟩ : ∃ n : Nat, (n : Int) = g 0 := ⟨(g 0).toNat, by omega⟩
  have en : Int32.ofInt (g 0) = nI n := Int32.toInt_inj.mp (by rw [nI_toInt (by omega), i32_of (by rw [k32l_eq, k32h_eq]; omega), hn])
  have eav : γK g τ xs (sA sg_X12_finds_0) = [.ref (ad 17), .int (nI n)] := by
    show [va_rf (τ 0), .int (Int32.ofInt (ev g (lsy 0)))] = _
    rw [ht0, haa, ev_lsy, en]; rfl
  rw [eav]
  refine z_ofW (QQ := QX cD cy (PostOK zT ad (ghN (zC ad) neg0) (zXI ad) xs sg_X12_finds_0 g τ S ρ)) (own := RX12) (by decide +kernel) rfl rfl (Nat.le_of_ble_eq_true rfl) ?_
  intro p e s m args below meth c A ls hcf hr hlk hnm hK hE hZ hw hA hl
  have hM : MX xs cD cy A p s m args c cX12_finds 2 (Cond.code yX12_finds cX12_finds 2 none :: TB) RX12 := ⟨hcf, fun w hw => List.mem_cons_of_mem _ hw, hK, hE, hZ, hA⟩
  have hx := hcf.1
  have hb := hcf.2.1
  have hl : lv_has ls 2 [(0, .ref (ad 17)), (1, .int (nI n))] := hl
  have post : ∀ S1 : zS, Typed zT ad S1 ρ → Fr zT ad [8, 9] S ρ S1 ρ → PostOK zT ad (ghN (zC ad) neg0) (zXI ad) xs sg_X12_finds_0 g τ S ρ none S1 ρ := fun S1 t1 fF =>
    ⟨⟨t1, XI_fr hT fF (fun reg h => by
        have : (tXR zT).all (fun r => !(nin r [8, 9])) = true := by decide +kernel
        have h2 := List.all_eq_true.mp this reg h
        intro q
        rw [nin_iff.mpr q] at h2
        exact absurd h2 (by decide)) p6.2⟩, p7.fr hT fF (fun gi G hG c hc => by
        have : zCG.all (fun G => G.1.all (fun c => !(nin c.1 [8, 9]))) = true := by decide +kernel
        have h2 := List.all_eq_true.mp (List.all_eq_true.mp this G (List.mem_of_getElem? hG)) c hc
        intro q
        rw [nin_iff.mpr q] at h2
        exact absurd h2 (by decide)), fF, ([], [], [], [], []), List.mem_cons_self, g, τ, fun _ _ => rfl, fun _ _ => rfl, fun j hj => by simp at hj, fun j q hq => by simp at hq, rfl, fun f hf => by simp at hf, fun mm hm => by simp at hm⟩
  refine lv_aload_n hx hb dX12_finds_0 rfl (lv_at hl 0 rfl) ?_
  refine g_of hM p6.1 hw rfl dX12_finds_1 ?_
  refine lv_iload_n hx hb dX12_finds_4 rfl (lv_at hl 1 rfl) ?_
  refine lv_icmp_ne (tgt := 9) hx hb dX12_finds_5 (by decide) (fun _ => ?_) (fun _ => ?_)
  · refine lv_aload_n hx hb dX12_finds_9 rfl (lv_at hl 0 rfl) ?_
    refine lv_iload_n hx hb dX12_finds_10 rfl (lv_at hl 1 rfl) ?_
    refine p_of hM p6.1 hw dX12_finds_11 (fun H1 locs1 hw1 => ?_)
    have t1 : Typed zT ad (zsI S 1249 (ad 17) (nI n)) ρ := ty_pI (r := 17) (f := 49) (k := 12) p6.1 (ty_cel p6.1 (r := 17) (by decide +kernel) rfl).2.1 rfl rfl rfl ⟨Int32.le_toInt _, by
      show (nI n).toInt ≤ 2147483647
      have := Int32.toInt_lt (nI n); omega⟩
    have f1 := fr_I (ad := ad) (gh := ghN (zC ad) neg0) (XI := zXI ad) (x := nI n) (j := 1249) (a := ad 17) (rs := [17]) hT p6.1 (by rw [(ty_cel p6.1 (r := 17) (by decide +kernel) rfl).2.1]; exact List.mem_cons_self)
    refine lv_aload_n hx hb dX12_finds_14 rfl (lv_at hl 0 rfl) ?_
    refine lv_iconst (v := nI 0) hx hb dX12_finds_15 (by decide) ?_
    refine p_many hM t1 hw1 dX12_finds_16 (fun H2 locs2 hw2 => ?_)
    have t2 : Typed zT ad (zsI (zsI S 1249 (ad 17) (nI n)) 1250 (ad 17) (nI 0)) ρ := ty_I50 (by omega) t1
    have f2 := fr_I (ad := ad) (gh := ghN (zC ad) neg0) (XI := zXI ad) (x := nI 0) (j := 1250) (a := ad 17) (rs := [17]) hT t1 (by rw [(ty_cel t1 (r := 17) (by decide +kernel) rfl).2.1]; exact List.mem_cons_self)
    refine lv_aload_n hx hb dX12_finds_19 rfl (lv_at hl 0 rfl) ?_
    refine lv_iconst (v := nI 0) hx hb dX12_finds_20 (by decide) ?_
    refine lv_iload_n hx hb dX12_finds_21 rfl (lv_at hl 1 rfl) ?_
    refine lv_iconst (v := nI 0) hx hb dX12_finds_22 (by decide) ?_
    have cl : (mG n n []).length ≤ 1392 := by rw [mG_cG]; exact (cG_len (by omega) (by omega)).2
    have hmet := c_X12_goes (xs := xs) l cD cy n (by omega) n H2.size _ t2 0 0 [] (Nat.zero_add _) (by decide) (fun k_ hk => by simp [nbit]) List.nodup_nil (fun x_ hx => absurd hx List.not_mem_nil) zI_at (by omega) (fun k_ hk => absurd hk (Nat.not_lt_zero k_)) (fun x_ hx => absurd hx List.not_mem_nil)
    have c17b := ty_cel t2 (r := 17) (by decide +kernel) rfl
    have hrun := rl_RX12_2_331_12 p l e { frames := 12, cells := 0, slots := 0, locals := 400 } s m args below meth c H2 locs2 0 0 xs cD cy A cX12_finds 2 _ _ 23 ls [] [.ref (ad 17), .int (nI ([] : List Nat).length), .int (nI n), .int (nI 0)] _ _ 0 0 _ hM hw2 rfl (Or.inr (Or.inl ⟨by decide, _, _, rfl, c17b.1, c17b.2.2.1⟩)) hmet rfl rfl (by show n + 1 + 1 ≤ 12; omega) (by show 8 + (5 + 11) + (24 * n + 27) ≤ 400; omega) (show (0 : Nat) ≤ 8 by decide) dX12_finds_23 ⟨Nat.le_refl _, Nat.le_refl _⟩ hl.1
    refine z_call hw2 hA hrun (fun rv S3 ρ3 H3 locs3 hp hw3 => ?_)
    obtain ⟨rfl, lf, av, fo, rfl, -, -, -, -⟩ := hp
    generalize hS2 : zsI (zsI S 1249 (ad 17) (nI n)) 1250 (ad 17) (nI 0) = S2 at *
    have a50 := fr_A (ad := ad) (gh := ghN (zC ad) neg0) (XI := zXI ad) (rs := [50]) (f := lf) hT t2 (a := ad 50) (by rw [(ty_cel t2 (r := 50) (by decide +kernel) rfl).2.1]; exact List.mem_cons_self)
    have t50 : Typed zT ad (zsA S2 (ad 50) lf) ρ := ty_A50 t2
    have a51 := fr_A (ad := ad) (gh := ghN (zC ad) neg0) (XI := zXI ad) (rs := [51]) (f := av) hT t50 (a := ad 51) (by rw [(ty_cel t50 (r := 51) (by decide +kernel) rfl).2.1]; exact List.mem_cons_self)
    have t51 : Typed zT ad (zsA (zsA S2 (ad 50) lf) (ad 51) av) ρ := ty_A51 t50
    have a52 := fr_A (ad := ad) (gh := ghN (zC ad) neg0) (XI := zXI ad) (rs := [52]) (f := fo) hT t51 (a := ad 52) (by rw [(ty_cel t51 (r := 52) (by decide +kernel) rfl).2.1]; exact List.mem_cons_self)
    have t52 : Typed zT ad (zsA (zsA (zsA S2 (ad 50) lf) (ad 51) av) (ad 52) fo) ρ := ty_A52 t51
    have f3 := fr_I (ad := ad) (gh := ghN (zC ad) neg0) (XI := zXI ad) (x := nI (0 + (mG n n []).length)) (j := 1250) (a := ad 17) (rs := [17]) hT t52 (by rw [(ty_cel t52 (r := 17) (by decide +kernel) rfl).2.1]; exact List.mem_cons_self)
    have t3 : Typed zT ad (zsI (zsA (zsA (zsA S2 (ad 50) lf) (ad 51) av) (ad 52) fo) 1250 (ad 17) (nI (0 + (mG n n []).length))) ρ := ty_I50 (by omega) t52
    rw [show tch zT [17] false 1249 = [9] by decide +kernel] at f1
    rw [show tch zT [17] false 1250 = [8] by decide +kernel] at f2 f3
    rw [show tch zT [50] true 0 = [] by decide +kernel] at a50
    rw [show tch zT [51] true 0 = [] by decide +kernel] at a51
    rw [show tch zT [52] true 0 = [] by decide +kernel] at a52
    have fA := f1.trans (f2.trans (a50.trans (a51.trans (a52.trans f3))))
    exact z_vretQ (ρ1 := ρ) hcf hr hlk hw3 (post _ t3 ⟨fA.1, fun reg hrg hq i => fA.2 reg hrg (fun q => hq (by simp at q ⊢; omega)) i⟩) dX12_finds_26
  · exact z_vretQ (ρ1 := ρ) hcf hr hlk hw (post S p6.1 Fr.refl) dX12_finds_8
