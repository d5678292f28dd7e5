/-! by hand: the JDK's test of an index; the constructor of Walk -/
theorem rl_RJ0_0_1059_99 : RCall RJ0 0 1059 3 99 yJ3_checkIndex_8e157 cJ3_checkIndex_8e157 3 ((some .int)) := rc_S (n := 3) (tb_3 109 rfl rfl) (tb_3 110 rfl rfl) (tb_1 17 rfl rfl) (tb_3 111 rfl rfl) (by decide +kernel)
theorem met_J3 {xs : Nat → Nat} {cD : va_G} {cy : Nat → ClassId} {l : Launch} {S : zS} {sz : Nat} {i n : Int32} {v : Value} (hv : v.category = 1) (h0 : 0 ≤ i.toInt) (h1 : i.toInt < n.toInt) : Met l yJ3_checkIndex_8e157 (Cond.code yJ3_checkIndex_8e157 cJ3_checkIndex_8e157 3 (some .int) :: TB) { frames := 0, cells := 0, slots := 0, locals := 0 } (va_Pc [.int i, .int n, v] (zPre xs cD cy S sz)) (QX cD cy (fun rv S' _ => rv = some (.int i) ∧ S' = S) (zAd cy S sz)) 0 0 (zAd cy S sz) := by
  have h3 : (lg_sl [.int i, .int n, v]).length ≤ 3 := by
    cases v <;> first | exact Nat.le_of_ble_eq_true rfl | cases hv
  refine z_ofW (QQ := QX cD cy (fun rv S' _ => rv = some (.int i) ∧ S' = S)) (own := "jdk/internal/util/Preconditions") (by decide +kernel) rfl rfl h3 ?_
  intro p e s m args below meth c A ls hcf hr hlk hnm hK hE hZ hw hA hl
  have hx := hcf.1
  have hb := hcf.2.1
  have hl : lv_has ls 3 [(0, .int i), (1, .int n), (2, v)] := by
    have e1 : lv_args 0 [.int i, .int n, v] = [(0, .int i), (1, .int n), (2, v)] := rfl
    rw [← e1]; exact hl
  refine lv_iload_n (k := 0) (i := 0) hx hb (by decide +kernel) rfl (lv_at hl 0 rfl) ?_
  refine lv_if_lt (off := 8) (tgt := 9) hx hb (by decide +kernel) (by decide) (fun q => ?_) (fun _ => ?_)
  · rw [Int32.lt_iff_toInt_lt] at q
    have e0 : (0 : Int32).toInt = 0 := rfl
    omega
  refine lv_iload_n (k := 0) (i := 0) hx hb (by decide +kernel) rfl (lv_at hl 0 rfl) ?_
  refine lv_iload_n (k := 1) (i := 1) hx hb (by decide +kernel) rfl (lv_at hl 1 rfl) ?_
  refine lv_icmp_lt (off := 10) (tgt := 16) hx hb (by decide +kernel) (by decide) (fun _ => ?_) (fun q => ?_)
  · refine lv_iload_n (k := 0) (i := 0) hx hb (by decide +kernel) rfl (lv_at hl 0 rfl) ?_
    exact W.zret hx hb hr rfl (fun t ht hW => ⟨⟨some (.int i), S, fun _ => 0, rfl, ⟨rfl, rfl⟩, by rw [ht]; exact hw.1, hw.2.1⟩, hw.2.2.F ht⟩) hw.2.2.2.2 (by decide +kernel) hlk
  · rw [Int32.lt_iff_toInt_lt] at q
    omega
theorem cn_J0_checkIndex_df160_0 {ad xs : Nat → Nat} {cD : va_G} {cy : Nat → ClassId} {l : Launch} {neg0 : Int → Int} (hb0 : bndN neg0) : Con zT ad (ghN (zC ad) neg0) (zXI ad) xs cD cy l yJ0_checkIndex_df160 cJ0_checkIndex_df160 2 (none) 1 60 sg_J0_checkIndex_df160_0 [] := by
  intro g τ S ρ sz hpre
  obtain ⟨p1, p2, p3, p4, p5, p6, p7⟩ := hpre
  have i0 := p1 0 (by decide)
  have i1 := p1 1 (by decide)
  have f0 : (0 : Int) ≤ 0 + (1 * g 0 + 0) := p4 _ List.mem_cons_self
  have f1 : (0 : Int) ≤ Int.negSucc 0 + (Int.negSucc 0 * g 0 + (1 * g 1 + 0)) := p4 _ (List.mem_cons_of_mem _ List.mem_cons_self)
  have n1 : Int.negSucc 0 = (-1 : Int) := rfl
  rw [n1] at f1
  have i1a : (1 : Int) ≤ g 1 := i1.1
  have i1b : g 1 ≤ (100 : Int) := i1.2
  have v0 : (Int32.ofInt (g 0)).toInt = g 0 := i32_of (by rw [k32l_eq, k32h_eq]; omega)
  have v1 : (Int32.ofInt (g 1)).toInt = g 1 := i32_of (by rw [k32l_eq, k32h_eq]; omega)
  have ev0 : ev g (0, [(0, 1)]) = g 0 := ev_lsy (s := 0)
  have ev1' : ev g (0, [(1, 1)]) = g 1 := ev_lsy (s := 1)
  have eav : γK g τ xs (sA sg_J0_checkIndex_df160_0) = [.int (Int32.ofInt (g 0)), .int (Int32.ofInt (g 1))] := by
    show [Value.int (Int32.ofInt (ev g (0, [(0, 1)]))), Value.int (Int32.ofInt (ev g (0, [(1, 1)])))] = _
    rw [ev0, ev1']
  rw [eav]
  refine z_ofW (QQ := QX cD cy (PostOK zT ad (ghN (zC ad) neg0) (zXI ad) xs sg_J0_checkIndex_df160_0 g τ S ρ)) (own := RJ0) (by decide +kernel) rfl rfl (Nat.le_of_ble_eq_true rfl) ?_
  intro p e s m args below meth c A ls hcf hr hlk hnm hK hE hZ hw hA hl
  have hM : MX xs cD cy A p s m args c cJ0_checkIndex_df160 2 (Cond.code yJ0_checkIndex_df160 cJ0_checkIndex_df160 2 none :: TB) RJ0 := ⟨hcf, fun w hw => List.mem_cons_of_mem _ hw, hK, hE, hZ, hA⟩
  have hx := hcf.1
  have hb := hcf.2.1
  have hl : lv_has ls 2 [(0, .int (Int32.ofInt (g 0))), (1, .int (Int32.ofInt (g 1)))] := hl
  refine lv_iload_n (k := 0) (i := 0) hx hb (by decide +kernel) rfl (lv_at hl 0 rfl) ?_
  refine lv_iload_n (k := 1) (i := 1) hx hb (by decide +kernel) rfl (lv_at hl 1 rfl) ?_
  have hv : ∃ v : Value, v.category = 1 ∧ va_Z "jdk/internal/util/Preconditions" "SIOOBE_FORMATTER" "Ljava/util/function/BiFunction;" v A s s.heap := by
    rcases hZ.2.2.2.2.2.1 with q | ⟨t, q⟩
    · exact ⟨.null, rfl, q⟩
    · exact ⟨.ref t, rfl, q⟩
  obtain ⟨v, hvc, hvz⟩ := hv
  refine va_gets (index := 1053) (ref := "jdk/internal/util/Preconditions") hx hb hvz hw.2.2 hcf.2.2.2.1 (hcf.2.2.2.2 _ (List.mem_cons_of_mem _ (tb_3 107 rfl rfl))) (fun _ h => h) (by decide +kernel) ?_
  have hmet := met_J3 (xs := xs) (cD := cD) (cy := cy) (l := l) (S := S) (sz := s.heap.size) (i := Int32.ofInt (g 0)) (n := Int32.ofInt (g 1)) hvc (by omega) (by omega)
  have hrun := rl_RJ0_0_1059_99 p l e { frames := 1, cells := 0, slots := 0, locals := 60 } s m args below meth c s.heap [] 0 0 xs cD cy A cJ0_checkIndex_df160 2 _ S 5 ls [] [.int (Int32.ofInt (g 0)), .int (Int32.ofInt (g 1)), v] _ _ 0 0 _ hM hw rfl (Or.inl rfl) hmet rfl rfl (Nat.le_of_ble_eq_true rfl) (Nat.le_of_ble_eq_true rfl) (by decide) (by decide +kernel) ⟨Nat.le_refl _, Nat.le_refl _⟩ hl.1
  refine z_call hw hA hrun (fun rv S1 ρ1 H1 locs1 hp hw1 => ?_)
  obtain ⟨rfl, rfl⟩ := hp
  refine lv_pop hx hb (by decide +kernel) rfl ?_
  refine W.vret hx hb hr (fun t ht hW => ⟨⟨none, S1, ρ, rfl, ⟨p6, p7, Fr.refl, ([], [], [], [], []), List.mem_cons_self, g, τ, fun _ _ => rfl, fun _ _ => rfl, fun j hj => by simp at hj, fun j q hq => by simp at hq, rfl, fun f hf => by simp at hf, fun mm hm => by simp at hm⟩, by rw [ht]; exact hw1.1, hw1.2.1⟩, hw1.2.2.F ht⟩) hw1.2.2.2.2 (by decide +kernel) hlk
