/-! by hand: orders and order, by what is asked alone -/
theorem zx_of {x : Int32} {a b : Nat} (h1 : ¬ x < nI a) (h2 : x ≤ nI b) (hb : b < 2 ^ 31) (hab : a < 2 ^ 31) : ∃ j : Nat, a ≤ j ∧ j ≤ b ∧ x = nI j := by
  rw [zx_lt, nI_toInt hab] at h1; rw [zx_le, nI_toInt hb] at h2
  obtain ⟨j, hj, e⟩ := nI_of (x := x) (by rw [zx_lt]; show ¬ x.toInt < 0; omega)
  have := nI_toInt hj
  rw [← e] at this
  exact ⟨j, by omega, by omega, e⟩
theorem q_orders_in {n : Int32} {n0 : Nat} (h1 : ¬ n < 1) (h2 : n ≤ 8) (en : n = nI n0) (h8 : n0 ≤ 8) : q_orders n = nI (cG n0 n0 []).length := by
  have : n.toNatClampNeg = n0 := by rw [en]; exact nI_clamp (by omega)
  unfold q_orders
  rw [if_neg (by simp [h1, h2]), this]
theorem q_order_in {n i p : Int32} {n0 i0 p0 : Nat} (hi : ¬ i < 0) (hp : ¬ p < 0) (h1 : ¬ n < 1) (h2 : n ≤ 8) (en : n = nI n0) (h8 : n0 ≤ 8) (ei : i = nI i0) (hi0 : i0 < 2 ^ 31) (ep : p = nI p0) (hp0 : p0 < n0) (hlt : i < nI (cG n0 n0 []).length) : q_order n i p = nI (((cG n0 n0 []).getD i0 []).getD p0 0) := by
  have e1 : n.toNatClampNeg = n0 := by rw [en]; exact nI_clamp (by omega)
  have e2 : i.toNatClampNeg = i0 := by rw [ei]; exact nI_clamp hi0
  have e3 : p.toNatClampNeg = p0 := by rw [ep]; exact nI_clamp (by omega)
  have l1 : p < n := by rw [ep, en]; exact nI_lt hp0 (by omega)
  unfold q_order
  rw [if_neg (by simp [hi, hp]), if_neg (by simp [h1, h2]), q_orders_in h1 h2 en h8, if_pos ⟨l1, hlt⟩, e1, e2, e3]
theorem q_order_out {n i p : Int32} {n0 : Nat} (hi : ¬ i < 0) (hp : ¬ p < 0) (h1 : ¬ n < 1) (h2 : n ≤ 8) (en : n = nI n0) (h8 : n0 ≤ 8) (h : ¬ p < n ∨ ¬ i < nI (cG n0 n0 []).length) : q_order n i p = -5 := by
  unfold q_order
  rw [if_neg (by simp [hi, hp]), if_neg (by simp [h1, h2]), q_orders_in h1 h2 en h8, if_neg (fun q => h.elim (fun z => z q.1) (fun z => z q.2))]
theorem dX11_orders_0 : decode cX11_orders 0 = .ok (.iload_n 1, 1) := by decide +kernel
theorem dX11_orders_1 : decode cX11_orders 1 = .ok (.iconst 1, 1) := by decide +kernel
theorem dX11_orders_2 : decode cX11_orders 2 = .ok (.if_icmp .lt 9, 3) := by decide +kernel
theorem dX11_orders_5 : decode cX11_orders 5 = .ok (.iload_n 1, 1) := by decide +kernel
theorem dX11_orders_6 : decode cX11_orders 6 = .ok (.bipush 8, 2) := by decide +kernel
theorem dX11_orders_8 : decode cX11_orders 8 = .ok (.if_icmp .le 12, 3) := by decide +kernel
theorem dX11_orders_11 : decode cX11_orders 11 = .ok (.aload_n 0, 1) := by decide +kernel
theorem dX11_orders_12 : decode cX11_orders 12 = .ok (.bipush (-6), 2) := by decide +kernel
theorem dX11_orders_14 : decode cX11_orders 14 = .ok (.invokevirtual 65, 3) := by decide +kernel
theorem dX11_orders_17 : decode cX11_orders 17 = .ok (.goto 11, 3) := by decide +kernel
theorem dX11_orders_20 : decode cX11_orders 20 = .ok (.aload_n 0, 1) := by decide +kernel
theorem dX11_orders_21 : decode cX11_orders 21 = .ok (.getfield 50, 3) := by decide +kernel
theorem dX11_orders_24 : decode cX11_orders 24 = .ok (.iload_n 1, 1) := by decide +kernel
theorem dX11_orders_25 : decode cX11_orders 25 = .ok (.invokevirtual 350, 3) := by decide +kernel
theorem dX11_orders_28 : decode cX11_orders 28 = .ok (.ireturn, 1) := by decide +kernel
theorem dX11_order_0 : decode cX11_order 0 = .ok (.iload_n 2, 1) := by decide +kernel
theorem dX11_order_1 : decode cX11_order 1 = .ok (.ifCond .lt 7, 3) := by decide +kernel
theorem dX11_order_4 : decode cX11_order 4 = .ok (.iload_n 3, 1) := by decide +kernel
theorem dX11_order_5 : decode cX11_order 5 = .ok (.ifCond .ge 10, 3) := by decide +kernel
theorem dX11_order_8 : decode cX11_order 8 = .ok (.aload_n 0, 1) := by decide +kernel
theorem dX11_order_9 : decode cX11_order 9 = .ok (.bipush (-5), 2) := by decide +kernel
theorem dX11_order_11 : decode cX11_order 11 = .ok (.invokevirtual 65, 3) := by decide +kernel
theorem dX11_order_14 : decode cX11_order 14 = .ok (.ireturn, 1) := by decide +kernel
theorem dX11_order_15 : decode cX11_order 15 = .ok (.iload_n 1, 1) := by decide +kernel
theorem dX11_order_16 : decode cX11_order 16 = .ok (.iconst 1, 1) := by decide +kernel
theorem dX11_order_17 : decode cX11_order 17 = .ok (.if_icmp .lt 9, 3) := by decide +kernel
theorem dX11_order_20 : decode cX11_order 20 = .ok (.iload_n 1, 1) := by decide +kernel
theorem dX11_order_21 : decode cX11_order 21 = .ok (.bipush 8, 2) := by decide +kernel
theorem dX11_order_23 : decode cX11_order 23 = .ok (.if_icmp .le 10, 3) := by decide +kernel
theorem dX11_order_26 : decode cX11_order 26 = .ok (.aload_n 0, 1) := by decide +kernel
theorem dX11_order_27 : decode cX11_order 27 = .ok (.bipush (-6), 2) := by decide +kernel
theorem dX11_order_29 : decode cX11_order 29 = .ok (.invokevirtual 65, 3) := by decide +kernel
theorem dX11_order_32 : decode cX11_order 32 = .ok (.ireturn, 1) := by decide +kernel
theorem dX11_order_33 : decode cX11_order 33 = .ok (.iload_n 3, 1) := by decide +kernel
theorem dX11_order_34 : decode cX11_order 34 = .ok (.iload_n 1, 1) := by decide +kernel
theorem dX11_order_35 : decode cX11_order 35 = .ok (.if_icmp .ge 15, 3) := by decide +kernel
theorem dX11_order_38 : decode cX11_order 38 = .ok (.iload_n 2, 1) := by decide +kernel
theorem dX11_order_39 : decode cX11_order 39 = .ok (.aload_n 0, 1) := by decide +kernel
theorem dX11_order_40 : decode cX11_order 40 = .ok (.getfield 50, 3) := by decide +kernel
theorem dX11_order_43 : decode cX11_order 43 = .ok (.iload_n 1, 1) := by decide +kernel
theorem dX11_order_44 : decode cX11_order 44 = .ok (.invokevirtual 350, 3) := by decide +kernel
theorem dX11_order_47 : decode cX11_order 47 = .ok (.if_icmp .lt 10, 3) := by decide +kernel
theorem dX11_order_50 : decode cX11_order 50 = .ok (.aload_n 0, 1) := by decide +kernel
theorem dX11_order_51 : decode cX11_order 51 = .ok (.bipush (-5), 2) := by decide +kernel
theorem dX11_order_53 : decode cX11_order 53 = .ok (.invokevirtual 65, 3) := by decide +kernel
theorem dX11_order_56 : decode cX11_order 56 = .ok (.ireturn, 1) := by decide +kernel
theorem dX11_order_57 : decode cX11_order 57 = .ok (.aload_n 0, 1) := by decide +kernel
theorem dX11_order_58 : decode cX11_order 58 = .ok (.getfield 50, 3) := by decide +kernel
theorem dX11_order_61 : decode cX11_order 61 = .ok (.iload_n 1, 1) := by decide +kernel
theorem dX11_order_62 : decode cX11_order 62 = .ok (.iload_n 2, 1) := by decide +kernel
theorem dX11_order_63 : decode cX11_order 63 = .ok (.iload_n 3, 1) := by decide +kernel
theorem dX11_order_64 : decode cX11_order 64 = .ok (.invokevirtual 353, 3) := by decide +kernel
theorem dX11_order_67 : decode cX11_order 67 = .ok (.ireturn, 1) := by decide +kernel
theorem dX12_orders_0 : decode cX12_orders 0 = .ok (.iload_n 1, 1) := by decide +kernel
theorem dX12_orders_1 : decode cX12_orders 1 = .ok (.iconst 1, 1) := by decide +kernel
theorem dX12_orders_2 : decode cX12_orders 2 = .ok (.if_icmp .lt 9, 3) := by decide +kernel
theorem dX12_orders_5 : decode cX12_orders 5 = .ok (.iload_n 1, 1) := by decide +kernel
theorem dX12_orders_6 : decode cX12_orders 6 = .ok (.bipush 8, 2) := by decide +kernel
theorem dX12_orders_8 : decode cX12_orders 8 = .ok (.if_icmp .le 10, 3) := by decide +kernel
theorem dX12_orders_11 : decode cX12_orders 11 = .ok (.aload_n 0, 1) := by decide +kernel
theorem dX12_orders_12 : decode cX12_orders 12 = .ok (.bipush (-6), 2) := by decide +kernel
theorem dX12_orders_14 : decode cX12_orders 14 = .ok (.invokevirtual 136, 3) := by decide +kernel
theorem dX12_orders_17 : decode cX12_orders 17 = .ok (.ireturn, 1) := by decide +kernel
theorem dX12_orders_18 : decode cX12_orders 18 = .ok (.aload_n 0, 1) := by decide +kernel
theorem dX12_orders_19 : decode cX12_orders 19 = .ok (.iload_n 1, 1) := by decide +kernel
theorem dX12_orders_20 : decode cX12_orders 20 = .ok (.invokevirtual 338, 3) := by decide +kernel
theorem dX12_orders_23 : decode cX12_orders 23 = .ok (.aload_n 0, 1) := by decide +kernel
theorem dX12_orders_24 : decode cX12_orders 24 = .ok (.getfield 328, 3) := by decide +kernel
theorem dX12_orders_27 : decode cX12_orders 27 = .ok (.ireturn, 1) := by decide +kernel
theorem dX12_order_0 : decode cX12_order 0 = .ok (.iload_n 1, 1) := by decide +kernel
theorem dX12_order_1 : decode cX12_order 1 = .ok (.iconst 1, 1) := by decide +kernel
theorem dX12_order_2 : decode cX12_order 2 = .ok (.if_icmp .lt 9, 3) := by decide +kernel
theorem dX12_order_5 : decode cX12_order 5 = .ok (.iload_n 1, 1) := by decide +kernel
theorem dX12_order_6 : decode cX12_order 6 = .ok (.bipush 8, 2) := by decide +kernel
theorem dX12_order_8 : decode cX12_order 8 = .ok (.if_icmp .le 23, 3) := by decide +kernel
theorem dX12_order_11 : decode cX12_order 11 = .ok (.aload_n 0, 1) := by decide +kernel
theorem dX12_order_12 : decode cX12_order 12 = .ok (.iload_n 3, 1) := by decide +kernel
theorem dX12_order_13 : decode cX12_order 13 = .ok (.ifCond .lt 7, 3) := by decide +kernel
theorem dX12_order_16 : decode cX12_order 16 = .ok (.iload_n 2, 1) := by decide +kernel
theorem dX12_order_17 : decode cX12_order 17 = .ok (.ifCond .ge 8, 3) := by decide +kernel
theorem dX12_order_20 : decode cX12_order 20 = .ok (.bipush (-5), 2) := by decide +kernel
theorem dX12_order_22 : decode cX12_order 22 = .ok (.goto 5, 3) := by decide +kernel
theorem dX12_order_25 : decode cX12_order 25 = .ok (.bipush (-6), 2) := by decide +kernel
theorem dX12_order_27 : decode cX12_order 27 = .ok (.invokevirtual 136, 3) := by decide +kernel
theorem dX12_order_30 : decode cX12_order 30 = .ok (.ireturn, 1) := by decide +kernel
theorem dX12_order_31 : decode cX12_order 31 = .ok (.aload_n 0, 1) := by decide +kernel
theorem dX12_order_32 : decode cX12_order 32 = .ok (.iload_n 1, 1) := by decide +kernel
theorem dX12_order_33 : decode cX12_order 33 = .ok (.invokevirtual 338, 3) := by decide +kernel
theorem dX12_order_36 : decode cX12_order 36 = .ok (.iload_n 2, 1) := by decide +kernel
theorem dX12_order_37 : decode cX12_order 37 = .ok (.ifCond .lt 34, 3) := by decide +kernel
theorem dX12_order_40 : decode cX12_order 40 = .ok (.iload_n 2, 1) := by decide +kernel
theorem dX12_order_41 : decode cX12_order 41 = .ok (.aload_n 0, 1) := by decide +kernel
theorem dX12_order_42 : decode cX12_order 42 = .ok (.getfield 328, 3) := by decide +kernel
theorem dX12_order_45 : decode cX12_order 45 = .ok (.if_icmp .ge 26, 3) := by decide +kernel
theorem dX12_order_48 : decode cX12_order 48 = .ok (.iload_n 3, 1) := by decide +kernel
theorem dX12_order_49 : decode cX12_order 49 = .ok (.ifCond .lt 22, 3) := by decide +kernel
theorem dX12_order_52 : decode cX12_order 52 = .ok (.iload_n 3, 1) := by decide +kernel
theorem dX12_order_53 : decode cX12_order 53 = .ok (.iload_n 1, 1) := by decide +kernel
theorem dX12_order_54 : decode cX12_order 54 = .ok (.if_icmp .ge 17, 3) := by decide +kernel
theorem dX12_order_57 : decode cX12_order 57 = .ok (.aload_n 0, 1) := by decide +kernel
theorem dX12_order_58 : decode cX12_order 58 = .ok (.getfield 117, 3) := by decide +kernel
theorem dX12_order_61 : decode cX12_order 61 = .ok (.bipush 8, 2) := by decide +kernel
theorem dX12_order_63 : decode cX12_order 63 = .ok (.iload_n 2, 1) := by decide +kernel
theorem dX12_order_64 : decode cX12_order 64 = .ok (.imul, 1) := by decide +kernel
theorem dX12_order_65 : decode cX12_order 65 = .ok (.iload_n 3, 1) := by decide +kernel
theorem dX12_order_66 : decode cX12_order 66 = .ok (.iadd, 1) := by decide +kernel
theorem dX12_order_67 : decode cX12_order 67 = .ok (.iaload, 1) := by decide +kernel
theorem dX12_order_68 : decode cX12_order 68 = .ok (.goto 9, 3) := by decide +kernel
theorem dX12_order_71 : decode cX12_order 71 = .ok (.aload_n 0, 1) := by decide +kernel
theorem dX12_order_72 : decode cX12_order 72 = .ok (.bipush (-5), 2) := by decide +kernel
theorem dX12_order_74 : decode cX12_order 74 = .ok (.invokevirtual 136, 3) := by decide +kernel
theorem dX12_order_77 : decode cX12_order 77 = .ok (.ireturn, 1) := by decide +kernel
theorem rl_RX11_2_350_3 : RCall RX11 2 350 2 3 yX3_countOf cX3_countOf 2 ((some .int)) := rc_VN (n := 1) (host := "FoldedInHalf") (tm_5 44 rfl) (tb_5 46 rfl rfl) (TB_s 45 rfl rfl) (tb_1 3 rfl rfl) (tb_5 47 rfl rfl) (by decide +kernel) (by decide) rfl
theorem rl_RX11_2_353_3 : RCall RX11 2 353 4 3 yX3_leafOf cX3_leafOf 5 ((some .int)) := rc_VN (n := 3) (host := "FoldedInHalf") (tm_5 66 rfl) (tb_5 68 rfl rfl) (TB_s 48 rfl rfl) (tb_1 3 rfl rfl) (tb_5 69 rfl rfl) (by decide +kernel) (by decide) rfl
theorem rl_RX12_2_338_12 : RCall RX12 2 338 2 12 yX12_finds cX12_finds 2 (none) := rc_V (n := 1) (tb_7 165 rfl rfl) (tb_7 167 rfl rfl) (TB_s 92 rfl rfl) (tb_1 5 rfl rfl) (tb_7 168 rfl rfl) (by decide +kernel) (by decide) rfl
theorem gi_RX12_335_49 {x : Int32} {ad xs : Nat → Nat} {cD : va_G} {cy : Nat → ClassId} {A : Nat → Prop} {S : zS} {cc : ByteArray} {nL : Nat} {p : Program} {l : Launch} {e : Env} {R : Room} {s : State} {m : MethodId} {args : Array Value} {below : List Frame} {meth : Method} {c : Code} {Q : State → Prop} {Ts : List Cond} {cells slots pc : Nat} {H : Heap} {locs : List Loc} {ls : Array Slot} {rest : List Value} (hM : MX xs cD cy A p s m args c cc nL Ts RX12) (hT : ShT ad S) (hw : zPw cD cy A s.heap S H locs) (hv : zI S 1249 (ad 17) = x) (hd : decode cc pc = .ok (.getfield 335, 3)) (k : W p l e R s m args below meth c H locs cells slots Q (F0 m (pc + 3) ls (.int x :: rest))) : W p l e R s m args below meth c H locs cells slots Q (F0 m pc ls (.ref (ad 17) :: rest)) := by
  refine gf_RX12_335_12 p l e _ s m args below meth c H locs _ _ _ xs cD cy A cc nL _ S (ad 17) pc ls rest 0 hM hw (sh_L hT (r := 17) (by decide +kernel)) (sh_K hT (r := 17) (by decide +kernel) rfl) hd rfl ?_
  have e1 : z_v S (ad 17) 0 (z_bs 12 + 49) = .int x := by
    show Value.int (zI S 1249 (ad 17)) = _
    rw [hv]
  rw [e1]
  exact k
theorem pi_RX12_335_49 {x : Int32} {ad xs : Nat → Nat} {cD : va_G} {cy : Nat → ClassId} {A : Nat → Prop} {S : zS} {cc : ByteArray} {nL : Nat} {p : Program} {l : Launch} {e : Env} {R : Room} {s : State} {m : MethodId} {args : Array Value} {below : List Frame} {meth : Method} {c : Code} {Q : State → Prop} {Ts : List Cond} {cells slots pc : Nat} {H : Heap} {locs : List Loc} {ls : Array Slot} {rest : List Value} (hM : MX xs cD cy A p s m args c cc nL Ts RX12) (hT : ShT ad S) (hw : zPw cD cy A s.heap S H locs) (hd : decode cc pc = .ok (.putfield 335, 3)) (k : ∀ (H1 : Heap) (locs1 : List Loc), zPw cD cy A s.heap (zsI S 1249 (ad 17) x) H1 locs1 → W p l e R s m args below meth c H1 locs1 cells slots Q (F0 m (pc + 3) ls rest)) : W p l e R s m args below meth c H locs cells slots Q (F0 m pc ls (.int x :: .ref (ad 17) :: rest)) := by
  have P1 : RPutI RX12 335 12 49 false false := pf_RX12_335_12
  exact P1 p l e _ s m args below meth c H locs _ _ _ xs cD cy A cc nL _ S (ad 17) pc ls rest x hM (fun q => absurd q (by decide)) (fun q => absurd q (by decide)) hw (sh_L hT (r := 17) (by decide +kernel)) (sh_K hT (r := 17) (by decide +kernel) rfl) hd k
theorem pi_RX12_328_50 {x : Int32} {ad xs : Nat → Nat} {cD : va_G} {cy : Nat → ClassId} {A : Nat → Prop} {S : zS} {cc : ByteArray} {nL : Nat} {p : Program} {l : Launch} {e : Env} {R : Room} {s : State} {m : MethodId} {args : Array Value} {below : List Frame} {meth : Method} {c : Code} {Q : State → Prop} {Ts : List Cond} {cells slots pc : Nat} {H : Heap} {locs : List Loc} {ls : Array Slot} {rest : List Value} (hM : MX xs cD cy A p s m args c cc nL Ts RX12) (hT : ShT ad S) (hw : zPw cD cy A s.heap S H locs) (hd : decode cc pc = .ok (.putfield 328, 3)) (k : ∀ (H1 : Heap) (locs1 : List Loc), zPw cD cy A s.heap (zsI S 1250 (ad 17) x) H1 locs1 → W p l e R s m args below meth c H1 locs1 cells slots Q (F0 m (pc + 3) ls rest)) : W p l e R s m args below meth c H locs cells slots Q (F0 m pc ls (.int x :: .ref (ad 17) :: rest)) := by
  have P1 : RPutI RX12 328 12 50 false false := pf_RX12_328_12
  exact P1 p l e _ s m args below meth c H locs _ _ _ xs cD cy A cc nL _ S (ad 17) pc ls rest x hM (fun q => absurd q (by decide)) (fun q => absurd q (by decide)) hw (sh_L hT (r := 17) (by decide +kernel)) (sh_K hT (r := 17) (by decide +kernel) rfl) hd k
theorem gs_RX11_50_9 {ad xs : Nat → Nat} {cD : va_G} {cy : Nat → ClassId} {A : Nat → Prop} {S : zS} {cc : ByteArray} {nL : Nat} {p : Program} {l : Launch} {e : Env} {R : Room} {s : State} {m : MethodId} {args : Array Value} {below : List Frame} {meth : Method} {c : Code} {Q : State → Prop} {Ts : List Cond} {cells slots pc : Nat} {H : Heap} {locs : List Loc} {ls : Array Slot} {rest : List Value} (hM : MX xs cD cy A p s m args c cc nL Ts RX11) (hT : ShT ad S) (hw : zPw cD cy A s.heap S H locs) (hd : decode cc pc = .ok (.getfield 50, 3)) (k : W p l e R s m args below meth c H locs cells slots Q (F0 m (pc + 3) ls (.ref (ad 10) :: rest))) : W p l e R s m args below meth c H locs cells slots Q (F0 m pc ls (.ref (ad 0) :: rest)) := by
  refine gf_RX11_50_11 p l e _ s m args below meth c H locs _ _ _ xs cD cy A cc nL _ S (ad 0) pc ls rest 2 hM hw (sh_L hT (r := 0) (by decide +kernel)) (sh_K hT (r := 0) (by decide +kernel) rfl) hd rfl ?_
  have e1 : z_v S (ad 0) 2 (z_bs 11 + 9) = .ref (ad 10) := by
    show va_rf (zQ S (z_bs 11 + 9) (ad 0)) = _
    rw [sh_P hT (r := 0) (f := 9) (r2 := 10) (by decide +kernel) rfl (by decide) rfl (by decide +kernel)]; rfl
  rw [e1]
  exact k
theorem gi_RX12_328_50 {x : Int32} {ad xs : Nat → Nat} {cD : va_G} {cy : Nat → ClassId} {A : Nat → Prop} {S : zS} {cc : ByteArray} {nL : Nat} {p : Program} {l : Launch} {e : Env} {R : Room} {s : State} {m : MethodId} {args : Array Value} {below : List Frame} {meth : Method} {c : Code} {Q : State → Prop} {Ts : List Cond} {cells slots pc : Nat} {H : Heap} {locs : List Loc} {ls : Array Slot} {rest : List Value} (hM : MX xs cD cy A p s m args c cc nL Ts RX12) (hT : ShT ad S) (hw : zPw cD cy A s.heap S H locs) (hv : zI S 1250 (ad 17) = x) (hd : decode cc pc = .ok (.getfield 328, 3)) (k : W p l e R s m args below meth c H locs cells slots Q (F0 m (pc + 3) ls (.int x :: rest))) : W p l e R s m args below meth c H locs cells slots Q (F0 m pc ls (.ref (ad 17) :: rest)) := by
  refine gf_RX12_328_12 p l e _ s m args below meth c H locs _ _ _ xs cD cy A cc nL _ S (ad 17) pc ls rest 0 hM hw (sh_L hT (r := 17) (by decide +kernel)) (sh_K hT (r := 17) (by decide +kernel) rfl) hd rfl ?_
  have e1 : z_v S (ad 17) 0 (z_bs 12 + 50) = .int x := by
    show Value.int (zI S 1250 (ad 17)) = _
    rw [hv]
  rw [e1]
  exact k
theorem gs_RX12_117_48 {ad xs : Nat → Nat} {cD : va_G} {cy : Nat → ClassId} {A : Nat → Prop} {S : zS} {cc : ByteArray} {nL : Nat} {p : Program} {l : Launch} {e : Env} {R : Room} {s : State} {m : MethodId} {args : Array Value} {below : List Frame} {meth : Method} {c : Code} {Q : State → Prop} {Ts : List Cond} {cells slots pc : Nat} {H : Heap} {locs : List Loc} {ls : Array Slot} {rest : List Value} (hM : MX xs cD cy A p s m args c cc nL Ts RX12) (hT : ShT ad S) (hw : zPw cD cy A s.heap S H locs) (hd : decode cc pc = .ok (.getfield 117, 3)) (k : W p l e R s m args below meth c H locs cells slots Q (F0 m (pc + 3) ls (.ref (ad 52) :: rest))) : W p l e R s m args below meth c H locs cells slots Q (F0 m pc ls (.ref (ad 17) :: rest)) := by
  refine gf_RX12_117_12 p l e _ s m args below meth c H locs _ _ _ xs cD cy A cc nL _ S (ad 17) pc ls rest 2 hM hw (sh_L hT (r := 17) (by decide +kernel)) (sh_K hT (r := 17) (by decide +kernel) rfl) hd rfl ?_
  have e1 : z_v S (ad 17) 2 (z_bs 12 + 48) = .ref (ad 52) := by
    show va_rf (zQ S (z_bs 12 + 48) (ad 17)) = _
    rw [sh_P hT (r := 17) (f := 48) (r2 := 52) (by decide +kernel) rfl (by decide) rfl (by decide +kernel)]; rfl
  rw [e1]
  exact k
/-! what the regions are -/
section KPT
variable {ad xs : Nat → Nat} {cD : va_G} {cy : Nat → ClassId} {A : Nat → Prop} {S S0 : zS} {ρ ρ0 : Nat → Nat} {cc : ByteArray} {nL : Nat} {neg0 : Int → Int}
variable {p : Program} {l : Launch} {e : Env} {R : Room} {s : State} {m : MethodId} {args : Array Value} {below : List Frame} {meth : Method} {c : Code} {Q : State → Prop} {Ts : List Cond} {cells slots pc : Nat} {H : Heap} {locs : List Loc} {ls : Array Slot} {rest : List Value}
theorem rg_31 {n : Nat} : RGv zT ad S 31 (n : Int) = (zA S (ad 14) n).toInt := by
  show (zA S (ad 14) (Int.toNat (n : Int))).toInt = _
  rw [Int.toNat_natCast]
theorem rg_32 {n : Nat} : RGv zT ad S 32 (n : Int) = (zA S (ad 13) n).toInt := by
  show (zA S (ad 13) (Int.toNat (n : Int))).toInt = _
  rw [Int.toNat_natCast]
theorem rg_33 {n : Nat} : RGv zT ad S 33 (n : Int) = (zA S (ad 12) n).toInt := by
  show (zA S (ad 12) (Int.toNat (n : Int))).toInt = _
  rw [Int.toNat_natCast]
theorem rg_34 {n : Nat} : RGv zT ad S 34 (n : Int) = (zA S (ad 52) n).toInt := by
  show (zA S (ad 52) (Int.toNat (n : Int))).toInt = _
  rw [Int.toNat_natCast]
theorem rg_28 : RGv zT ad S 28 0 = (zI S 305 (ad 10)).toInt := rfl
theorem rg_9 : RGv zT ad S 9 0 = (zI S 1249 (ad 17)).toInt := rfl
theorem rg_8 : RGv zT ad S 8 0 = (zI S 1250 (ad 17)).toInt := rfl
theorem nI_ti {x : Int32} {n : Nat} (h : x.toInt = (n : Int)) (hn : n < 2 ^ 31) : x = nI n := Int32.toInt_inj.mp (by rw [h, nI_toInt hn])
theorem lGn_b {n : Nat} (h1 : 1 ≤ n) (h8 : n ≤ 8) : 1 ≤ lGn n ∧ lGn n ≤ 1392 := cG_len h1 h8
theorem lGn_s {f : Nat → Int} {n : Nat} (h1 : 1 ≤ n) (h8 : n ≤ 8) (h0 : f n = 0) : 0 ≤ lSum f 8 ∧ lSum f 8 + (lGn n : Int) ≤ 2073 := by
  have k1 : lGn 1 = 1 := cG_n1
  have k2 : lGn 2 = 2 := cG_n2
  have k3 : lGn 3 = 6 := cG_n3
  have k4 : lGn 4 = 16 := cG_n4
  have k5 : lGn 5 = 50 := cG_n5
  have k6 : lGn 6 = 144 := cG_n6
  have k7 : lGn 7 = 462 := cG_n7
  have k8 : lGn 8 = 1392 := cG_n8
  have e : lSum f 8 = 0 + ltm f 1 + ltm f 2 + ltm f 3 + ltm f 4 + ltm f 5 + ltm f 6 + ltm f 7 + ltm f 8 := rfl
  have z : ltm f n = 0 := if_pos h0
  have b1 := ltm_b (f := f) (k := 1)
  have b2 := ltm_b (f := f) (k := 2)
  have b3 := ltm_b (f := f) (k := 3)
  have b4 := ltm_b (f := f) (k := 4)
  have b5 := ltm_b (f := f) (k := 5)
  have b6 := ltm_b (f := f) (k := 6)
  have b7 := ltm_b (f := f) (k := 7)
  have b8 := ltm_b (f := f) (k := 8)
  rw [k1] at b1
  rw [k2] at b2
  rw [k3] at b3
  rw [k4] at b4
  rw [k5] at b5
  rw [k6] at b6
  rw [k7] at b7
  rw [k8] at b8
  obtain rfl | rfl | rfl | rfl | rfl | rfl | rfl | rfl : n = 1 ∨ n = 2 ∨ n = 3 ∨ n = 4 ∨ n = 5 ∨ n = 6 ∨ n = 7 ∨ n = 8 := by omega
  · rw [k1]; omega
  · rw [k2]; omega
  · rw [k3]; omega
  · rw [k4]; omega
  · rw [k5]; omega
  · rw [k6]; omega
  · rw [k7]; omega
  · rw [k8]; omega
/-- one number of leaves more -/
theorem LIs_up {f f' fr fr' cd cd' : Nat → Int} {cc : Int} {n : Nat} (h : LIs f fr cd cc) (h1 : 1 ≤ n) (h8 : n ≤ 8) (h0 : f n = 0) (hf : ∀ m, m ≠ n → f' m = f m) (hn : f' n = (lGn n : Int)) (hr : ∀ m, m ≠ n → fr' m = fr m) (hrn : fr' n = cc) (hc : ∀ k : Nat, (k : Int) < cc → cd' k = cd k) (hcn : ∀ i, i < lGn n → cd' (cc.toNat + i) = (cdI ((cG n n []).getD i [])).toInt) : LIs f' fr' cd' (cc + (lGn n : Int)) := by
  obtain ⟨e, hall⟩ := h
  have hb := lGn_b h1 h8
  have hs := lGn_s h1 h8 h0
  refine ⟨?_, fun k hk1 hk8 => ?_⟩
  · rw [lSum_up hf h0 (by rw [hn]; omega) 8, if_pos ⟨h1, h8⟩, e]
  · by_cases q : k = n
    · subst q
      refine Or.inr ⟨hn, by rw [hrn]; omega, by rw [hrn]; omega, fun i hi => ?_⟩
      rw [hrn]
      exact hcn i hi
    · rw [hf k q, hr k q]
      rcases hall k hk1 hk8 with z | ⟨z1, z2, z3, z4⟩
      · exact Or.inl z
      · refine Or.inr ⟨z1, z2, by omega, fun i hi => ?_⟩
        rw [hc _ (by omega)]
        exact z4 i hi
theorem wcf_tr {md : List Nat} {S1 : zS} {ρ1 : Nat → Nat} (hV : WCF ad md S0 ρ0 S ρ) (k : WCF ad md S ρ S1 ρ1) : WCF ad md S0 ρ0 S1 ρ1 := ⟨k.1, k.2.1, (hV.2.2.trans k.2.2).mono (fun a ha => (List.mem_append.mp ha).elim id id)⟩
/-- what countOf leaves -/
theorem cnt_wld {n cn : Nat} {po cod la : Nat → Int32} (hb0 : bndN neg0) (hW : Wld zT ad (zXI ad) S ρ) (hC : CoupX zT ad S (fun _ => 0) []) (h1 : 1 ≤ n) (h8 : n ≤ 8) (hc0 : zA S (ad 14) n = 0) (hcn : zI S 305 (ad 10) = nI cn) (hcb : cn + lGn n ≤ 2073) (hk1 : ∀ k, k < cn → cod k = zA S (ad 12) k) (hk2 : ∀ i, i < lGn n → cod (cn + i) = cdI ((cG n n []).getD i [])) :
    WCF ad [28, 29, 31, 32, 33] S ρ (zsA (zsI (zsA (zsA (zsA (zsA (zsI S 306 (ad 10) (nI n)) (ad 15) po) (ad 13) (upd (zA S (ad 13)) n (nI cn))) (ad 12) cod) (ad 16) la) 305 (ad 10) (nI (cn + lGn n))) (ad 14) (upd (zA S (ad 14)) n (nI (lGn n)))) ρ := by
  have hT := zT_ok (ad := ad) hb0
  have hb := lGn_b h1 h8
  have hSh := sh_of hW.1
  have u : ∀ r, r < tU zT → ρ (ad r) = r := fun r hr => (hW.1.2.1 r hr).2
  -- the states, one after another
  obtain ⟨S1, e1⟩ : ∃ z, z = zsI S 306 (ad 10) (nI n) := ⟨_, rfl⟩
  obtain ⟨S2, e2⟩ : ∃ z, z = zsA S1 (ad 15) po := ⟨_, rfl⟩
  obtain ⟨S3, e3⟩ : ∃ z, z = zsA S2 (ad 13) (upd (zA S (ad 13)) n (nI cn)) := ⟨_, rfl⟩
  obtain ⟨S4, e4⟩ : ∃ z, z = zsA S3 (ad 12) cod := ⟨_, rfl⟩
  obtain ⟨S5, e5⟩ : ∃ z, z = zsA S4 (ad 16) la := ⟨_, rfl⟩
  obtain ⟨S6, e6⟩ : ∃ z, z = zsI S5 305 (ad 10) (nI (cn + lGn n)) := ⟨_, rfl⟩
  obtain ⟨S7, e7⟩ : ∃ z, z = zsA S6 (ad 14) (upd (zA S (ad 14)) n (nI (lGn n))) := ⟨_, rfl⟩
  rw [← e1, ← e2, ← e3, ← e4, ← e5, ← e6, ← e7]
  have t1 : Typed zT ad S1 ρ := by
    rw [e1]
    exact ty_pI (r := 10) (f := 6) (k := 3) hW.1 (u 10 (by decide +kernel)) rfl rfl rfl ⟨Int32.le_toInt _, by
      show (nI n).toInt ≤ 2147483647
      rw [nI_toInt (by omega)]; omega⟩
  have t2 : Typed zT ad S2 ρ := by rw [e2]; exact ty_Aq (by decide +kernel) rfl t1
  have t3 : Typed zT ad S3 ρ := by rw [e3]; exact ty_Aq (by decide +kernel) rfl t2
  have t4 : Typed zT ad S4 ρ := by rw [e4]; exact ty_Aq (by decide +kernel) rfl t3
  have t5 : Typed zT ad S5 ρ := by rw [e5]; exact ty_Aq (by decide +kernel) rfl t4
  have t6 : Typed zT ad S6 ρ := by
    rw [e6]
    exact ty_pI (r := 10) (f := 5) (k := 3) t5 (u 10 (by decide +kernel)) rfl rfl rfl ⟨by
      show (0 : Int) ≤ (nI (cn + lGn n)).toInt
      rw [nI_toInt (by omega)]; omega, by
      show (nI (cn + lGn n)).toInt ≤ 2100
      rw [nI_toInt (by omega)]; omega⟩
  have t7 : Typed zT ad S7 ρ := by rw [e7]; exact ty_Aq (by decide +kernel) rfl t6
  have f1 : Fr zT ad [29] S ρ S1 ρ := by
    have := fr_I (ad := ad) (gh := ghN (zC ad) neg0) (XI := zXI ad) (x := nI n) (j := 306) (a := ad 10) (rs := [10]) hT hW.1 (by rw [u 10 (by decide +kernel)]; exact List.mem_cons_self)
    rw [show tch zT [10] false 306 = [29] by decide +kernel, ← e1] at this; exact this
  have f2 : Fr zT ad [] S1 ρ S2 ρ := by
    have := fr_A (ad := ad) (gh := ghN (zC ad) neg0) (XI := zXI ad) (rs := [15]) (f := po) hT t1 (a := ad 15) (by rw [u 15 (by decide +kernel)]; exact List.mem_cons_self)
    rw [show tch zT [15] true 0 = [] by decide +kernel, ← e2] at this; exact this
  have f3 : Fr zT ad [32] S2 ρ S3 ρ := by
    have := fr_A (ad := ad) (gh := ghN (zC ad) neg0) (XI := zXI ad) (rs := [13]) (f := upd (zA S (ad 13)) n (nI cn)) hT t2 (a := ad 13) (by rw [u 13 (by decide +kernel)]; exact List.mem_cons_self)
    rw [show tch zT [13] true 0 = [32] by decide +kernel, ← e3] at this; exact this
  have f4 : Fr zT ad [33] S3 ρ S4 ρ := by
    have := fr_A (ad := ad) (gh := ghN (zC ad) neg0) (XI := zXI ad) (rs := [12]) (f := cod) hT t3 (a := ad 12) (by rw [u 12 (by decide +kernel)]; exact List.mem_cons_self)
    rw [show tch zT [12] true 0 = [33] by decide +kernel, ← e4] at this; exact this
  have f5 : Fr zT ad [] S4 ρ S5 ρ := by
    have := fr_A (ad := ad) (gh := ghN (zC ad) neg0) (XI := zXI ad) (rs := [16]) (f := la) hT t4 (a := ad 16) (by rw [u 16 (by decide +kernel)]; exact List.mem_cons_self)
    rw [show tch zT [16] true 0 = [] by decide +kernel, ← e5] at this; exact this
  have f6 : Fr zT ad [28] S5 ρ S6 ρ := by
    have := fr_I (ad := ad) (gh := ghN (zC ad) neg0) (XI := zXI ad) (x := nI (cn + lGn n)) (j := 305) (a := ad 10) (rs := [10]) hT t5 (by rw [u 10 (by decide +kernel)]; exact List.mem_cons_self)
    rw [show tch zT [10] false 305 = [28] by decide +kernel, ← e6] at this; exact this
  have f7 : Fr zT ad [31] S6 ρ S7 ρ := by
    have := fr_A (ad := ad) (gh := ghN (zC ad) neg0) (XI := zXI ad) (rs := [14]) (f := upd (zA S (ad 14)) n (nI (lGn n))) hT t6 (a := ad 14) (by rw [u 14 (by decide +kernel)]; exact List.mem_cons_self)
    rw [show tch zT [14] true 0 = [31] by decide +kernel, ← e7] at this; exact this
  have fA := f1.trans (f2.trans (f3.trans (f4.trans (f5.trans (f6.trans f7)))))
  have fF : Fr zT ad [28, 29, 31, 32, 33] S ρ S7 ρ := fA.mono (fun a ha => by simp at ha ⊢; omega)
  have n14 : ∀ r, r < tU zT → r ≠ 14 → ad r ≠ ad 14 := fun r hr q => sh_ne hSh hr (by decide +kernel) q
  have a14 : zA S7 (ad 14) = upd (zA S (ad 14)) n (nI (lGn n)) := by rw [e7]; exact zA_zsA _ _ _
  have a13 : zA S7 (ad 13) = upd (zA S (ad 13)) n (nI cn) := by
    rw [e7, zA_ne _ _ (sh_ne hSh (r := 13) (r2 := 14) (by decide +kernel) (by decide +kernel) (by decide)), e6, zA_I, e5, zA_ne _ _ (sh_ne hSh (r := 13) (r2 := 16) (by decide +kernel) (by decide +kernel) (by decide)), e4, zA_ne _ _ (sh_ne hSh (r := 13) (r2 := 12) (by decide +kernel) (by decide +kernel) (by decide)), e3]
    exact zA_zsA _ _ _
  have a12 : zA S7 (ad 12) = cod := by
    rw [e7, zA_ne _ _ (sh_ne hSh (r := 12) (r2 := 14) (by decide +kernel) (by decide +kernel) (by decide)), e6, zA_I, e5, zA_ne _ _ (sh_ne hSh (r := 12) (r2 := 16) (by decide +kernel) (by decide +kernel) (by decide)), e4]
    exact zA_zsA _ _ _
  have i28 : zI S7 305 (ad 10) = nI (cn + lGn n) := by
    rw [e7, zI_A, e6]
    exact zI_at
  have hx := hW.2
  have x1 : XI1 ad S7 := by
    have hx1 := hx.1
    unfold XI1 at hx1 ⊢
    rw [fF.2 11 (by decide +kernel) (by decide) 0, zcm_c (fun i => fF.2 21 (by decide +kernel) (by decide) i)]
    exact hx1
  have hcc : RGv zT ad S 28 0 = (cn : Int) := by rw [rg_28, hcn, nI_toInt (by omega)]
  have x2 : XI2 ad S7 := by
    refine ⟨?_, ?_⟩
    · have hL := hx.2.1
      rw [hcc] at hL
      have e28 : RGv zT ad S7 28 0 = (cn : Int) + (lGn n : Int) := by rw [rg_28, i28, nI_toInt (by omega)]; omega
      rw [e28]
      refine LIs_up hL h1 h8 ?_ (fun k q => ?_) ?_ (fun k q => ?_) ?_ (fun k hk => ?_) (fun i hi => ?_)
      · show RGv zT ad S 31 (n : Int) = 0
        rw [rg_31, hc0]; rfl
      · show RGv zT ad S7 31 (k : Int) = RGv zT ad S 31 (k : Int)
        rw [rg_31, rg_31, a14, upd_no _ _ q]
      · show RGv zT ad S7 31 (n : Int) = (lGn n : Int)
        rw [rg_31, a14, upd_at, nI_toInt (by omega)]
      · show RGv zT ad S7 32 (k : Int) = RGv zT ad S 32 (k : Int)
        rw [rg_32, rg_32, a13, upd_no _ _ q]
      · show RGv zT ad S7 32 (n : Int) = (cn : Int)
        rw [rg_32, a13, upd_at, nI_toInt (by omega)]
      · show RGv zT ad S7 33 (k : Int) = RGv zT ad S 33 (k : Int)
        rw [rg_33, rg_33, a12, hk1 k (by omega)]
      · show RGv zT ad S7 33 (((cn : Int).toNat + i : Nat) : Int) = _
        rw [rg_33, a12, Int.toNat_natCast, hk2 i hi]
    · have e34 : (fun n : Nat => RGv zT ad S7 34 (n : Int)) = (fun n : Nat => RGv zT ad S 34 (n : Int)) := funext fun n => fF.2 34 (by decide +kernel) (by decide) (n : Int)
      rw [e34, fF.2 9 (by decide +kernel) (by decide) 0, fF.2 8 (by decide +kernel) (by decide) 0]
      exact hx.2.2
  exact ⟨⟨t7, x1, x2⟩, hC.fr hT fF (fun gi G hG c hc => by
      have : zCG.all (fun G => G.1.all (fun c => !(nin c.1 [28, 29, 31, 32, 33]))) = true := by decide +kernel
      have h2 := List.all_eq_true.mp (List.all_eq_true.mp this G (List.mem_of_getElem? hG)) c hc
      intro q
      rw [nin_iff.mpr q] at h2
      exact absurd h2 (by decide)), fF⟩
def PCt (ad : Nat → Nat) (n : Nat) (S0 : zS) (ρ0 : Nat → Nat) : Option Value → zS → (Nat → Nat) → Prop := fun rv S1 ρ1 => rv = some (.int (nI (cG n n []).length)) ∧ WCF ad [28, 29, 31, 32, 33] S0 ρ0 S1 ρ1 ∧ zA S1 (ad 14) n = nI (cG n n []).length
theorem cl_count {n0_ : Nat} (hb0 : bndN neg0) (hM : MX xs cD cy A p s m args c cc nL Ts RX11) (hA : ∀ q, s.heap.size ≤ q → A q) (hV : WCF ad [28, 29, 31, 32, 33] S0 ρ0 S ρ) (hw : zPw cD cy A s.heap S H locs) (hn1 : 1 ≤ n0_) (hn8 : n0_ ≤ 8) (hR : 12 ≤ R.frames ∧ cells ≤ R.cells ∧ slots ≤ R.slots ∧ 276 ≤ R.locals) (hst : (rest.map fun v => v.category).sum ≤ 8) (hls : ls.size = nL) (hd : decode cc pc = .ok (.invokevirtual 350, 3)) (k : ∀ (S1 : zS) (ρ1 : Nat → Nat) (H1 : Heap) (locs1 : List Loc), WCF ad [28, 29, 31, 32, 33] S0 ρ0 S1 ρ1 → zA S1 (ad 14) n0_ = nI (cG n0_ n0_ []).length → zPw cD cy A s.heap S1 H1 locs1 → W p l e R s m args below meth c H1 locs1 cells slots Q (F0 m (pc + 3) ls (.int (nI (cG n0_ n0_ []).length) :: rest))) : W p l e R s m args below meth c H locs cells slots Q (F0 m pc ls (.int (nI n0_) :: .ref (ad 10) :: rest)) := by
  have hSh := sh_of hV.1.1
  have hb := lGn_b hn1 hn8
  have hL := hV.1.2.2.1
  have rcv : RcvOK 3 S xs [.ref (ad 10), .int (nI n0_)] := Or.inr (Or.inl ⟨by decide, _, _, rfl, sh_L hSh (r := 10) (by decide +kernel), sh_K hSh (r := 10) (by decide +kernel) rfl⟩)
  rcases hL.2 n0_ hn1 hn8 with z | ⟨z1, z2, z3, z4⟩
  · have z : RGv zT ad S 31 (n0_ : Int) = 0 := z
    rw [rg_31] at z
    have hc0 : zA S (ad 14) n0_ = 0 := Int32.toInt_inj.mp z
    have hs := lGn_s (f := fun n : Nat => RGv zT ad S 31 (n : Int)) hn1 hn8 (by show RGv zT ad S 31 (n0_ : Int) = 0; rw [rg_31]; exact z)
    have hcc := hL.1
    obtain ⟨cn, ecn⟩ : ∃ cn : Nat, (cn : Int) = RGv zT ad S 28 0 := ⟨(RGv zT ad S 28 0).toNat, by omega⟩
    have hcn : zI S 305 (ad 10) = nI cn := nI_ti (by rw [ecn]; rfl) (by omega)
    have hrun := rl_RX11_2_350_3 p l e R s m args below meth c H locs cells slots xs cD cy A cc nL Ts S pc ls rest _ _ _ 0 0 _ hM hw rfl rcv (c_X3_countOf_1 (xs := xs) l cD cy _ S hSh n0_ hn1 hn8 cn hc0 hcn (by show cn + lGn n0_ ≤ 2100; omega)) rfl rfl hR.1 hR.2.2.2 hst hd ⟨hR.2.1, hR.2.2.1⟩ hls
    refine z_call hw hA hrun (fun rv S1 ρ1 H1 locs1 hp hw1 => ?_)
    obtain ⟨v, rfl, cod, po, la, rfl, hk1, hk2, rfl⟩ := hp
    have hk := cnt_wld (n := n0_) (cn := cn) (po := po) (cod := cod) (la := la) hb0 hV.1 hV.2.1 hn1 hn8 hc0 hcn (by omega) hk1 hk2
    exact k _ ρ H1 locs1 (wcf_tr hV hk) (by rw [zA_zsA]; exact upd_at _ _ _) hw1
  · have z1 : RGv zT ad S 31 (n0_ : Int) = (lGn n0_ : Int) := z1
    rw [rg_31] at z1
    have hct : zA S (ad 14) n0_ = nI (cG n0_ n0_ []).length := nI_ti z1 (by show lGn n0_ < 2 ^ 31; omega)
    have hrun := rl_RX11_2_350_3 p l e R s m args below meth c H locs cells slots xs cD cy A cc nL Ts S pc ls rest _ _ _ 0 0 _ hM hw rfl rcv (c_X3_countOf_2 (xs := xs) l cD cy _ S hSh n0_ hn1 hn8 (nI (cG n0_ n0_ []).length) (nI_ne0 (by show 0 < lGn n0_; omega) (by show lGn n0_ < 2 ^ 31; omega)) hct) rfl rfl (show 0 + 1 ≤ R.frames by omega) (show 8 + (2 + 11) + 0 ≤ R.locals by omega) hst hd ⟨hR.2.1, hR.2.2.1⟩ hls
    refine z_call hw hA hrun (fun rv S1 ρ1 H1 locs1 hp hw1 => ?_)
    obtain ⟨v, rfl, rfl, rfl⟩ := hp
    exact k S ρ H1 locs1 hV hct hw1
theorem cl_leaf {n0_ i0 p0 : Nat} (hM : MX xs cD cy A p s m args c cc nL Ts RX11) (hA : ∀ q, s.heap.size ≤ q → A q) (hV : WCF ad [28, 29, 31, 32, 33] S0 ρ0 S ρ) (hct : zA S (ad 14) n0_ = nI (cG n0_ n0_ []).length) (hw : zPw cD cy A s.heap S H locs) (hn1 : 1 ≤ n0_) (hn8 : n0_ ≤ 8) (hi0 : i0 < (cG n0_ n0_ []).length) (hp0 : p0 < n0_) (hR : 2 ≤ R.frames ∧ cells ≤ R.cells ∧ slots ≤ R.slots ∧ 45 ≤ R.locals) (hst : (rest.map fun v => v.category).sum ≤ 8) (hls : ls.size = nL) (hd : decode cc pc = .ok (.invokevirtual 353, 3)) (k : ∀ (H1 : Heap) (locs1 : List Loc), zPw cD cy A s.heap S H1 locs1 → W p l e R s m args below meth c H1 locs1 cells slots Q (F0 m (pc + 3) ls (.int (nI (((cG n0_ n0_ []).getD i0 []).getD p0 0)) :: rest))) : W p l e R s m args below meth c H locs cells slots Q (F0 m pc ls (.int (nI p0) :: .int (nI i0) :: .int (nI n0_) :: .ref (ad 10) :: rest)) := by
  have hSh := sh_of hV.1.1
  have hb := lGn_b hn1 hn8
  have hL := hV.1.2.2.1
  have rcv : RcvOK 3 S xs [.ref (ad 10), .int (nI n0_), .int (nI i0), .int (nI p0)] := Or.inr (Or.inl ⟨by decide, _, _, rfl, sh_L hSh (r := 10) (by decide +kernel), sh_K hSh (r := 10) (by decide +kernel) rfl⟩)
  rcases hL.2 n0_ hn1 hn8 with z | ⟨z1, z2, z3, z4⟩
  · exfalso
    have z : RGv zT ad S 31 (n0_ : Int) = 0 := z
    rw [rg_31, hct] at z
    have z2 : (nI (lGn n0_)).toInt = 0 := z
    rw [nI_toInt (by omega)] at z2
    omega
  · have z2 : 0 ≤ RGv zT ad S 32 (n0_ : Int) := z2
    have z3 : RGv zT ad S 32 (n0_ : Int) + (lGn n0_ : Int) ≤ RGv zT ad S 28 0 := z3
    have z4 : ∀ i, i < lGn n0_ → RGv zT ad S 33 (((RGv zT ad S 32 (n0_ : Int)).toNat + i : Nat) : Int) = (cdI ((cG n0_ n0_ []).getD i [])).toInt := z4
    have hcb := (ty_cel hV.1.1 (r := 10) (by decide +kernel) rfl).2.2.2.2.1 (by decide) 5 _ rfl
    have hcb : (0 : Int) ≤ (zI S 305 (ad 10)).toInt ∧ (zI S 305 (ad 10)).toInt ≤ 2100 := hcb
    rw [rg_28] at z3
    obtain ⟨f0, ef0⟩ : ∃ f0 : Nat, (f0 : Int) = RGv zT ad S 32 (n0_ : Int) := ⟨(RGv zT ad S 32 (n0_ : Int)).toNat, by omega⟩
    have hfb : f0 + (cG n0_ n0_ []).length ≤ 2100 := by show f0 + lGn n0_ ≤ 2100; omega
    have hfr : zA S (ad 13) n0_ = nI f0 := nI_ti (by rw [ef0, rg_32]) (by omega)
    have hcod : ∀ i_, i_ < (cG n0_ n0_ []).length → zA S (ad 12) (f0 + i_) = cdI ((cG n0_ n0_ []).getD i_ []) := fun i_ hi => by
      have := z4 i_ hi
      rw [← ef0, Int.toNat_natCast, rg_33] at this
      exact Int32.toInt_inj.mp this
    have hrun := rl_RX11_2_353_3 p l e R s m args below meth c H locs cells slots xs cD cy A cc nL Ts S pc ls rest _ _ _ 0 0 _ hM hw rfl rcv (c_X3_leafOf (xs := xs) l cD cy _ S hSh n0_ hn1 hn8 i0 p0 hi0 hp0 hb.2 hb.1 f0 hfb hfr hct hcod) rfl rfl (show 1 + 1 ≤ R.frames by omega) (show 8 + (5 + 11) + 21 ≤ R.locals by omega) hst hd ⟨hR.2.1, hR.2.2.1⟩ hls
    refine z_call hw hA hrun (fun rv S1 ρ1 H1 locs1 hp hw1 => ?_)
    obtain ⟨v, rfl, rfl, rfl⟩ := hp
    exact k H1 locs1 hw1
/-- what finds leaves -/
theorem fnd_wld {n : Nat} {lf av fo : Nat → Int32} (hb0 : bndN neg0) (hW : Wld zT ad (zXI ad) S ρ) (hC : CoupX zT ad S (fun _ => 0) []) (h1 : 1 ≤ n) (h8 : n ≤ 8) (hfo : ∀ i, i < lGn n → ∀ k, k < n → fo (8 * i + k) = nI (((cG n n []).getD i []).getD k 0)) :
    WCF ad [8, 9, 34] S ρ (zsI (zsA (zsA (zsA (zsI (zsI S 1249 (ad 17) (nI n)) 1250 (ad 17) (nI 0)) (ad 50) lf) (ad 51) av) (ad 52) fo) 1250 (ad 17) (nI (lGn n))) ρ := by
  have hT := zT_ok (ad := ad) hb0
  have hb := lGn_b h1 h8
  have hSh := sh_of hW.1
  have u : ∀ r, r < tU zT → ρ (ad r) = r := fun r hr => (hW.1.2.1 r hr).2
  obtain ⟨S1, e1⟩ : ∃ z, z = zsI S 1249 (ad 17) (nI n) := ⟨_, rfl⟩
  obtain ⟨S2, e2⟩ : ∃ z, z = zsI S1 1250 (ad 17) (nI 0) := ⟨_, rfl⟩
  obtain ⟨S3, e3⟩ : ∃ z, z = zsA S2 (ad 50) lf := ⟨_, rfl⟩
  obtain ⟨S4, e4⟩ : ∃ z, z = zsA S3 (ad 51) av := ⟨_, rfl⟩
  obtain ⟨S5, e5⟩ : ∃ z, z = zsA S4 (ad 52) fo := ⟨_, rfl⟩
  obtain ⟨S6, e6⟩ : ∃ z, z = zsI S5 1250 (ad 17) (nI (lGn n)) := ⟨_, rfl⟩
  rw [← e1, ← e2, ← e3, ← e4, ← e5, ← e6]
  have t1 : Typed zT ad S1 ρ := by
    rw [e1]
    exact ty_pI (r := 17) (f := 49) (k := 12) hW.1 (u 17 (by decide +kernel)) rfl rfl rfl ⟨Int32.le_toInt _, by
      show (nI n).toInt ≤ 2147483647
      rw [nI_toInt (by omega)]; omega⟩
  have t2 : Typed zT ad S2 ρ := by rw [e2]; exact ty_I50 (by omega) t1
  have t3 : Typed zT ad S3 ρ := by rw [e3]; exact ty_A50 t2
  have t4 : Typed zT ad S4 ρ := by rw [e4]; exact ty_A51 t3
  have t5 : Typed zT ad S5 ρ := by rw [e5]; exact ty_A52 t4
  have t6 : Typed zT ad S6 ρ := by rw [e6]; exact ty_I50 (by omega) t5
  have f1 : Fr zT ad [9] S ρ S1 ρ := by
    have := fr_I (ad := ad) (gh := ghN (zC ad) neg0) (XI := zXI ad) (x := nI n) (j := 1249) (a := ad 17) (rs := [17]) hT hW.1 (by rw [u 17 (by decide +kernel)]; exact List.mem_cons_self)
    rw [show tch zT [17] false 1249 = [9] by decide +kernel, ← e1] at this; exact this
  have f2 : Fr zT ad [8] S1 ρ S2 ρ := by
    have := fr_I (ad := ad) (gh := ghN (zC ad) neg0) (XI := zXI ad) (x := nI 0) (j := 1250) (a := ad 17) (rs := [17]) hT t1 (by rw [u 17 (by decide +kernel)]; exact List.mem_cons_self)
    rw [show tch zT [17] false 1250 = [8] by decide +kernel, ← e2] at this; exact this
  have f3 : Fr zT ad [] S2 ρ S3 ρ := by
    have := fr_A (ad := ad) (gh := ghN (zC ad) neg0) (XI := zXI ad) (rs := [50]) (f := lf) hT t2 (a := ad 50) (by rw [u 50 (by decide +kernel)]; exact List.mem_cons_self)
    rw [show tch zT [50] true 0 = [] by decide +kernel, ← e3] at this; exact this
  have f4 : Fr zT ad [] S3 ρ S4 ρ := by
    have := fr_A (ad := ad) (gh := ghN (zC ad) neg0) (XI := zXI ad) (rs := [51]) (f := av) hT t3 (a := ad 51) (by rw [u 51 (by decide +kernel)]; exact List.mem_cons_self)
    rw [show tch zT [51] true 0 = [] by decide +kernel, ← e4] at this; exact this
  have f5 : Fr zT ad [34] S4 ρ S5 ρ := by
    have := fr_A (ad := ad) (gh := ghN (zC ad) neg0) (XI := zXI ad) (rs := [52]) (f := fo) hT t4 (a := ad 52) (by rw [u 52 (by decide +kernel)]; exact List.mem_cons_self)
    rw [show tch zT [52] true 0 = [34] by decide +kernel, ← e5] at this; exact this
  have f6 : Fr zT ad [8] S5 ρ S6 ρ := by
    have := fr_I (ad := ad) (gh := ghN (zC ad) neg0) (XI := zXI ad) (x := nI (lGn n)) (j := 1250) (a := ad 17) (rs := [17]) hT t5 (by rw [u 17 (by decide +kernel)]; exact List.mem_cons_self)
    rw [show tch zT [17] false 1250 = [8] by decide +kernel, ← e6] at this; exact this
  have fA := f1.trans (f2.trans (f3.trans (f4.trans (f5.trans f6))))
  have fF : Fr zT ad [8, 9, 34] S ρ S6 ρ := fA.mono (fun a ha => by simp at ha ⊢; omega)
  have a52 : zA S6 (ad 52) = fo := by rw [e6, zA_I, e5]; exact zA_zsA _ _ _
  have i8 : zI S6 1250 (ad 17) = nI (lGn n) := by rw [e6]; exact zI_at
  have i9 : zI S6 1249 (ad 17) = nI n := by
    rw [e6, zI_nj (by decide), e5, zI_A, e4, zI_A, e3, zI_A, e2, zI_nj (by decide), e1]
    exact zI_at
  have hx := hW.2
  have x1 : XI1 ad S6 := by
    have hx1 := hx.1
    unfold XI1 at hx1 ⊢
    rw [fF.2 11 (by decide +kernel) (by decide) 0, zcm_c (fun i => fF.2 21 (by decide +kernel) (by decide) i)]
    exact hx1
  have x2 : XI2 ad S6 := by
    refine ⟨?_, ?_⟩
    · have e31 : (fun n : Nat => RGv zT ad S6 31 (n : Int)) = (fun n : Nat => RGv zT ad S 31 (n : Int)) := funext fun n => fF.2 31 (by decide +kernel) (by decide) (n : Int)
      have e32 : (fun n : Nat => RGv zT ad S6 32 (n : Int)) = (fun n : Nat => RGv zT ad S 32 (n : Int)) := funext fun n => fF.2 32 (by decide +kernel) (by decide) (n : Int)
      have e33 : (fun n : Nat => RGv zT ad S6 33 (n : Int)) = (fun n : Nat => RGv zT ad S 33 (n : Int)) := funext fun n => fF.2 33 (by decide +kernel) (by decide) (n : Int)
      rw [e31, e32, e33, fF.2 28 (by decide +kernel) (by decide) 0]
      exact hx.2.1
    · refine Or.inr ⟨n, h1, h8, ?_, ?_, fun i hi k hk => ?_⟩
      · rw [rg_9, i9, nI_toInt (by omega)]
      · rw [rg_8, i8, nI_toInt (by omega)]
      · show RGv zT ad S6 34 ((8 * i + k : Nat) : Int) = _
        rw [rg_34, a52, hfo i hi k hk, nI_toInt]
        have := getD_lt (P := (cG n n []).getD i []) (b := n) (by omega) (cG_at hi).2 k
        omega
  exact ⟨⟨t6, x1, x2⟩, hC.fr hT fF (fun gi G hG c hc => by
      have : zCG.all (fun G => G.1.all (fun c => !(nin c.1 [8, 9, 34]))) = true := by decide +kernel
      have h2 := List.all_eq_true.mp (List.all_eq_true.mp this G (List.mem_of_getElem? hG)) c hc
      intro q
      rw [nin_iff.mpr q] at h2
      exact absurd h2 (by decide)), fF⟩
def PFd (ad : Nat → Nat) (n : Nat) (S0 : zS) (ρ0 : Nat → Nat) : Option Value → zS → (Nat → Nat) → Prop := fun rv S1 ρ1 => rv = none ∧ WCF ad [8, 9, 34] S0 ρ0 S1 ρ1 ∧ zI S1 1250 (ad 17) = nI (cG n n []).length ∧ ∀ i, i < (cG n n []).length → ∀ k, k < n → zA S1 (ad 52) (8 * i + k) = nI (((cG n n []).getD i []).getD k 0)
set_option maxHeartbeats 1000000 in
theorem c_X12_finds (hb0 : bndN neg0) (l : Launch) (cD : va_G) (cy : Nat → ClassId) (sz_ : Nat) (S : zS) (hW : Wld zT ad (zXI ad) S ρ) (hC : CoupX zT ad S (fun _ => 0) []) (n : Nat) (hn1 : 1 ≤ n) (hn8 : n ≤ 8) : Met l yX12_finds (Cond.code yX12_finds cX12_finds 2 none :: TB) ({ frames := 12, cells := 0, slots := 0, locals := 400 } : Room) (va_Pc [.ref (ad 17), .int (nI n)] (zPre xs cD cy S sz_)) (QX cD cy (PFd ad n S ρ) (zAd cy S sz_)) 0 0 (zAd cy S sz_) := by
  have hSh := sh_of hW.1
  have hb := lGn_b hn1 hn8
  refine z_ofW (QQ := QX cD cy (PFd ad n S ρ)) (own := RX12) (by decide +kernel) rfl rfl (Nat.le_of_ble_eq_true rfl) ?_
  intro p e s m args below meth c A ls hcf hr hlk hnm hK hE hZ hw hA hl
  have hM : MX xs cD cy A p s m args c cX12_finds 2 (Cond.code yX12_finds cX12_finds 2 none :: TB) RX12 := ⟨hcf, fun w hw => List.mem_cons_of_mem _ hw, hK, hE, hZ, hA⟩
  have hx := hcf.1
  have hb_ := hcf.2.1
  have hl : lv_has ls 2 [(0, .ref (ad 17)), (1, .int (nI n))] := hl
  refine lv_aload_n hx hb_ dX12_finds_0 rfl (lv_at hl 0 rfl) ?_
  refine gi_RX12_335_49 (x := zI S 1249 (ad 17)) hM hSh hw rfl dX12_finds_1 ?_
  refine lv_iload_n hx hb_ dX12_finds_4 rfl (lv_at hl 1 rfl) ?_
  refine lv_icmp_ne (tgt := 9) hx hb_ dX12_finds_5 (by decide) (fun _ => ?_) (fun hc => ?_)
  · refine lv_aload_n hx hb_ dX12_finds_9 rfl (lv_at hl 0 rfl) ?_
    refine lv_iload_n hx hb_ dX12_finds_10 rfl (lv_at hl 1 rfl) ?_
    refine pi_RX12_335_49 hM hSh hw dX12_finds_11 (fun H1 locs1 hw1 => ?_)
    have t1 : Typed zT ad (zsI S 1249 (ad 17) (nI n)) ρ := ty_pI (r := 17) (f := 49) (k := 12) hW.1 (hW.1.2.1 17 (by decide +kernel)).2 rfl rfl rfl ⟨Int32.le_toInt _, by
      show (nI n).toInt ≤ 2147483647
      rw [nI_toInt (by omega)]; omega⟩
    refine lv_aload_n hx hb_ dX12_finds_14 rfl (lv_at hl 0 rfl) ?_
    refine lv_iconst (v := nI 0) hx hb_ dX12_finds_15 (by decide) ?_
    refine pi_RX12_328_50 hM (sh_of t1) hw1 dX12_finds_16 (fun H2 locs2 hw2 => ?_)
    have t2 : Typed zT ad (zsI (zsI S 1249 (ad 17) (nI n)) 1250 (ad 17) (nI 0)) ρ := ty_I50 (by omega) t1
    refine lv_aload_n hx hb_ dX12_finds_19 rfl (lv_at hl 0 rfl) ?_
    refine lv_iconst (v := nI 0) hx hb_ dX12_finds_20 (by decide) ?_
    refine lv_iload_n hx hb_ dX12_finds_21 rfl (lv_at hl 1 rfl) ?_
    refine lv_iconst (v := nI 0) hx hb_ dX12_finds_22 (by decide) ?_
    have hmet := c_X12_goes (xs := xs) l cD cy n (by omega) n H2.size _ t2 0 0 [] (Nat.zero_add _) (by decide) (fun k_ hk => by simp [nbit]) List.nodup_nil (fun x_ hx => absurd hx List.not_mem_nil) zI_at (by rw [mG_cG]; show 0 + lGn n ≤ 1392; omega) (fun k_ hk => absurd hk (Nat.not_lt_zero k_)) (fun x_ hx => absurd hx List.not_mem_nil)
    have c17b := ty_cel t2 (r := 17) (by decide +kernel) rfl
    have hrun := rl_RX12_2_331_12 p l e { frames := 12, cells := 0, slots := 0, locals := 400 } s m args below meth c H2 locs2 0 0 xs cD cy A cX12_finds 2 _ _ 23 ls [] [.ref (ad 17), .int (nI ([] : List Nat).length), .int (nI n), .int (nI 0)] _ _ 0 0 _ hM hw2 rfl (Or.inr (Or.inl ⟨by decide, _, _, rfl, c17b.1, c17b.2.2.1⟩)) hmet rfl rfl (by show n + 1 + 1 ≤ 12; omega) (by show 8 + (5 + 11) + (24 * n + 27) ≤ 400; omega) (show (0 : Nat) ≤ 8 by decide) dX12_finds_23 ⟨Nat.le_refl _, Nat.le_refl _⟩ hl.1
    refine z_call hw2 hA hrun (fun rv S3 ρ3 H3 locs3 hp hw3 => ?_)
    obtain ⟨rfl, lf, av, fo, rfl, -, -, -, g4⟩ := hp
    rw [mG_cG] at hw3 g4
    have g4 : ∀ i, i < lGn n → ∀ k, k < n → fo (8 * i + k) = nI (((cG n n []).getD i []).getD k 0) := fun i hi k hk => by
      have := g4 i hi k hk
      rwa [Nat.zero_add] at this
    rw [show 0 + (cG n n []).length = lGn n from Nat.zero_add _] at hw3
    have hk := fnd_wld (n := n) (lf := lf) (av := av) (fo := fo) hb0 hW hC hn1 hn8 g4
    exact z_vretQ (ρ1 := ρ) hcf hr hlk hw3 ⟨rfl, hk, zI_at, fun i hi k hk2 => by rw [zA_I, zA_zsA]; exact g4 i hi k hk2⟩ dX12_finds_26
  · have hm := hW.2.2.2
    rcases hm with z | ⟨n2, z1, z2, z3, z4, z5⟩
    · exfalso
      rw [rg_9, hc, nI_toInt (by omega)] at z
      omega
    · rw [rg_9, hc, nI_toInt (by omega)] at z3
      have en : n2 = n := by omega
      subst en
      refine z_vretQ (ρ1 := ρ) hcf hr hlk hw ⟨rfl, ⟨hW, hC, ⟨fun b hb => ⟨hb, rfl⟩, fun _ _ _ _ => rfl⟩⟩, nI_ti (by rw [← rg_8, z4]; rfl) (by show lGn n2 < 2 ^ 31; omega), fun i hi k hk => ?_⟩ dX12_finds_8
      have this : RGv zT ad S 34 ((8 * i + k : Nat) : Int) = ((((cG n2 n2 []).getD i []).getD k 0 : Nat) : Int) := z5 i hi k hk
      rw [rg_34] at this
      have hlt := getD_lt (P := (cG n2 n2 []).getD i []) (b := n2) (by omega) (cG_at hi).2 k
      exact nI_ti this (by omega)
theorem cl_finds {n0_ : Nat} (hb0 : bndN neg0) (hM : MX xs cD cy A p s m args c cc nL Ts RX12) (hA : ∀ q, s.heap.size ≤ q → A q) (hV : WCF ad [8, 9, 34] S0 ρ0 S ρ) (hw : zPw cD cy A s.heap S H locs) (hn1 : 1 ≤ n0_) (hn8 : n0_ ≤ 8) (hR : 13 ≤ R.frames ∧ cells ≤ R.cells ∧ slots ≤ R.slots ∧ 421 ≤ R.locals) (hst : (rest.map fun v => v.category).sum ≤ 8) (hls : ls.size = nL) (hd : decode cc pc = .ok (.invokevirtual 338, 3)) (k : ∀ (S1 : zS) (ρ1 : Nat → Nat) (H1 : Heap) (locs1 : List Loc), WCF ad [8, 9, 34] S0 ρ0 S1 ρ1 → zI S1 1250 (ad 17) = nI (cG n0_ n0_ []).length → (∀ i, i < (cG n0_ n0_ []).length → ∀ k, k < n0_ → zA S1 (ad 52) (8 * i + k) = nI (((cG n0_ n0_ []).getD i []).getD k 0)) → zPw cD cy A s.heap S1 H1 locs1 → W p l e R s m args below meth c H1 locs1 cells slots Q (F0 m (pc + 3) ls rest)) : W p l e R s m args below meth c H locs cells slots Q (F0 m pc ls (.int (nI n0_) :: .ref (ad 17) :: rest)) := by
  have hSh := sh_of hV.1.1
  have rcv : RcvOK 12 S xs [.ref (ad 17), .int (nI n0_)] := Or.inr (Or.inl ⟨by decide, _, _, rfl, sh_L hSh (r := 17) (by decide +kernel), sh_K hSh (r := 17) (by decide +kernel) rfl⟩)
  have hrun := rl_RX12_2_338_12 p l e R s m args below meth c H locs cells slots xs cD cy A cc nL Ts S pc ls rest _ _ _ 0 0 _ hM hw rfl rcv (c_X12_finds (xs := xs) hb0 l cD cy _ S hV.1 hV.2.1 n0_ hn1 hn8) rfl rfl hR.1 hR.2.2.2 hst hd ⟨hR.2.1, hR.2.2.1⟩ hls
  refine z_call hw hA hrun (fun rv S1 ρ1 H1 locs1 hp hw1 => ?_)
  obtain ⟨rfl, hk, h1, h2⟩ := hp
  exact k S1 ρ1 H1 locs1 (wcf_tr hV hk) h1 h2 hw1
end KPT
set_option maxHeartbeats 1000000 in
set_option maxRecDepth 100000 in
theorem c_X11_orders {xs ad : Nat → Nat} {ρ : Nat → Nat} {neg0 : Int → Int} {Post : Option Value → zS → (Nat → Nat) → Prop} (hb0 : bndN neg0) (lau : Launch) (cD : va_G) (cy : Nat → ClassId) (sz_ : Nat) (S_ : zS) (hV : WCF ad [28, 29, 31, 32, 33] S_ ρ S_ ρ) (n_ : Int32) (hP : ∀ rv S1 ρ1, PW ad [28, 29, 31, 32, 33] S_ ρ (q_orders n_) rv S1 ρ1 → Post rv S1 ρ1) : Met lau yX11_orders (Cond.code yX11_orders cX11_orders 2 (some .int) :: TB) ({ frames := 12, cells := 0, slots := 0, locals := 276 } : Room) (va_Pc [.ref (ad 0), .int n_] (zPre xs cD cy S_ sz_)) (QX cD cy Post (zAd cy S_ sz_)) 0 0 (zAd cy S_ sz_) := by
  refine z_ofW (QQ := QX cD cy Post) (own := RX11) (by decide +kernel) rfl rfl (Nat.le_of_ble_eq_true rfl) ?_
  intro p_ e_ s_ m_ args_ below_ meth_ c_ A_ ls hcf hr hlk hnm hK_ hE hZ hw hA hl
  have hM : MX xs cD cy A_ p_ s_ m_ args_ c_ cX11_orders 2 (Cond.code yX11_orders cX11_orders 2 (some .int) :: TB) RX11 := ⟨hcf, fun w hw => List.mem_cons_of_mem _ hw, hK_, hE, hZ, hA⟩
  obtain ⟨hx, hb_, hml, hown, hts⟩ := id hcf
  have hl : lv_has ls 2 [(0, .ref (ad 0)), (1, .int n_)] := hl
  refine lv_iload_n hx hb_ dX11_orders_0 rfl (lv_at hl 1 rfl) ?_
  refine lv_iconst (v := 1) hx hb_ dX11_orders_1 (by decide) ?_
  refine lv_icmp_lt (tgt := 11) hx hb_ dX11_orders_2 (by decide) (fun c_2 => ?_) (fun c_2 => ?_)
  · refine lv_aload_n hx hb_ dX11_orders_11 rfl (lv_at hl 0 rfl) ?_
    refine lv_bipush (v := (-6)) hx hb_ dX11_orders_12 (by decide) ?_
    refine cl_refuse hb0 hM hA hV hw ⟨by decide, by decide, by decide, by decide⟩ (show (0 : Nat) ≤ 8 by decide) hl.1 dX11_orders_14 (fun S1 ρ1 H_ locs_ hV hw => ?_)
    refine lv_goto (tgt := 28) hx hb_ dX11_orders_17 (by decide) ?_
    exact z_iretW (v := (-6)) hcf hr hlk hw hP hV (by simp [q_orders, c_2]) dX11_orders_28
  · refine lv_iload_n hx hb_ dX11_orders_5 rfl (lv_at hl 1 rfl) ?_
    refine lv_bipush (v := 8) hx hb_ dX11_orders_6 (by decide) ?_
    refine lv_icmp_le (tgt := 20) hx hb_ dX11_orders_8 (by decide) (fun c_8 => ?_) (fun c_8 => ?_)
    · obtain ⟨n0_, hn1, hn8, en⟩ := zx_of (a := 1) (b := 8) c_2 c_8 (by decide) (by decide)
      refine lv_aload_n hx hb_ dX11_orders_20 rfl (lv_at hl 0 rfl) ?_
      refine gs_RX11_50_9 hM (sh_of hV.1.1) hw dX11_orders_21 ?_
      refine lv_iload_n hx hb_ dX11_orders_24 rfl (lv_at hl 1 rfl) ?_
      refine z_topi (y := nI n0_) en ?_
      refine cl_count hb0 hM hA hV hw hn1 hn8 ⟨by decide, by decide, by decide, by decide⟩ (show (0 : Nat) ≤ 8 by decide) hl.1 dX11_orders_25 (fun S1 ρ1 H_ locs_ hV hct hw => ?_)
      exact z_iretW (v := (nI (cG n0_ n0_ []).length)) hcf hr hlk hw hP hV ((q_orders_in c_2 c_8 en hn8).symm) dX11_orders_28
    · refine lv_aload_n hx hb_ dX11_orders_11 rfl (lv_at hl 0 rfl) ?_
      refine lv_bipush (v := (-6)) hx hb_ dX11_orders_12 (by decide) ?_
      refine cl_refuse hb0 hM hA hV hw ⟨by decide, by decide, by decide, by decide⟩ (show (0 : Nat) ≤ 8 by decide) hl.1 dX11_orders_14 (fun S1 ρ1 H_ locs_ hV hw => ?_)
      refine lv_goto (tgt := 28) hx hb_ dX11_orders_17 (by decide) ?_
      exact z_iretW (v := (-6)) hcf hr hlk hw hP hV (by simp [q_orders, c_2, c_8]) dX11_orders_28
set_option maxHeartbeats 1000000 in
set_option maxRecDepth 100000 in
theorem c_X11_order {xs ad : Nat → Nat} {ρ : Nat → Nat} {neg0 : Int → Int} {Post : Option Value → zS → (Nat → Nat) → Prop} (hb0 : bndN neg0) (lau : Launch) (cD : va_G) (cy : Nat → ClassId) (sz_ : Nat) (S_ : zS) (hV : WCF ad [28, 29, 31, 32, 33] S_ ρ S_ ρ) (n_ io pq : Int32) (hP : ∀ rv S1 ρ1, PW ad [28, 29, 31, 32, 33] S_ ρ (q_order n_ io pq) rv S1 ρ1 → Post rv S1 ρ1) : Met lau yX11_order (Cond.code yX11_order cX11_order 4 (some .int) :: TB) ({ frames := 12, cells := 0, slots := 0, locals := 276 } : Room) (va_Pc [.ref (ad 0), .int n_, .int io, .int pq] (zPre xs cD cy S_ sz_)) (QX cD cy Post (zAd cy S_ sz_)) 0 0 (zAd cy S_ sz_) := by
  refine z_ofW (QQ := QX cD cy Post) (own := RX11) (by decide +kernel) rfl rfl (Nat.le_of_ble_eq_true rfl) ?_
  intro p_ e_ s_ m_ args_ below_ meth_ c_ A_ ls hcf hr hlk hnm hK_ hE hZ hw hA hl
  have hM : MX xs cD cy A_ p_ s_ m_ args_ c_ cX11_order 4 (Cond.code yX11_order cX11_order 4 (some .int) :: TB) RX11 := ⟨hcf, fun w hw => List.mem_cons_of_mem _ hw, hK_, hE, hZ, hA⟩
  obtain ⟨hx, hb_, hml, hown, hts⟩ := id hcf
  have hl : lv_has ls 4 [(0, .ref (ad 0)), (1, .int n_), (2, .int io), (3, .int pq)] := hl
  refine lv_iload_n hx hb_ dX11_order_0 rfl (lv_at hl 2 rfl) ?_
  refine lv_if_lt (tgt := 8) hx hb_ dX11_order_1 (by decide) (fun c_1 => ?_) (fun c_1 => ?_)
  · refine lv_aload_n hx hb_ dX11_order_8 rfl (lv_at hl 0 rfl) ?_
    refine lv_bipush (v := (-5)) hx hb_ dX11_order_9 (by decide) ?_
    refine cl_refuse hb0 hM hA hV hw ⟨by decide, by decide, by decide, by decide⟩ (show (0 : Nat) ≤ 8 by decide) hl.1 dX11_order_11 (fun S1 ρ1 H_ locs_ hV hw => ?_)
    exact z_iretW (v := (-5)) hcf hr hlk hw hP hV (by unfold q_order; rw [if_pos (Or.inl c_1)]) dX11_order_14
  · refine lv_iload_n hx hb_ dX11_order_4 rfl (lv_at hl 3 rfl) ?_
    refine lv_if_ge (tgt := 15) hx hb_ dX11_order_5 (by decide) (fun c_5 => ?_) (fun c_5 => ?_)
    · refine lv_iload_n hx hb_ dX11_order_15 rfl (lv_at hl 1 rfl) ?_
      refine lv_iconst (v := 1) hx hb_ dX11_order_16 (by decide) ?_
      refine lv_icmp_lt (tgt := 26) hx hb_ dX11_order_17 (by decide) (fun c_17 => ?_) (fun c_17 => ?_)
      · refine lv_aload_n hx hb_ dX11_order_26 rfl (lv_at hl 0 rfl) ?_
        refine lv_bipush (v := (-6)) hx hb_ dX11_order_27 (by decide) ?_
        refine cl_refuse hb0 hM hA hV hw ⟨by decide, by decide, by decide, by decide⟩ (show (0 : Nat) ≤ 8 by decide) hl.1 dX11_order_29 (fun S1 ρ1 H_ locs_ hV hw => ?_)
        exact z_iretW (v := (-6)) hcf hr hlk hw hP hV (by unfold q_order; rw [if_neg (fun z_ => z_.elim c_1 (fun q_ => absurd c_5 (by rw [zx_lt] at q_; rw [zx_le]; omega))), if_pos (by simp [c_17])]) dX11_order_32
      · refine lv_iload_n hx hb_ dX11_order_20 rfl (lv_at hl 1 rfl) ?_
        refine lv_bipush (v := 8) hx hb_ dX11_order_21 (by decide) ?_
        refine lv_icmp_le (tgt := 33) hx hb_ dX11_order_23 (by decide) (fun c_23 => ?_) (fun c_23 => ?_)
        · obtain ⟨n0_, hn1, hn8, en⟩ := zx_of (a := 1) (b := 8) c_17 c_23 (by decide) (by decide)
          have hlen := cG_len hn1 hn8
          refine lv_iload_n hx hb_ dX11_order_33 rfl (lv_at hl 3 rfl) ?_
          refine lv_iload_n hx hb_ dX11_order_34 rfl (lv_at hl 1 rfl) ?_
          refine lv_icmp_ge (tgt := 50) hx hb_ dX11_order_35 (by decide) (fun c_35 => ?_) (fun c_35 => ?_)
          · refine lv_aload_n hx hb_ dX11_order_50 rfl (lv_at hl 0 rfl) ?_
            refine lv_bipush (v := (-5)) hx hb_ dX11_order_51 (by decide) ?_
            refine cl_refuse hb0 hM hA hV hw ⟨by decide, by decide, by decide, by decide⟩ (show (0 : Nat) ≤ 8 by decide) hl.1 dX11_order_53 (fun S1 ρ1 H_ locs_ hV hw => ?_)
            exact z_iretW (v := (-5)) hcf hr hlk hw hP hV ((q_order_out c_1 (fun q_ => absurd c_5 (by rw [zx_lt] at q_; rw [zx_le]; omega)) c_17 c_23 en hn8 (Or.inl (fun q_ => absurd c_35 (by rw [zx_lt] at q_; rw [zx_le]; omega)))).symm) dX11_order_56
          · refine lv_iload_n hx hb_ dX11_order_38 rfl (lv_at hl 2 rfl) ?_
            refine lv_aload_n hx hb_ dX11_order_39 rfl (lv_at hl 0 rfl) ?_
            refine gs_RX11_50_9 hM (sh_of hV.1.1) hw dX11_order_40 ?_
            refine lv_iload_n hx hb_ dX11_order_43 rfl (lv_at hl 1 rfl) ?_
            refine z_topi (y := nI n0_) en ?_
            refine cl_count hb0 hM hA hV hw hn1 hn8 ⟨by decide, by decide, by decide, by decide⟩ (show (1 : Nat) ≤ 8 by decide) hl.1 dX11_order_44 (fun S1 ρ1 H_ locs_ hV hct hw => ?_)
            refine lv_icmp_lt (tgt := 57) hx hb_ dX11_order_47 (by decide) (fun c_47 => ?_) (fun c_47 => ?_)
            · obtain ⟨i0, hi31, ei0⟩ := nI_of c_1
              obtain ⟨p0, hp31, ep0⟩ := nI_of (x := pq) (by rw [zx_le] at c_5; rw [zx_lt]; exact Int.not_lt.mpr c_5)
              have hi0 : i0 < (cG n0_ n0_ []).length := by rw [ei0, nI_ltI hi31 (by omega)] at c_47; exact c_47
              have hp0 : p0 < n0_ := by rw [ep0, en, nI_leI (by omega) hp31] at c_35; omega
              refine lv_aload_n hx hb_ dX11_order_57 rfl (lv_at hl 0 rfl) ?_
              refine gs_RX11_50_9 hM (sh_of hV.1.1) hw dX11_order_58 ?_
              refine lv_iload_n hx hb_ dX11_order_61 rfl (lv_at hl 1 rfl) ?_
              refine lv_iload_n hx hb_ dX11_order_62 rfl (lv_at hl 2 rfl) ?_
              refine lv_iload_n hx hb_ dX11_order_63 rfl (lv_at hl 3 rfl) ?_
              refine W.eq (g2 := F0 m_ 64 ls [.int (nI p0), .int (nI i0), .int (nI n0_), .ref (ad 10)]) (by rw [ep0, ei0, en]) ?_
              refine cl_leaf hM hA hV hct hw hn1 hn8 hi0 hp0 ⟨by decide, by decide, by decide, by decide⟩ (show (0 : Nat) ≤ 8 by decide) hl.1 dX11_order_64 (fun H_ locs_ hw => ?_)
              exact z_iretW (v := (nI (((cG n0_ n0_ []).getD i0 []).getD p0 0))) hcf hr hlk hw hP hV ((q_order_in c_1 (fun q_ => absurd c_5 (by rw [zx_lt] at q_; rw [zx_le]; omega)) c_17 c_23 en hn8 ei0 hi31 ep0 hp0 c_47).symm) dX11_order_67
            · refine lv_aload_n hx hb_ dX11_order_50 rfl (lv_at hl 0 rfl) ?_
              refine lv_bipush (v := (-5)) hx hb_ dX11_order_51 (by decide) ?_
              refine cl_refuse hb0 hM hA hV hw ⟨by decide, by decide, by decide, by decide⟩ (show (0 : Nat) ≤ 8 by decide) hl.1 dX11_order_53 (fun S1 ρ1 H_ locs_ hV hw => ?_)
              exact z_iretW (v := (-5)) hcf hr hlk hw hP hV ((q_order_out c_1 (fun q_ => absurd c_5 (by rw [zx_lt] at q_; rw [zx_le]; omega)) c_17 c_23 en hn8 (Or.inr c_47)).symm) dX11_order_56
        · refine lv_aload_n hx hb_ dX11_order_26 rfl (lv_at hl 0 rfl) ?_
          refine lv_bipush (v := (-6)) hx hb_ dX11_order_27 (by decide) ?_
          refine cl_refuse hb0 hM hA hV hw ⟨by decide, by decide, by decide, by decide⟩ (show (0 : Nat) ≤ 8 by decide) hl.1 dX11_order_29 (fun S1 ρ1 H_ locs_ hV hw => ?_)
          exact z_iretW (v := (-6)) hcf hr hlk hw hP hV (by unfold q_order; rw [if_neg (fun z_ => z_.elim c_1 (fun q_ => absurd c_5 (by rw [zx_lt] at q_; rw [zx_le]; omega))), if_pos (by simp [c_17, c_23])]) dX11_order_32
    · refine lv_aload_n hx hb_ dX11_order_8 rfl (lv_at hl 0 rfl) ?_
      refine lv_bipush (v := (-5)) hx hb_ dX11_order_9 (by decide) ?_
      refine cl_refuse hb0 hM hA hV hw ⟨by decide, by decide, by decide, by decide⟩ (show (0 : Nat) ≤ 8 by decide) hl.1 dX11_order_11 (fun S1 ρ1 H_ locs_ hV hw => ?_)
      exact z_iretW (v := (-5)) hcf hr hlk hw hP hV (by unfold q_order; rw [if_pos (Or.inr (by rw [zx_le] at c_5; rw [zx_lt]; have z_ : (0 : Int32).toInt = 0 := rfl; omega))]) dX11_order_14
set_option maxHeartbeats 1000000 in
set_option maxRecDepth 100000 in
theorem c_X12_orders {xs ad : Nat → Nat} {ρ : Nat → Nat} {neg0 : Int → Int} {Post : Option Value → zS → (Nat → Nat) → Prop} (hb0 : bndN neg0) (lau : Launch) (cD : va_G) (cy : Nat → ClassId) (sz_ : Nat) (S_ : zS) (hV : WCF ad [8, 9, 34] S_ ρ S_ ρ) (n_ : Int32) (hP : ∀ rv S1 ρ1, PW ad [8, 9, 34] S_ ρ (q_orders n_) rv S1 ρ1 → Post rv S1 ρ1) : Met lau yX12_orders (Cond.code yX12_orders cX12_orders 2 (some .int) :: TB) ({ frames := 13, cells := 0, slots := 0, locals := 421 } : Room) (va_Pc [.ref (ad 17), .int n_] (zPre xs cD cy S_ sz_)) (QX cD cy Post (zAd cy S_ sz_)) 0 0 (zAd cy S_ sz_) := by
  refine z_ofW (QQ := QX cD cy Post) (own := RX12) (by decide +kernel) rfl rfl (Nat.le_of_ble_eq_true rfl) ?_
  intro p_ e_ s_ m_ args_ below_ meth_ c_ A_ ls hcf hr hlk hnm hK_ hE hZ hw hA hl
  have hM : MX xs cD cy A_ p_ s_ m_ args_ c_ cX12_orders 2 (Cond.code yX12_orders cX12_orders 2 (some .int) :: TB) RX12 := ⟨hcf, fun w hw => List.mem_cons_of_mem _ hw, hK_, hE, hZ, hA⟩
  obtain ⟨hx, hb_, hml, hown, hts⟩ := id hcf
  have hl : lv_has ls 2 [(0, .ref (ad 17)), (1, .int n_)] := hl
  refine lv_iload_n hx hb_ dX12_orders_0 rfl (lv_at hl 1 rfl) ?_
  refine lv_iconst (v := 1) hx hb_ dX12_orders_1 (by decide) ?_
  refine lv_icmp_lt (tgt := 11) hx hb_ dX12_orders_2 (by decide) (fun c_2 => ?_) (fun c_2 => ?_)
  · refine lv_aload_n hx hb_ dX12_orders_11 rfl (lv_at hl 0 rfl) ?_
    refine lv_bipush (v := (-6)) hx hb_ dX12_orders_12 (by decide) ?_
    refine cl_no hb0 hM hA hV hw ⟨by decide, by decide, by decide, by decide⟩ (by decide) (show (0 : Nat) ≤ 8 by decide) hl.1 dX12_orders_14 (fun S1 ρ1 H_ locs_ hV hw => ?_)
    exact z_iretW (v := (-6)) hcf hr hlk hw hP hV (by simp [q_orders, c_2]) dX12_orders_17
  · refine lv_iload_n hx hb_ dX12_orders_5 rfl (lv_at hl 1 rfl) ?_
    refine lv_bipush (v := 8) hx hb_ dX12_orders_6 (by decide) ?_
    refine lv_icmp_le (tgt := 18) hx hb_ dX12_orders_8 (by decide) (fun c_8 => ?_) (fun c_8 => ?_)
    · obtain ⟨n0_, hn1, hn8, en⟩ := zx_of (a := 1) (b := 8) c_2 c_8 (by decide) (by decide)
      refine lv_aload_n hx hb_ dX12_orders_18 rfl (lv_at hl 0 rfl) ?_
      refine lv_iload_n hx hb_ dX12_orders_19 rfl (lv_at hl 1 rfl) ?_
      refine z_topi (y := nI n0_) en ?_
      refine cl_finds hb0 hM hA hV hw hn1 hn8 ⟨by decide, by decide, by decide, by decide⟩ (show (0 : Nat) ≤ 8 by decide) hl.1 dX12_orders_20 (fun S1 ρ1 H_ locs_ hV hfm hfo hw => ?_)
      refine lv_aload_n hx hb_ dX12_orders_23 rfl (lv_at hl 0 rfl) ?_
      refine gi_RX12_328_50 (x := (nI (cG n0_ n0_ []).length)) hM (sh_of hV.1.1) hw hfm dX12_orders_24 ?_
      exact z_iretW (v := (nI (cG n0_ n0_ []).length)) hcf hr hlk hw hP hV ((q_orders_in c_2 c_8 en hn8).symm) dX12_orders_27
    · refine lv_aload_n hx hb_ dX12_orders_11 rfl (lv_at hl 0 rfl) ?_
      refine lv_bipush (v := (-6)) hx hb_ dX12_orders_12 (by decide) ?_
      refine cl_no hb0 hM hA hV hw ⟨by decide, by decide, by decide, by decide⟩ (by decide) (show (0 : Nat) ≤ 8 by decide) hl.1 dX12_orders_14 (fun S1 ρ1 H_ locs_ hV hw => ?_)
      exact z_iretW (v := (-6)) hcf hr hlk hw hP hV (by simp [q_orders, c_2, c_8]) dX12_orders_17
set_option maxHeartbeats 1000000 in
set_option maxRecDepth 100000 in
theorem c_X12_order {xs ad : Nat → Nat} {ρ : Nat → Nat} {neg0 : Int → Int} {Post : Option Value → zS → (Nat → Nat) → Prop} (hb0 : bndN neg0) (lau : Launch) (cD : va_G) (cy : Nat → ClassId) (sz_ : Nat) (S_ : zS) (hV : WCF ad [8, 9, 34] S_ ρ S_ ρ) (n_ io pq : Int32) (hP : ∀ rv S1 ρ1, PW ad [8, 9, 34] S_ ρ (q_order n_ io pq) rv S1 ρ1 → Post rv S1 ρ1) : Met lau yX12_order (Cond.code yX12_order cX12_order 4 (some .int) :: TB) ({ frames := 13, cells := 0, slots := 0, locals := 421 } : Room) (va_Pc [.ref (ad 17), .int n_, .int io, .int pq] (zPre xs cD cy S_ sz_)) (QX cD cy Post (zAd cy S_ sz_)) 0 0 (zAd cy S_ sz_) := by
  refine z_ofW (QQ := QX cD cy Post) (own := RX12) (by decide +kernel) rfl rfl (Nat.le_of_ble_eq_true rfl) ?_
  intro p_ e_ s_ m_ args_ below_ meth_ c_ A_ ls hcf hr hlk hnm hK_ hE hZ hw hA hl
  have hM : MX xs cD cy A_ p_ s_ m_ args_ c_ cX12_order 4 (Cond.code yX12_order cX12_order 4 (some .int) :: TB) RX12 := ⟨hcf, fun w hw => List.mem_cons_of_mem _ hw, hK_, hE, hZ, hA⟩
  obtain ⟨hx, hb_, hml, hown, hts⟩ := id hcf
  have hl : lv_has ls 4 [(0, .ref (ad 17)), (1, .int n_), (2, .int io), (3, .int pq)] := hl
  refine lv_iload_n hx hb_ dX12_order_0 rfl (lv_at hl 1 rfl) ?_
  refine lv_iconst (v := 1) hx hb_ dX12_order_1 (by decide) ?_
  refine lv_icmp_lt (tgt := 11) hx hb_ dX12_order_2 (by decide) (fun c_2 => ?_) (fun c_2 => ?_)
  · refine lv_aload_n hx hb_ dX12_order_11 rfl (lv_at hl 0 rfl) ?_
    refine lv_iload_n hx hb_ dX12_order_12 rfl (lv_at hl 3 rfl) ?_
    refine lv_if_lt (tgt := 20) hx hb_ dX12_order_13 (by decide) (fun c_13 => ?_) (fun c_13 => ?_)
    · refine lv_bipush (v := (-5)) hx hb_ dX12_order_20 (by decide) ?_
      refine lv_goto (tgt := 27) hx hb_ dX12_order_22 (by decide) ?_
      refine cl_no hb0 hM hA hV hw ⟨by decide, by decide, by decide, by decide⟩ (by decide) (show (0 : Nat) ≤ 8 by decide) hl.1 dX12_order_27 (fun S1 ρ1 H_ locs_ hV hw => ?_)
      exact z_iretW (v := (-5)) hcf hr hlk hw hP hV (by unfold q_order; rw [if_pos (Or.inr c_13)]) dX12_order_30
    · refine lv_iload_n hx hb_ dX12_order_16 rfl (lv_at hl 2 rfl) ?_
      refine lv_if_ge (tgt := 25) hx hb_ dX12_order_17 (by decide) (fun c_17 => ?_) (fun c_17 => ?_)
      · refine lv_bipush (v := (-6)) hx hb_ dX12_order_25 (by decide) ?_
        refine cl_no hb0 hM hA hV hw ⟨by decide, by decide, by decide, by decide⟩ (by decide) (show (0 : Nat) ≤ 8 by decide) hl.1 dX12_order_27 (fun S1 ρ1 H_ locs_ hV hw => ?_)
        exact z_iretW (v := (-6)) hcf hr hlk hw hP hV (by unfold q_order; rw [if_neg (fun z_ => z_.elim (fun q_ => by rw [zx_lt] at q_; rw [zx_le] at c_17; have z0 : (0 : Int32).toInt = 0 := rfl; omega) (fun q_ => c_13 q_)), if_pos (by simp [c_2])]) dX12_order_30
      · refine lv_bipush (v := (-5)) hx hb_ dX12_order_20 (by decide) ?_
        refine lv_goto (tgt := 27) hx hb_ dX12_order_22 (by decide) ?_
        refine cl_no hb0 hM hA hV hw ⟨by decide, by decide, by decide, by decide⟩ (by decide) (show (0 : Nat) ≤ 8 by decide) hl.1 dX12_order_27 (fun S1 ρ1 H_ locs_ hV hw => ?_)
        exact z_iretW (v := (-5)) hcf hr hlk hw hP hV (by unfold q_order; rw [if_pos (Or.inl (by rw [zx_le] at c_17; rw [zx_lt]; omega))]) dX12_order_30
  · refine lv_iload_n hx hb_ dX12_order_5 rfl (lv_at hl 1 rfl) ?_
    refine lv_bipush (v := 8) hx hb_ dX12_order_6 (by decide) ?_
    refine lv_icmp_le (tgt := 31) hx hb_ dX12_order_8 (by decide) (fun c_8 => ?_) (fun c_8 => ?_)
    · obtain ⟨n0_, hn1, hn8, en⟩ := zx_of (a := 1) (b := 8) c_2 c_8 (by decide) (by decide)
      have hlen := cG_len hn1 hn8
      refine lv_aload_n hx hb_ dX12_order_31 rfl (lv_at hl 0 rfl) ?_
      refine lv_iload_n hx hb_ dX12_order_32 rfl (lv_at hl 1 rfl) ?_
      refine z_topi (y := nI n0_) en ?_
      refine cl_finds hb0 hM hA hV hw hn1 hn8 ⟨by decide, by decide, by decide, by decide⟩ (show (0 : Nat) ≤ 8 by decide) hl.1 dX12_order_33 (fun S1 ρ1 H_ locs_ hV hfm hfo hw => ?_)
      refine lv_iload_n hx hb_ dX12_order_36 rfl (lv_at hl 2 rfl) ?_
      refine lv_if_lt (tgt := 71) hx hb_ dX12_order_37 (by decide) (fun c_37 => ?_) (fun c_37 => ?_)
      · refine lv_aload_n hx hb_ dX12_order_71 rfl (lv_at hl 0 rfl) ?_
        refine lv_bipush (v := (-5)) hx hb_ dX12_order_72 (by decide) ?_
        refine cl_no hb0 hM hA hV hw ⟨by decide, by decide, by decide, by decide⟩ (by decide) (show (0 : Nat) ≤ 8 by decide) hl.1 dX12_order_74 (fun S1 ρ1 H_ locs_ hV hw => ?_)
        exact z_iretW (v := (-5)) hcf hr hlk hw hP hV (by unfold q_order; rw [if_pos (Or.inl c_37)]) dX12_order_77
      · refine lv_iload_n hx hb_ dX12_order_40 rfl (lv_at hl 2 rfl) ?_
        refine lv_aload_n hx hb_ dX12_order_41 rfl (lv_at hl 0 rfl) ?_
        refine gi_RX12_328_50 (x := (nI (cG n0_ n0_ []).length)) hM (sh_of hV.1.1) hw hfm dX12_order_42 ?_
        refine lv_icmp_ge (tgt := 71) hx hb_ dX12_order_45 (by decide) (fun c_45 => ?_) (fun c_45 => ?_)
        · refine lv_aload_n hx hb_ dX12_order_71 rfl (lv_at hl 0 rfl) ?_
          refine lv_bipush (v := (-5)) hx hb_ dX12_order_72 (by decide) ?_
          refine cl_no hb0 hM hA hV hw ⟨by decide, by decide, by decide, by decide⟩ (by decide) (show (0 : Nat) ≤ 8 by decide) hl.1 dX12_order_74 (fun S1 ρ1 H_ locs_ hV hw => ?_)
          exact z_iretW (v := (-5)) hcf hr hlk hw hP hV ((Decidable.em (pq < 0)).elim (fun q_ => by unfold q_order; rw [if_pos (Or.inr q_)]) (fun q_ => (q_order_out c_37 q_ c_2 c_8 en hn8 (Or.inr (fun z_ => absurd c_45 (by rw [zx_lt] at z_; rw [zx_le]; omega)))).symm)) dX12_order_77
        · refine lv_iload_n hx hb_ dX12_order_48 rfl (lv_at hl 3 rfl) ?_
          refine lv_if_lt (tgt := 71) hx hb_ dX12_order_49 (by decide) (fun c_49 => ?_) (fun c_49 => ?_)
          · refine lv_aload_n hx hb_ dX12_order_71 rfl (lv_at hl 0 rfl) ?_
            refine lv_bipush (v := (-5)) hx hb_ dX12_order_72 (by decide) ?_
            refine cl_no hb0 hM hA hV hw ⟨by decide, by decide, by decide, by decide⟩ (by decide) (show (0 : Nat) ≤ 8 by decide) hl.1 dX12_order_74 (fun S1 ρ1 H_ locs_ hV hw => ?_)
            exact z_iretW (v := (-5)) hcf hr hlk hw hP hV (by unfold q_order; rw [if_pos (Or.inr c_49)]) dX12_order_77
          · refine lv_iload_n hx hb_ dX12_order_52 rfl (lv_at hl 3 rfl) ?_
            refine lv_iload_n hx hb_ dX12_order_53 rfl (lv_at hl 1 rfl) ?_
            refine lv_icmp_ge (tgt := 71) hx hb_ dX12_order_54 (by decide) (fun c_54 => ?_) (fun c_54 => ?_)
            · refine lv_aload_n hx hb_ dX12_order_71 rfl (lv_at hl 0 rfl) ?_
              refine lv_bipush (v := (-5)) hx hb_ dX12_order_72 (by decide) ?_
              refine cl_no hb0 hM hA hV hw ⟨by decide, by decide, by decide, by decide⟩ (by decide) (show (0 : Nat) ≤ 8 by decide) hl.1 dX12_order_74 (fun S1 ρ1 H_ locs_ hV hw => ?_)
              exact z_iretW (v := (-5)) hcf hr hlk hw hP hV ((q_order_out c_37 c_49 c_2 c_8 en hn8 (Or.inl (fun z_ => absurd c_54 (by rw [zx_lt] at z_; rw [zx_le]; omega)))).symm) dX12_order_77
            · obtain ⟨i0, hi31, ei0⟩ := nI_of c_37
              obtain ⟨p0, hp31, ep0⟩ := nI_of c_49
              have hlt : io < nI (cG n0_ n0_ []).length := by rw [zx_le] at c_45; rw [zx_lt]; omega
              have hi0 : i0 < (cG n0_ n0_ []).length := by rw [ei0, nI_ltI hi31 (by omega)] at hlt; exact hlt
              have hp0 : p0 < n0_ := by rw [ep0, en, nI_leI (by omega) hp31] at c_54; omega
              refine lv_aload_n hx hb_ dX12_order_57 rfl (lv_at hl 0 rfl) ?_
              refine gs_RX12_117_48 hM (sh_of hV.1.1) hw dX12_order_58 ?_
              refine lv_bipush (v := 8) hx hb_ dX12_order_61 (by decide) ?_
              refine lv_iload_n hx hb_ dX12_order_63 rfl (lv_at hl 2 rfl) ?_
              refine lv_imul hx hb_ dX12_order_64 ?_
              refine lv_iload_n hx hb_ dX12_order_65 rfl (lv_at hl 3 rfl) ?_
              refine lv_iadd hx hb_ dX12_order_66 ?_
              refine z_topi (y := (nI (8 * i0 + p0))) (by rw [ei0, ep0, show (8 : Int32) * nI i0 = nI (8 * i0) from pk_mul 8 i0, nI_add]) ?_
              refine z_iald (n := 11136) hcf hK_ hw (sh_L (sh_of hV.1.1) (r := 52) (by decide +kernel)) (sh_K (sh_of hV.1.1) (r := 52) (by decide +kernel) rfl) (sh_N (sh_of hV.1.1) (r := 52) (by decide +kernel) rfl (by decide)) (vp_in_nI (by omega) (by decide)) dX12_order_67 ?_
              refine z_topi (y := nI (((cG n0_ n0_ []).getD i0 []).getD p0 0)) (by rw [nI_clamp (show 8 * i0 + p0 < 2 ^ 31 by omega)]; exact hfo i0 hi0 p0 hp0) ?_
              refine lv_goto (tgt := 77) hx hb_ dX12_order_68 (by decide) ?_
              exact z_iretW (v := nI (((cG n0_ n0_ []).getD i0 []).getD p0 0)) hcf hr hlk hw hP hV (q_order_in c_37 c_49 c_2 c_8 en hn8 ei0 hi31 ep0 hp0 hlt).symm dX12_order_77
    · refine lv_aload_n hx hb_ dX12_order_11 rfl (lv_at hl 0 rfl) ?_
      refine lv_iload_n hx hb_ dX12_order_12 rfl (lv_at hl 3 rfl) ?_
      refine lv_if_lt (tgt := 20) hx hb_ dX12_order_13 (by decide) (fun c_13 => ?_) (fun c_13 => ?_)
      · refine lv_bipush (v := (-5)) hx hb_ dX12_order_20 (by decide) ?_
        refine lv_goto (tgt := 27) hx hb_ dX12_order_22 (by decide) ?_
        refine cl_no hb0 hM hA hV hw ⟨by decide, by decide, by decide, by decide⟩ (by decide) (show (0 : Nat) ≤ 8 by decide) hl.1 dX12_order_27 (fun S1 ρ1 H_ locs_ hV hw => ?_)
        exact z_iretW (v := (-5)) hcf hr hlk hw hP hV (by unfold q_order; rw [if_pos (Or.inr c_13)]) dX12_order_30
      · refine lv_iload_n hx hb_ dX12_order_16 rfl (lv_at hl 2 rfl) ?_
        refine lv_if_ge (tgt := 25) hx hb_ dX12_order_17 (by decide) (fun c_17 => ?_) (fun c_17 => ?_)
        · refine lv_bipush (v := (-6)) hx hb_ dX12_order_25 (by decide) ?_
          refine cl_no hb0 hM hA hV hw ⟨by decide, by decide, by decide, by decide⟩ (by decide) (show (0 : Nat) ≤ 8 by decide) hl.1 dX12_order_27 (fun S1 ρ1 H_ locs_ hV hw => ?_)
          exact z_iretW (v := (-6)) hcf hr hlk hw hP hV (by unfold q_order; rw [if_neg (fun z_ => z_.elim (fun q_ => by rw [zx_lt] at q_; rw [zx_le] at c_17; have z0 : (0 : Int32).toInt = 0 := rfl; omega) (fun q_ => c_13 q_)), if_pos (by simp [c_2, c_8])]) dX12_order_30
        · refine lv_bipush (v := (-5)) hx hb_ dX12_order_20 (by decide) ?_
          refine lv_goto (tgt := 27) hx hb_ dX12_order_22 (by decide) ?_
          refine cl_no hb0 hM hA hV hw ⟨by decide, by decide, by decide, by decide⟩ (by decide) (show (0 : Nat) ≤ 8 by decide) hl.1 dX12_order_27 (fun S1 ρ1 H_ locs_ hV hw => ?_)
          exact z_iretW (v := (-5)) hcf hr hlk hw hP hV (by unfold q_order; rw [if_pos (Or.inl (by rw [zx_le] at c_17; rw [zx_lt]; omega))]) dX12_order_30
theorem kq_X11_orders {g : Nat → Int} {neg0 : Int → Int} {ad : Nat → Nat} (hg : ∀ i, i < 1 → -2147483648 ≤ g i ∧ g i ≤ 2147483647) (S1 : zS) : ghN (zC ad) neg0 S1 (((8589938594 + (4 * g 0 + 0)).toNat : Nat) : Int) = (q_orders (Int32.ofInt (g 0))).toInt := by
  have h0 := hg 0 (by decide)
  have e : (((8589938594 + (4 * g 0 + 0)).toNat : Nat) : Int) = 4000 + (2 + 4 * (g 0 + 2147483648 + 4294967296 * 0)) := by omega
  rw [e]
  unfold ghN zC
  rw [if_neg (by omega), if_neg (by omega), if_neg (by omega), if_neg (by omega), if_neg (by omega), if_neg (by omega), show (4000 + (2 + 4 * (g 0 + 2147483648 + 4294967296 * 0)) - 4000 : Int) = 2 + 4 * (g 0 + 2147483648 + 4294967296 * 0) by omega]
  have hz : zFn (2 + 4 * (g 0 + 2147483648 + 4294967296 * 0)) = (q_orders (Int32.ofInt (g 0))).toInt := by
    unfold zFn
    rw [if_pos (by omega), show (2 + 4 * (g 0 + 2147483648 + 4294967296 * 0)) / 4 = (g 0 + 2147483648 + 4294967296 * 0) by omega]
    rw [zqA_of (r := 0) h0.1 h0.2]
  rw [hz]
  have hr := i32_rng (q_orders (Int32.ofInt (g 0)))
  rw [k32l_eq, k32h_eq] at hr
  unfold zcl
  omega
theorem cn_X11_orders_0 {ad xs : Nat → Nat} {cD : va_G} {cy : Nat → ClassId} {l : Launch} {neg0 : Int → Int} (hb0 : bndN neg0) : Con zT ad (ghN (zC ad) neg0) (zXI ad) xs cD cy l yX11_orders cX11_orders 2 ((some .int)) 12 276 sg_X11_orders_0 [] := by
  intro g τ S ρ sz hpre
  obtain ⟨p1, p2, p3, p4, p5, p6, p7⟩ := hpre
  have q0 := p2 0 _ rfl
  cases ht0 : τ 0 with
  | none => rw [ht0] at q0; cases q0
  | some a =>
  rw [ht0] at q0
  obtain ⟨ha, hra⟩ := q0
  have hra : ρ a = 0 := List.mem_singleton.mp hra
  have haa : a = ad 0 := by
    have := p6.1.2.2 a ha (by rw [hra]; decide +kernel)
    rw [hra] at this; exact this
  have eav : γK g τ xs (sA sg_X11_orders_0) = [.ref (ad 0), .int (Int32.ofInt (g 0))] := by
    show [va_rf (τ 0), .int (Int32.ofInt (ev g (lsy 0)))] = _
    rw [ht0, haa, ev_lsy]; rfl
  rw [eav]
  have hg : ∀ i, i < 1 → -2147483648 ≤ g i ∧ g i ≤ 2147483647 := fun i hi => by
    by_cases q0 : i = 0
    · rw [q0]; exact p1 0 (by show 0 < 1; omega)
    · omega
  refine c_X11_orders hb0 l cD cy sz S ⟨p6, cx_g p7, ⟨fun b hb => ⟨hb, rfl⟩, fun _ _ _ _ => rfl⟩⟩ (Int32.ofInt (g 0)) ?_
  intro rv S1 ρ1 hp
  obtain ⟨rfl, w1, w2, w3⟩ := hp
  refine ⟨w1, cx_g w2, w3, _, List.mem_cons_self, fun i => if i = 1 then (q_orders (Int32.ofInt (g 0))).toInt else g i, τ, fun i hi => if_neg (Nat.ne_of_lt hi), fun _ _ => rfl, fun j hj => ?_, (fun j q hq => by simp at hq), ?_, (fun f hf => by simp at hf), fun mm hm => ?_⟩
  · have hj : j < 1 := hj
    obtain rfl : j = 0 := by omega
    have hr := i32_rng (q_orders (Int32.ofInt (g 0)))
    exact ⟨Int.le_trans hr.1 (Int.le_of_eq (if_pos rfl).symm), Int.le_trans (Int.le_of_eq (if_pos rfl)) hr.2⟩
  · show [Value.int (q_orders (Int32.ofInt (g 0)))] = [.int (Int32.ofInt (ev _ (lsy 1)))]
    rw [ev_lsy, if_pos rfl, ofInt_toInt32]
  · cases List.mem_singleton.mp hm
    refine ⟨?_, by decide +kernel⟩
    have k1 := kq_X11_orders (neg0 := neg0) (ad := ad) hg S1
    show ghN (zC ad) neg0 S1 _ = ev _ (lsy 1)
    rw [ev_lsy, if_pos rfl]
    exact k1
theorem kq_X11_order {g : Nat → Int} {neg0 : Int → Int} {ad : Nat → Nat} (hg : ∀ i, i < 3 → -2147483648 ≤ g i ∧ g i ≤ 2147483647) (S1 : zS) : ghN (zC ad) neg0 S1 (((158456325065422163343096942499 + (4 * g 0 + (17179869184 * g 1 + (73786976294838206464 * g 2 + 0)))).toNat : Nat) : Int) = (q_order (Int32.ofInt (g 0)) (Int32.ofInt (g 1)) (Int32.ofInt (g 2))).toInt := by
  have h0 := hg 0 (by decide)
  have h1 := hg 1 (by decide)
  have h2 := hg 2 (by decide)
  have e : (((158456325065422163343096942499 + (4 * g 0 + (17179869184 * g 1 + (73786976294838206464 * g 2 + 0)))).toNat : Nat) : Int) = 4000 + (3 + 4 * (g 0 + 2147483648 + 4294967296 * (g 1 + 2147483648 + 4294967296 * (g 2 + 2147483648 + 4294967296 * 0)))) := by omega
  rw [e]
  unfold ghN zC
  rw [if_neg (by omega), if_neg (by omega), if_neg (by omega), if_neg (by omega), if_neg (by omega), if_neg (by omega), show (4000 + (3 + 4 * (g 0 + 2147483648 + 4294967296 * (g 1 + 2147483648 + 4294967296 * (g 2 + 2147483648 + 4294967296 * 0)))) - 4000 : Int) = 3 + 4 * (g 0 + 2147483648 + 4294967296 * (g 1 + 2147483648 + 4294967296 * (g 2 + 2147483648 + 4294967296 * 0))) by omega]
  have hz : zFn (3 + 4 * (g 0 + 2147483648 + 4294967296 * (g 1 + 2147483648 + 4294967296 * (g 2 + 2147483648 + 4294967296 * 0)))) = (q_order (Int32.ofInt (g 0)) (Int32.ofInt (g 1)) (Int32.ofInt (g 2))).toInt := by
    unfold zFn
    rw [if_neg (by omega), if_pos (by omega), show (3 + 4 * (g 0 + 2147483648 + 4294967296 * (g 1 + 2147483648 + 4294967296 * (g 2 + 2147483648 + 4294967296 * 0)))) / 4 = (g 0 + 2147483648 + 4294967296 * (g 1 + 2147483648 + 4294967296 * (g 2 + 2147483648 + 4294967296 * 0))) by omega]
    rw [zqD_of (r := (g 1 + 2147483648 + 4294967296 * (g 2 + 2147483648 + 4294967296 * 0))) h0.1 h0.2, zqD_of (r := (g 2 + 2147483648 + 4294967296 * 0)) h1.1 h1.2, zqA_of (r := (g 1 + 2147483648 + 4294967296 * (g 2 + 2147483648 + 4294967296 * 0))) h0.1 h0.2, zqA_of (r := (g 2 + 2147483648 + 4294967296 * 0)) h1.1 h1.2, zqA_of (r := 0) h2.1 h2.2]
  rw [hz]
  have hr := i32_rng (q_order (Int32.ofInt (g 0)) (Int32.ofInt (g 1)) (Int32.ofInt (g 2)))
  rw [k32l_eq, k32h_eq] at hr
  unfold zcl
  omega
theorem cn_X11_order_0 {ad xs : Nat → Nat} {cD : va_G} {cy : Nat → ClassId} {l : Launch} {neg0 : Int → Int} (hb0 : bndN neg0) : Con zT ad (ghN (zC ad) neg0) (zXI ad) xs cD cy l yX11_order cX11_order 4 ((some .int)) 12 276 sg_X11_order_0 [] := by
  intro g τ S ρ sz hpre
  obtain ⟨p1, p2, p3, p4, p5, p6, p7⟩ := hpre
  have q0 := p2 0 _ rfl
  cases ht0 : τ 0 with
  | none => rw [ht0] at q0; cases q0
  | some a =>
  rw [ht0] at q0
  obtain ⟨ha, hra⟩ := q0
  have hra : ρ a = 0 := List.mem_singleton.mp hra
  have haa : a = ad 0 := by
    have := p6.1.2.2 a ha (by rw [hra]; decide +kernel)
    rw [hra] at this; exact this
  have eav : γK g τ xs (sA sg_X11_order_0) = [.ref (ad 0), .int (Int32.ofInt (g 0)), .int (Int32.ofInt (g 1)), .int (Int32.ofInt (g 2))] := by
    show [va_rf (τ 0), .int (Int32.ofInt (ev g (lsy 0))), .int (Int32.ofInt (ev g (lsy 1))), .int (Int32.ofInt (ev g (lsy 2)))] = _
    rw [ht0, haa, ev_lsy, ev_lsy, ev_lsy]; rfl
  rw [eav]
  have hg : ∀ i, i < 3 → -2147483648 ≤ g i ∧ g i ≤ 2147483647 := fun i hi => by
    by_cases q0 : i = 0
    · rw [q0]; exact p1 0 (by show 0 < 3; omega)
    by_cases q1 : i = 1
    · rw [q1]; exact p1 1 (by show 1 < 3; omega)
    by_cases q2 : i = 2
    · rw [q2]; exact p1 2 (by show 2 < 3; omega)
    · omega
  refine c_X11_order hb0 l cD cy sz S ⟨p6, cx_g p7, ⟨fun b hb => ⟨hb, rfl⟩, fun _ _ _ _ => rfl⟩⟩ (Int32.ofInt (g 0)) (Int32.ofInt (g 1)) (Int32.ofInt (g 2)) ?_
  intro rv S1 ρ1 hp
  obtain ⟨rfl, w1, w2, w3⟩ := hp
  refine ⟨w1, cx_g w2, w3, _, List.mem_cons_self, fun i => if i = 3 then (q_order (Int32.ofInt (g 0)) (Int32.ofInt (g 1)) (Int32.ofInt (g 2))).toInt else g i, τ, fun i hi => if_neg (Nat.ne_of_lt hi), fun _ _ => rfl, fun j hj => ?_, (fun j q hq => by simp at hq), ?_, (fun f hf => by simp at hf), fun mm hm => ?_⟩
  · have hj : j < 1 := hj
    obtain rfl : j = 0 := by omega
    have hr := i32_rng (q_order (Int32.ofInt (g 0)) (Int32.ofInt (g 1)) (Int32.ofInt (g 2)))
    exact ⟨Int.le_trans hr.1 (Int.le_of_eq (if_pos rfl).symm), Int.le_trans (Int.le_of_eq (if_pos rfl)) hr.2⟩
  · show [Value.int (q_order (Int32.ofInt (g 0)) (Int32.ofInt (g 1)) (Int32.ofInt (g 2)))] = [.int (Int32.ofInt (ev _ (lsy 3)))]
    rw [ev_lsy, if_pos rfl, ofInt_toInt32]
  · cases List.mem_singleton.mp hm
    refine ⟨?_, by decide +kernel⟩
    have k1 := kq_X11_order (neg0 := neg0) (ad := ad) hg S1
    show ghN (zC ad) neg0 S1 _ = ev _ (lsy 3)
    rw [ev_lsy, if_pos rfl]
    exact k1
theorem kq_X12_orders {g : Nat → Int} {neg0 : Int → Int} {ad : Nat → Nat} (hg : ∀ i, i < 1 → -2147483648 ≤ g i ∧ g i ≤ 2147483647) (S1 : zS) : ghN (zC ad) neg0 S1 (((8589938594 + (4 * g 0 + 0)).toNat : Nat) : Int) = (q_orders (Int32.ofInt (g 0))).toInt := by
  have h0 := hg 0 (by decide)
  have e : (((8589938594 + (4 * g 0 + 0)).toNat : Nat) : Int) = 4000 + (2 + 4 * (g 0 + 2147483648 + 4294967296 * 0)) := by omega
  rw [e]
  unfold ghN zC
  rw [if_neg (by omega), if_neg (by omega), if_neg (by omega), if_neg (by omega), if_neg (by omega), if_neg (by omega), show (4000 + (2 + 4 * (g 0 + 2147483648 + 4294967296 * 0)) - 4000 : Int) = 2 + 4 * (g 0 + 2147483648 + 4294967296 * 0) by omega]
  have hz : zFn (2 + 4 * (g 0 + 2147483648 + 4294967296 * 0)) = (q_orders (Int32.ofInt (g 0))).toInt := by
    unfold zFn
    rw [if_pos (by omega), show (2 + 4 * (g 0 + 2147483648 + 4294967296 * 0)) / 4 = (g 0 + 2147483648 + 4294967296 * 0) by omega]
    rw [zqA_of (r := 0) h0.1 h0.2]
  rw [hz]
  have hr := i32_rng (q_orders (Int32.ofInt (g 0)))
  rw [k32l_eq, k32h_eq] at hr
  unfold zcl
  omega
theorem cn_X12_orders_0 {ad xs : Nat → Nat} {cD : va_G} {cy : Nat → ClassId} {l : Launch} {neg0 : Int → Int} (hb0 : bndN neg0) : Con zT ad (ghN (zC ad) neg0) (zXI ad) xs cD cy l yX12_orders cX12_orders 2 ((some .int)) 13 421 sg_X12_orders_0 [] := by
  intro g τ S ρ sz hpre
  obtain ⟨p1, p2, p3, p4, p5, p6, p7⟩ := hpre
  have q0 := p2 0 _ rfl
  cases ht0 : τ 0 with
  | none => rw [ht0] at q0; cases q0
  | some a =>
  rw [ht0] at q0
  obtain ⟨ha, hra⟩ := q0
  have hra : ρ a = 17 := List.mem_singleton.mp hra
  have haa : a = ad 17 := by
    have := p6.1.2.2 a ha (by rw [hra]; decide +kernel)
    rw [hra] at this; exact this
  have eav : γK g τ xs (sA sg_X12_orders_0) = [.ref (ad 17), .int (Int32.ofInt (g 0))] := by
    show [va_rf (τ 0), .int (Int32.ofInt (ev g (lsy 0)))] = _
    rw [ht0, haa, ev_lsy]; rfl
  rw [eav]
  have hg : ∀ i, i < 1 → -2147483648 ≤ g i ∧ g i ≤ 2147483647 := fun i hi => by
    by_cases q0 : i = 0
    · rw [q0]; exact p1 0 (by show 0 < 2; omega)
    · omega
  refine c_X12_orders hb0 l cD cy sz S ⟨p6, cx_g p7, ⟨fun b hb => ⟨hb, rfl⟩, fun _ _ _ _ => rfl⟩⟩ (Int32.ofInt (g 0)) ?_
  intro rv S1 ρ1 hp
  obtain ⟨rfl, w1, w2, w3⟩ := hp
  obtain ⟨k1, k2⟩ := p5 0 _ rfl
  have k1 : ghN (zC ad) neg0 S _ = g 1 := k1
  have k3 := kq_X12_orders (neg0 := neg0) (ad := ad) hg S
  have k4 : g 1 = (q_orders (Int32.ofInt (g 0))).toInt := k1.symm.trans k3
  refine ⟨w1, cx_g w2, w3, _, List.mem_cons_self, g, τ, fun _ _ => rfl, fun _ _ => rfl, (fun j hj => by simp at hj), (fun j q hq => by simp at hq), ?_, (fun f hf => by simp at hf), (fun mm hm => by simp at hm)⟩
  show [Value.int (q_orders (Int32.ofInt (g 0)))] = [.int (Int32.ofInt (ev g (lsy 1)))]
  rw [ev_lsy, k4, ofInt_toInt32]
theorem kq_X12_order {g : Nat → Int} {neg0 : Int → Int} {ad : Nat → Nat} (hg : ∀ i, i < 3 → -2147483648 ≤ g i ∧ g i ≤ 2147483647) (S1 : zS) : ghN (zC ad) neg0 S1 (((158456325065422163343096942499 + (4 * g 0 + (17179869184 * g 1 + (73786976294838206464 * g 2 + 0)))).toNat : Nat) : Int) = (q_order (Int32.ofInt (g 0)) (Int32.ofInt (g 1)) (Int32.ofInt (g 2))).toInt := by
  have h0 := hg 0 (by decide)
  have h1 := hg 1 (by decide)
  have h2 := hg 2 (by decide)
  have e : (((158456325065422163343096942499 + (4 * g 0 + (17179869184 * g 1 + (73786976294838206464 * g 2 + 0)))).toNat : Nat) : Int) = 4000 + (3 + 4 * (g 0 + 2147483648 + 4294967296 * (g 1 + 2147483648 + 4294967296 * (g 2 + 2147483648 + 4294967296 * 0)))) := by omega
  rw [e]
  unfold ghN zC
  rw [if_neg (by omega), if_neg (by omega), if_neg (by omega), if_neg (by omega), if_neg (by omega), if_neg (by omega), show (4000 + (3 + 4 * (g 0 + 2147483648 + 4294967296 * (g 1 + 2147483648 + 4294967296 * (g 2 + 2147483648 + 4294967296 * 0)))) - 4000 : Int) = 3 + 4 * (g 0 + 2147483648 + 4294967296 * (g 1 + 2147483648 + 4294967296 * (g 2 + 2147483648 + 4294967296 * 0))) by omega]
  have hz : zFn (3 + 4 * (g 0 + 2147483648 + 4294967296 * (g 1 + 2147483648 + 4294967296 * (g 2 + 2147483648 + 4294967296 * 0)))) = (q_order (Int32.ofInt (g 0)) (Int32.ofInt (g 1)) (Int32.ofInt (g 2))).toInt := by
    unfold zFn
    rw [if_neg (by omega), if_pos (by omega), show (3 + 4 * (g 0 + 2147483648 + 4294967296 * (g 1 + 2147483648 + 4294967296 * (g 2 + 2147483648 + 4294967296 * 0)))) / 4 = (g 0 + 2147483648 + 4294967296 * (g 1 + 2147483648 + 4294967296 * (g 2 + 2147483648 + 4294967296 * 0))) by omega]
    rw [zqD_of (r := (g 1 + 2147483648 + 4294967296 * (g 2 + 2147483648 + 4294967296 * 0))) h0.1 h0.2, zqD_of (r := (g 2 + 2147483648 + 4294967296 * 0)) h1.1 h1.2, zqA_of (r := (g 1 + 2147483648 + 4294967296 * (g 2 + 2147483648 + 4294967296 * 0))) h0.1 h0.2, zqA_of (r := (g 2 + 2147483648 + 4294967296 * 0)) h1.1 h1.2, zqA_of (r := 0) h2.1 h2.2]
  rw [hz]
  have hr := i32_rng (q_order (Int32.ofInt (g 0)) (Int32.ofInt (g 1)) (Int32.ofInt (g 2)))
  rw [k32l_eq, k32h_eq] at hr
  unfold zcl
  omega
theorem cn_X12_order_0 {ad xs : Nat → Nat} {cD : va_G} {cy : Nat → ClassId} {l : Launch} {neg0 : Int → Int} (hb0 : bndN neg0) : Con zT ad (ghN (zC ad) neg0) (zXI ad) xs cD cy l yX12_order cX12_order 4 ((some .int)) 13 421 sg_X12_order_0 [] := by
  intro g τ S ρ sz hpre
  obtain ⟨p1, p2, p3, p4, p5, p6, p7⟩ := hpre
  have q0 := p2 0 _ rfl
  cases ht0 : τ 0 with
  | none => rw [ht0] at q0; cases q0
  | some a =>
  rw [ht0] at q0
  obtain ⟨ha, hra⟩ := q0
  have hra : ρ a = 17 := List.mem_singleton.mp hra
  have haa : a = ad 17 := by
    have := p6.1.2.2 a ha (by rw [hra]; decide +kernel)
    rw [hra] at this; exact this
  have eav : γK g τ xs (sA sg_X12_order_0) = [.ref (ad 17), .int (Int32.ofInt (g 0)), .int (Int32.ofInt (g 1)), .int (Int32.ofInt (g 2))] := by
    show [va_rf (τ 0), .int (Int32.ofInt (ev g (lsy 0))), .int (Int32.ofInt (ev g (lsy 1))), .int (Int32.ofInt (ev g (lsy 2)))] = _
    rw [ht0, haa, ev_lsy, ev_lsy, ev_lsy]; rfl
  rw [eav]
  have hg : ∀ i, i < 3 → -2147483648 ≤ g i ∧ g i ≤ 2147483647 := fun i hi => by
    by_cases q0 : i = 0
    · rw [q0]; exact p1 0 (by show 0 < 4; omega)
    by_cases q1 : i = 1
    · rw [q1]; exact p1 1 (by show 1 < 4; omega)
    by_cases q2 : i = 2
    · rw [q2]; exact p1 2 (by show 2 < 4; omega)
    · omega
  refine c_X12_order hb0 l cD cy sz S ⟨p6, cx_g p7, ⟨fun b hb => ⟨hb, rfl⟩, fun _ _ _ _ => rfl⟩⟩ (Int32.ofInt (g 0)) (Int32.ofInt (g 1)) (Int32.ofInt (g 2)) ?_
  intro rv S1 ρ1 hp
  obtain ⟨rfl, w1, w2, w3⟩ := hp
  obtain ⟨k1, k2⟩ := p5 0 _ rfl
  have k1 : ghN (zC ad) neg0 S _ = g 3 := k1
  have k3 := kq_X12_order (neg0 := neg0) (ad := ad) hg S
  have k4 : g 3 = (q_order (Int32.ofInt (g 0)) (Int32.ofInt (g 1)) (Int32.ofInt (g 2))).toInt := k1.symm.trans k3
  refine ⟨w1, cx_g w2, w3, _, List.mem_cons_self, g, τ, fun _ _ => rfl, fun _ _ => rfl, (fun j hj => by simp at hj), (fun j q hq => by simp at hq), ?_, (fun f hf => by simp at hf), (fun mm hm => by simp at hm)⟩
  show [Value.int (q_order (Int32.ofInt (g 0)) (Int32.ofInt (g 1)) (Int32.ofInt (g 2)))] = [.int (Int32.ofInt (ev g (lsy 3)))]
  rw [ev_lsy, k4, ofInt_toInt32]
