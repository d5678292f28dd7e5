set_option maxHeartbeats 4000000 in
set_option maxRecDepth 100000 in
theorem c_X11_init (l : Launch) (cD : va_G) (cy : Nat → ClassId) (sz_ : Nat) (S_ : zS) (x0 : Nat) (hS0 : zL S_ = [x0]) (hL : x0 ∈ zL S_) (hk : zK S_ x0 = 11) : Met l yX11_init wsX11_init ({ frames := 2, cells := 32, slots := 19935, locals := 40 } : Room) (va_Pc [.ref x0] (zPre cD cy S_ sz_)) (va_Qv (fun (S1 : zS) => ∃ r_ : Nat → Nat, r_ 0 = x0 ∧ ShC S1 r_ ∧ FrC S1 r_) (zPost cD cy (zAd cy S_ sz_)) (zAd cy S_ sz_)) 32 19935 (zAd cy S_ sz_) := by
  refine z_ofW (cc := cX11_init) (maxL := 2) (ret := none) (own := RX11) (QQ := fun A_ => va_Qv (fun (S1 : zS) => ∃ r_ : Nat → Nat, r_ 0 = x0 ∧ ShC S1 r_ ∧ FrC S1 r_) (zPost cD cy A_) A_) (by decide) rfl rfl (Nat.le_of_ble_eq_true rfl) ?_
  intro p_ e_ s_ m_ args_ below_ meth_ c_ A_ ls hcf hr hlk hnm hK_ hE hw hA hl
  obtain ⟨hx, hb_, hml, hown, hts⟩ := id hcf
  have hin3 : ∀ w_ ∈ wsX30, w_ ∈ wsX11_init := fun w_ h_ => (List.mem_cons_of_mem _ (List.mem_append_left _ (List.mem_append_right _ h_)))
  have hin5 : ∀ w_ ∈ wsX50, w_ ∈ wsX11_init := fun w_ h_ => (List.mem_cons_of_mem _ (List.mem_append_left _ (List.mem_append_left _ (List.mem_append_right _ h_))))
  have hin7 : ∀ w_ ∈ wsX70, w_ ∈ wsX11_init := fun w_ h_ => (List.mem_cons_of_mem _ (List.mem_append_right _ h_))
  have hin11 : ∀ w_ ∈ wsX110, w_ ∈ wsX11_init := fun w_ h_ => (List.mem_cons_of_mem _ (List.mem_append_left _ (List.mem_append_left _ (List.mem_append_left _ (List.mem_append_right _ h_)))))
  have hl : lv_has ls 2 [(0, .ref x0)] := hl
  have J21 : ∀ (ro : Nat → Nat), ro 0 = x0 → ∀ (T : zS), zIv ro [(32, 14, 160), (24, 7, 0), (31, 14, 160), (23, 7, 0), (30, 14, 160), (22, 7, 0), (29, 14, 160), (21, 7, 0), (28, 14, 160), (20, 7, 0), (27, 14, 160), (19, 7, 0), (26, 14, 160), (18, 7, 0), (25, 14, 160), (17, 7, 0), (16, 13, 8), (15, 13, 8), (14, 13, 9), (13, 13, 9), (12, 13, 2100), (10, 3, 0), (11, 16, 8), (9, 5, 0), (8, 13, 31), (7, 13, 8192), (6, 13, 8192), (5, 13, 20), (4, 13, 8), (3, 16, 8), (2, 16, 8), (1, 15, 8), (0, 11, 0)] [(700, 24, 32), (700, 23, 31), (700, 22, 30), (700, 21, 29), (700, 20, 28), (700, 19, 27), (700, 18, 26), (700, 17, 25), (1109, 0, 10), (304, 10, 16), (303, 10, 15), (302, 10, 14), (301, 10, 13), (300, 10, 12), (1108, 0, 9), (500, 9, 11), (1107, 0, 8), (1106, 0, 7), (1105, 0, 6), (1104, 0, 5), (1103, 0, 4), (1102, 0, 3), (1101, 0, 2), (1100, 0, 1)] [(703, 24, (-1)), (702, 24, (-1)), (701, 24, 0), (703, 23, (-1)), (702, 23, (-1)), (701, 23, 0), (703, 22, (-1)), (702, 22, (-1)), (701, 22, 0), (703, 21, (-1)), (702, 21, (-1)), (701, 21, 0), (703, 20, (-1)), (702, 20, (-1)), (701, 20, 0), (703, 19, (-1)), (702, 19, (-1)), (701, 19, 0), (703, 18, (-1)), (702, 18, (-1)), (701, 18, 0), (703, 17, (-1)), (702, 17, (-1)), (701, 17, 0), (1112, 0, 0), (1111, 0, (-1)), (1110, 0, 0), (306, 10, 0), (305, 10, 0), (506, 9, 0), (505, 9, 0), (503, 9, (-1)), (502, 9, 0), (501, 9, 0)] [32, 24, 31, 23, 30, 22, 29, 21, 28, 20, 27, 19, 26, 18, 25, 17, 16, 15, 14, 13, 12, 10, 11, 9, 8, 7, 6, 5, 4, 3, 2, 1] [(1, 7, 24), (1, 6, 23), (1, 5, 22), (1, 4, 21), (1, 3, 20), (1, 2, 19), (1, 1, 18), (1, 0, 17)] [32, 24, 31, 23, 30, 22, 29, 21, 28, 20, 27, 19, 26, 18, 25, 17, 16, 15, 14, 13, 12, 10, 11, 9, 8, 7, 6, 5, 4, 3, 2] T → ∀ (H_ : Heap) (locs_ : List Loc), zPw cD cy A_ s_.heap T H_ locs_ → ∀ ls : Array Slot, lv_has ls 2 [(1, .int 7), (0, .ref (ro 0))] → W p_ l e_ ({ frames := 2, cells := 32, slots := 19935, locals := 40 } : Room) s_ m_ args_ below_ meth_ c_ H_ locs_ 32 19935 (MQ below_ (va_Qv (fun (S1 : zS) => ∃ r_ : Nat → Nat, r_ 0 = x0 ∧ ShC S1 r_ ∧ FrC S1 r_) (zPost cD cy A_) A_) args_ s_ 32 19935 A_) (F0 m_ 131 ls []) := by
    intro ro h0 T hv H_ locs_ hw ls hl
    have hL : ro 0 ∈ zL T := hv.rl (by decide)
    have hk : zK T (ro 0) = 11 := hv.k (o := 0) (n := 0) (by decide)
    have hLy : ro 1 ∈ zL T := hv.rl (by decide)
    have hKy : zK T (ro 1) = 15 := hv.k (o := 1) (n := 8) (by decide)
    have hNy : zN T (ro 1) = 8 := hv.n (o := 1) (k := 15) (by decide) (by decide)
    have hPy : zQ T 1100 (ro 0) = some (ro 1) := hv.q (by decide)
    refine lv_iinc (v := 8) (lv' := [(1, .int 8), (0, .ref (ro 0))]) hx hb_ dX11_init_131 hl (k := 0) rfl (by decide) (by decide) rfl (fun ls hl => ?_)
    refine lv_goto (tgt := 112) hx hb_ dX11_init_134 (by decide) ?_
    refine lv_iload_n hx hb_ dX11_init_112 rfl (lv_at hl 0 rfl) ?_
    refine lv_bipush (v := 8) hx hb_ dX11_init_113 (by decide) ?_
    refine lv_icmp_ge (tgt := 137) hx hb_ dX11_init_115 (by decide) (fun _ => ?_) (fun c_115 => absurd c_115 (by decide))
    exact z_vret hcf hr hlk hw (⟨ro, h0, hv.shC (by decide +kernel) (by decide +kernel) (by decide +kernel), hv.frC (by decide) (by decide +kernel) (by decide) (by decide) (by decide)⟩) dX11_init_137
  have J20 : ∀ (ro : Nat → Nat), ro 0 = x0 → ∀ (T : zS), zIv ro [(31, 14, 160), (23, 7, 0), (30, 14, 160), (22, 7, 0), (29, 14, 160), (21, 7, 0), (28, 14, 160), (20, 7, 0), (27, 14, 160), (19, 7, 0), (26, 14, 160), (18, 7, 0), (25, 14, 160), (17, 7, 0), (16, 13, 8), (15, 13, 8), (14, 13, 9), (13, 13, 9), (12, 13, 2100), (10, 3, 0), (11, 16, 8), (9, 5, 0), (8, 13, 31), (7, 13, 8192), (6, 13, 8192), (5, 13, 20), (4, 13, 8), (3, 16, 8), (2, 16, 8), (1, 15, 8), (0, 11, 0)] [(700, 23, 31), (700, 22, 30), (700, 21, 29), (700, 20, 28), (700, 19, 27), (700, 18, 26), (700, 17, 25), (1109, 0, 10), (304, 10, 16), (303, 10, 15), (302, 10, 14), (301, 10, 13), (300, 10, 12), (1108, 0, 9), (500, 9, 11), (1107, 0, 8), (1106, 0, 7), (1105, 0, 6), (1104, 0, 5), (1103, 0, 4), (1102, 0, 3), (1101, 0, 2), (1100, 0, 1)] [(703, 23, (-1)), (702, 23, (-1)), (701, 23, 0), (703, 22, (-1)), (702, 22, (-1)), (701, 22, 0), (703, 21, (-1)), (702, 21, (-1)), (701, 21, 0), (703, 20, (-1)), (702, 20, (-1)), (701, 20, 0), (703, 19, (-1)), (702, 19, (-1)), (701, 19, 0), (703, 18, (-1)), (702, 18, (-1)), (701, 18, 0), (703, 17, (-1)), (702, 17, (-1)), (701, 17, 0), (1112, 0, 0), (1111, 0, (-1)), (1110, 0, 0), (306, 10, 0), (305, 10, 0), (506, 9, 0), (505, 9, 0), (503, 9, (-1)), (502, 9, 0), (501, 9, 0)] [31, 23, 30, 22, 29, 21, 28, 20, 27, 19, 26, 18, 25, 17, 16, 15, 14, 13, 12, 10, 11, 9, 8, 7, 6, 5, 4, 3, 2, 1] [(1, 6, 23), (1, 5, 22), (1, 4, 21), (1, 3, 20), (1, 2, 19), (1, 1, 18), (1, 0, 17)] [31, 23, 30, 22, 29, 21, 28, 20, 27, 19, 26, 18, 25, 17, 16, 15, 14, 13, 12, 10, 11, 9, 8, 7, 6, 5, 4, 3, 2] T → ∀ (H_ : Heap) (locs_ : List Loc), zPw cD cy A_ s_.heap T H_ locs_ → ∀ ls : Array Slot, lv_has ls 2 [(1, .int 6), (0, .ref (ro 0))] → W p_ l e_ ({ frames := 2, cells := 32, slots := 19935, locals := 40 } : Room) s_ m_ args_ below_ meth_ c_ H_ locs_ 30 19771 (MQ below_ (va_Qv (fun (S1 : zS) => ∃ r_ : Nat → Nat, r_ 0 = x0 ∧ ShC S1 r_ ∧ FrC S1 r_) (zPost cD cy A_) A_) args_ s_ 32 19935 A_) (F0 m_ 131 ls []) := by
    intro ro h0 T hv H_ locs_ hw ls hl
    have hL : ro 0 ∈ zL T := hv.rl (by decide)
    have hk : zK T (ro 0) = 11 := hv.k (o := 0) (n := 0) (by decide)
    have hLy : ro 1 ∈ zL T := hv.rl (by decide)
    have hKy : zK T (ro 1) = 15 := hv.k (o := 1) (n := 8) (by decide)
    have hNy : zN T (ro 1) = 8 := hv.n (o := 1) (k := 15) (by decide) (by decide)
    have hPy : zQ T 1100 (ro 0) = some (ro 1) := hv.q (by decide)
    refine lv_iinc (v := 7) (lv' := [(1, .int 7), (0, .ref (ro 0))]) hx hb_ dX11_init_131 hl (k := 0) rfl (by decide) (by decide) rfl (fun ls hl => ?_)
    refine lv_goto (tgt := 112) hx hb_ dX11_init_134 (by decide) ?_
    refine lv_iload_n hx hb_ dX11_init_112 rfl (lv_at hl 0 rfl) ?_
    refine lv_bipush (v := 8) hx hb_ dX11_init_113 (by decide) ?_
    refine lv_icmp_ge (tgt := 137) hx hb_ dX11_init_115 (by decide) (fun c_115 => absurd c_115 (by decide)) (fun _ => ?_)
    refine lv_aload_n hx hb_ dX11_init_118 rfl (lv_at hl 1 rfl) ?_
    refine z_get (k := 11) (i := 0) (j := 1100) (v := .ref (ro 1)) (ref := "FoldedInHalf") (C := RX11) (T := TX11) (N := 13) hcf hK_ hw hin11 hL hk rfl (by decide) (by decide) rfl rfl (congrArg va_rf hPy) (List.mem_of_getElem? (i := 5) rfl) (fun _ h_ => h_) dX11_init_119 ?_
    refine lv_iload_n hx hb_ dX11_init_122 rfl (lv_at hl 0 rfl) ?_
    refine z_new (k := 7) tyX7 hcf hK_ hw hA hin7 tyX7_ok (List.mem_of_getElem? (i := 4) rfl) (List.mem_of_getElem? (i := 26) rfl) (List.mem_of_getElem? (i := 27) rfl) rfl (by decide) zdf7 (Nat.le_of_ble_eq_true rfl) (Nat.le_of_ble_eq_true rfl) dX11_init_123 (fun q49 H_ hq_q49 hw => ?_)
    have hne_ro0_q49 : (ro 0) ≠ q49 := fun e_ => hq_q49 (e_ ▸ hL)
    have hk : zK (zNew T q49 7 0) (ro 0) = 11 := (va_up_ne _ _ hne_ro0_q49).trans hk
    have hL : (ro 0) ∈ zL (zNew T q49 7 0) := List.mem_append_left _ hL
    have hne_ro1_q49 : (ro 1) ≠ q49 := fun e_ => hq_q49 (e_ ▸ hLy)
    have hKy : zK (zNew T q49 7 0) (ro 1) = 15 := (va_up_ne _ _ hne_ro1_q49).trans hKy
    have hNy : zN (zNew T q49 7 0) (ro 1) = 8 := (va_up_ne _ _ hne_ro1_q49).trans hNy
    have hLy : (ro 1) ∈ zL (zNew T q49 7 0) := List.mem_append_left _ hLy
    have hL_q49 : q49 ∈ zL (zNew T q49 7 0) := zNew_m
    have hk_q49 : zK (zNew T q49 7 0) q49 = 7 := zNew_K
    have hn_q49 : zN (zNew T q49 7 0) q49 = 0 := zNew_N
    refine lv_dup hx hb_ dX11_init_126 rfl ?_
    refine z_kv hw hA (va_runIN (As := []) (rest := [.ref q49, .int 7, .ref (ro 1)]) hcf (c_X7_init l cD cy _ (zNew T q49 7 0) q49 hL_q49 hk_q49) ⟨va_cnB 0 hts gX11_init_X7_init_n64 rfl rfl rfl (nw_M_FoldedInHalf_64 hE) (hts (.initialized RX7) (by decide +kernel)) (by decide +kernel) ⟨Nat.le_of_ble_eq_true rfl, Nat.le_of_ble_eq_true rfl⟩, rfl, hts (.instanceMethod yX7_init) (by decide +kernel)⟩ (z_preS hK_ hE hw) rfl rfl hl.1 rfl (lv_room (Nat.le_of_ble_eq_true rfl)) dX11_init_127 ⟨Nat.le_of_ble_eq_true rfl, Nat.le_of_ble_eq_true rfl⟩) (fun S51 H_ locs_ hp hw => ?_)
    obtain ⟨q52, hq_q52, rfl⟩ := hp
    have hne_ro0_q52 : (ro 0) ≠ q52 := fun e_ => hq_q52 (e_ ▸ hL)
    have hk : zK (zNew (zNew T q49 7 0) q52 14 160) (ro 0) = 11 := (va_up_ne _ _ hne_ro0_q52).trans hk
    have hL : (ro 0) ∈ zL (zNew (zNew T q49 7 0) q52 14 160) := List.mem_append_left _ hL
    have hne_ro1_q52 : (ro 1) ≠ q52 := fun e_ => hq_q52 (e_ ▸ hLy)
    have hKy : zK (zNew (zNew T q49 7 0) q52 14 160) (ro 1) = 15 := (va_up_ne _ _ hne_ro1_q52).trans hKy
    have hNy : zN (zNew (zNew T q49 7 0) q52 14 160) (ro 1) = 8 := (va_up_ne _ _ hne_ro1_q52).trans hNy
    have hLy : (ro 1) ∈ zL (zNew (zNew T q49 7 0) q52 14 160) := List.mem_append_left _ hLy
    refine z_past (n := 8) hcf hK_ hw hLy hKy hNy hL_q49 hk_q49 (by unfold vp_in; decide) dX11_init_130 (fun H_ locs_ hw => ?_)
    exact J21 (zro (zro ro 24 q49) 32 q52) h0 (zsR (zsI (zsI (zsI (zsQ (zNew (zNew T q49 7 0) q52 14 160) 700 q49 (some q52)) 701 q49 0) 702 q49 (-1)) 703 q49 (-1)) (ro 1) (va_up (zR (zsI (zsI (zsI (zsQ (zNew (zNew T q49 7 0) q52 14 160) 700 q49 (some q52)) 701 q49 0) 702 q49 (-1)) 703 q49 (-1)) (ro 1)) (7 : Int32).toNatClampNeg (some q49))) (zIv_R (o := 1) (k := 7) (t0 := 24) (zIv_I (j := 703) (o := 24) (zIv_I (j := 702) (o := 24) (zIv_I (j := 701) (o := 24) (zIv_Q (j := 700) (o := 24) (t0 := 32) (zIv_new (zIv_new (hv) (by decide +kernel) hq_q49 (by decide)) (by decide +kernel) hq_q52 (by decide)) (by decide +kernel) (by decide) (by decide)) (by decide +kernel) (by decide) (by decide)) (by decide +kernel) (by decide) (by decide)) (by decide +kernel) (by decide) (by decide)) (by decide +kernel) (by decide) (by decide) (by decide)) _ _ hw ls hl
  have J19 : ∀ (ro : Nat → Nat), ro 0 = x0 → ∀ (T : zS), zIv ro [(30, 14, 160), (22, 7, 0), (29, 14, 160), (21, 7, 0), (28, 14, 160), (20, 7, 0), (27, 14, 160), (19, 7, 0), (26, 14, 160), (18, 7, 0), (25, 14, 160), (17, 7, 0), (16, 13, 8), (15, 13, 8), (14, 13, 9), (13, 13, 9), (12, 13, 2100), (10, 3, 0), (11, 16, 8), (9, 5, 0), (8, 13, 31), (7, 13, 8192), (6, 13, 8192), (5, 13, 20), (4, 13, 8), (3, 16, 8), (2, 16, 8), (1, 15, 8), (0, 11, 0)] [(700, 22, 30), (700, 21, 29), (700, 20, 28), (700, 19, 27), (700, 18, 26), (700, 17, 25), (1109, 0, 10), (304, 10, 16), (303, 10, 15), (302, 10, 14), (301, 10, 13), (300, 10, 12), (1108, 0, 9), (500, 9, 11), (1107, 0, 8), (1106, 0, 7), (1105, 0, 6), (1104, 0, 5), (1103, 0, 4), (1102, 0, 3), (1101, 0, 2), (1100, 0, 1)] [(703, 22, (-1)), (702, 22, (-1)), (701, 22, 0), (703, 21, (-1)), (702, 21, (-1)), (701, 21, 0), (703, 20, (-1)), (702, 20, (-1)), (701, 20, 0), (703, 19, (-1)), (702, 19, (-1)), (701, 19, 0), (703, 18, (-1)), (702, 18, (-1)), (701, 18, 0), (703, 17, (-1)), (702, 17, (-1)), (701, 17, 0), (1112, 0, 0), (1111, 0, (-1)), (1110, 0, 0), (306, 10, 0), (305, 10, 0), (506, 9, 0), (505, 9, 0), (503, 9, (-1)), (502, 9, 0), (501, 9, 0)] [30, 22, 29, 21, 28, 20, 27, 19, 26, 18, 25, 17, 16, 15, 14, 13, 12, 10, 11, 9, 8, 7, 6, 5, 4, 3, 2, 1] [(1, 5, 22), (1, 4, 21), (1, 3, 20), (1, 2, 19), (1, 1, 18), (1, 0, 17)] [30, 22, 29, 21, 28, 20, 27, 19, 26, 18, 25, 17, 16, 15, 14, 13, 12, 10, 11, 9, 8, 7, 6, 5, 4, 3, 2] T → ∀ (H_ : Heap) (locs_ : List Loc), zPw cD cy A_ s_.heap T H_ locs_ → ∀ ls : Array Slot, lv_has ls 2 [(1, .int 5), (0, .ref (ro 0))] → W p_ l e_ ({ frames := 2, cells := 32, slots := 19935, locals := 40 } : Room) s_ m_ args_ below_ meth_ c_ H_ locs_ 28 19607 (MQ below_ (va_Qv (fun (S1 : zS) => ∃ r_ : Nat → Nat, r_ 0 = x0 ∧ ShC S1 r_ ∧ FrC S1 r_) (zPost cD cy A_) A_) args_ s_ 32 19935 A_) (F0 m_ 131 ls []) := by
    intro ro h0 T hv H_ locs_ hw ls hl
    have hL : ro 0 ∈ zL T := hv.rl (by decide)
    have hk : zK T (ro 0) = 11 := hv.k (o := 0) (n := 0) (by decide)
    have hLy : ro 1 ∈ zL T := hv.rl (by decide)
    have hKy : zK T (ro 1) = 15 := hv.k (o := 1) (n := 8) (by decide)
    have hNy : zN T (ro 1) = 8 := hv.n (o := 1) (k := 15) (by decide) (by decide)
    have hPy : zQ T 1100 (ro 0) = some (ro 1) := hv.q (by decide)
    refine lv_iinc (v := 6) (lv' := [(1, .int 6), (0, .ref (ro 0))]) hx hb_ dX11_init_131 hl (k := 0) rfl (by decide) (by decide) rfl (fun ls hl => ?_)
    refine lv_goto (tgt := 112) hx hb_ dX11_init_134 (by decide) ?_
    refine lv_iload_n hx hb_ dX11_init_112 rfl (lv_at hl 0 rfl) ?_
    refine lv_bipush (v := 8) hx hb_ dX11_init_113 (by decide) ?_
    refine lv_icmp_ge (tgt := 137) hx hb_ dX11_init_115 (by decide) (fun c_115 => absurd c_115 (by decide)) (fun _ => ?_)
    refine lv_aload_n hx hb_ dX11_init_118 rfl (lv_at hl 1 rfl) ?_
    refine z_get (k := 11) (i := 0) (j := 1100) (v := .ref (ro 1)) (ref := "FoldedInHalf") (C := RX11) (T := TX11) (N := 13) hcf hK_ hw hin11 hL hk rfl (by decide) (by decide) rfl rfl (congrArg va_rf hPy) (List.mem_of_getElem? (i := 5) rfl) (fun _ h_ => h_) dX11_init_119 ?_
    refine lv_iload_n hx hb_ dX11_init_122 rfl (lv_at hl 0 rfl) ?_
    refine z_new (k := 7) tyX7 hcf hK_ hw hA hin7 tyX7_ok (List.mem_of_getElem? (i := 4) rfl) (List.mem_of_getElem? (i := 26) rfl) (List.mem_of_getElem? (i := 27) rfl) rfl (by decide) zdf7 (Nat.le_of_ble_eq_true rfl) (Nat.le_of_ble_eq_true rfl) dX11_init_123 (fun q45 H_ hq_q45 hw => ?_)
    have hne_ro0_q45 : (ro 0) ≠ q45 := fun e_ => hq_q45 (e_ ▸ hL)
    have hk : zK (zNew T q45 7 0) (ro 0) = 11 := (va_up_ne _ _ hne_ro0_q45).trans hk
    have hL : (ro 0) ∈ zL (zNew T q45 7 0) := List.mem_append_left _ hL
    have hne_ro1_q45 : (ro 1) ≠ q45 := fun e_ => hq_q45 (e_ ▸ hLy)
    have hKy : zK (zNew T q45 7 0) (ro 1) = 15 := (va_up_ne _ _ hne_ro1_q45).trans hKy
    have hNy : zN (zNew T q45 7 0) (ro 1) = 8 := (va_up_ne _ _ hne_ro1_q45).trans hNy
    have hLy : (ro 1) ∈ zL (zNew T q45 7 0) := List.mem_append_left _ hLy
    have hL_q45 : q45 ∈ zL (zNew T q45 7 0) := zNew_m
    have hk_q45 : zK (zNew T q45 7 0) q45 = 7 := zNew_K
    have hn_q45 : zN (zNew T q45 7 0) q45 = 0 := zNew_N
    refine lv_dup hx hb_ dX11_init_126 rfl ?_
    refine z_kv hw hA (va_runIN (As := []) (rest := [.ref q45, .int 6, .ref (ro 1)]) hcf (c_X7_init l cD cy _ (zNew T q45 7 0) q45 hL_q45 hk_q45) ⟨va_cnB 0 hts gX11_init_X7_init_n64 rfl rfl rfl (nw_M_FoldedInHalf_64 hE) (hts (.initialized RX7) (by decide +kernel)) (by decide +kernel) ⟨Nat.le_of_ble_eq_true rfl, Nat.le_of_ble_eq_true rfl⟩, rfl, hts (.instanceMethod yX7_init) (by decide +kernel)⟩ (z_preS hK_ hE hw) rfl rfl hl.1 rfl (lv_room (Nat.le_of_ble_eq_true rfl)) dX11_init_127 ⟨Nat.le_of_ble_eq_true rfl, Nat.le_of_ble_eq_true rfl⟩) (fun S47 H_ locs_ hp hw => ?_)
    obtain ⟨q48, hq_q48, rfl⟩ := hp
    have hne_ro0_q48 : (ro 0) ≠ q48 := fun e_ => hq_q48 (e_ ▸ hL)
    have hk : zK (zNew (zNew T q45 7 0) q48 14 160) (ro 0) = 11 := (va_up_ne _ _ hne_ro0_q48).trans hk
    have hL : (ro 0) ∈ zL (zNew (zNew T q45 7 0) q48 14 160) := List.mem_append_left _ hL
    have hne_ro1_q48 : (ro 1) ≠ q48 := fun e_ => hq_q48 (e_ ▸ hLy)
    have hKy : zK (zNew (zNew T q45 7 0) q48 14 160) (ro 1) = 15 := (va_up_ne _ _ hne_ro1_q48).trans hKy
    have hNy : zN (zNew (zNew T q45 7 0) q48 14 160) (ro 1) = 8 := (va_up_ne _ _ hne_ro1_q48).trans hNy
    have hLy : (ro 1) ∈ zL (zNew (zNew T q45 7 0) q48 14 160) := List.mem_append_left _ hLy
    refine z_past (n := 8) hcf hK_ hw hLy hKy hNy hL_q45 hk_q45 (by unfold vp_in; decide) dX11_init_130 (fun H_ locs_ hw => ?_)
    exact J20 (zro (zro ro 23 q45) 31 q48) h0 (zsR (zsI (zsI (zsI (zsQ (zNew (zNew T q45 7 0) q48 14 160) 700 q45 (some q48)) 701 q45 0) 702 q45 (-1)) 703 q45 (-1)) (ro 1) (va_up (zR (zsI (zsI (zsI (zsQ (zNew (zNew T q45 7 0) q48 14 160) 700 q45 (some q48)) 701 q45 0) 702 q45 (-1)) 703 q45 (-1)) (ro 1)) (6 : Int32).toNatClampNeg (some q45))) (zIv_R (o := 1) (k := 6) (t0 := 23) (zIv_I (j := 703) (o := 23) (zIv_I (j := 702) (o := 23) (zIv_I (j := 701) (o := 23) (zIv_Q (j := 700) (o := 23) (t0 := 31) (zIv_new (zIv_new (hv) (by decide +kernel) hq_q45 (by decide)) (by decide +kernel) hq_q48 (by decide)) (by decide +kernel) (by decide) (by decide)) (by decide +kernel) (by decide) (by decide)) (by decide +kernel) (by decide) (by decide)) (by decide +kernel) (by decide) (by decide)) (by decide +kernel) (by decide) (by decide) (by decide)) _ _ hw ls hl
  have J18 : ∀ (ro : Nat → Nat), ro 0 = x0 → ∀ (T : zS), zIv ro [(29, 14, 160), (21, 7, 0), (28, 14, 160), (20, 7, 0), (27, 14, 160), (19, 7, 0), (26, 14, 160), (18, 7, 0), (25, 14, 160), (17, 7, 0), (16, 13, 8), (15, 13, 8), (14, 13, 9), (13, 13, 9), (12, 13, 2100), (10, 3, 0), (11, 16, 8), (9, 5, 0), (8, 13, 31), (7, 13, 8192), (6, 13, 8192), (5, 13, 20), (4, 13, 8), (3, 16, 8), (2, 16, 8), (1, 15, 8), (0, 11, 0)] [(700, 21, 29), (700, 20, 28), (700, 19, 27), (700, 18, 26), (700, 17, 25), (1109, 0, 10), (304, 10, 16), (303, 10, 15), (302, 10, 14), (301, 10, 13), (300, 10, 12), (1108, 0, 9), (500, 9, 11), (1107, 0, 8), (1106, 0, 7), (1105, 0, 6), (1104, 0, 5), (1103, 0, 4), (1102, 0, 3), (1101, 0, 2), (1100, 0, 1)] [(703, 21, (-1)), (702, 21, (-1)), (701, 21, 0), (703, 20, (-1)), (702, 20, (-1)), (701, 20, 0), (703, 19, (-1)), (702, 19, (-1)), (701, 19, 0), (703, 18, (-1)), (702, 18, (-1)), (701, 18, 0), (703, 17, (-1)), (702, 17, (-1)), (701, 17, 0), (1112, 0, 0), (1111, 0, (-1)), (1110, 0, 0), (306, 10, 0), (305, 10, 0), (506, 9, 0), (505, 9, 0), (503, 9, (-1)), (502, 9, 0), (501, 9, 0)] [29, 21, 28, 20, 27, 19, 26, 18, 25, 17, 16, 15, 14, 13, 12, 10, 11, 9, 8, 7, 6, 5, 4, 3, 2, 1] [(1, 4, 21), (1, 3, 20), (1, 2, 19), (1, 1, 18), (1, 0, 17)] [29, 21, 28, 20, 27, 19, 26, 18, 25, 17, 16, 15, 14, 13, 12, 10, 11, 9, 8, 7, 6, 5, 4, 3, 2] T → ∀ (H_ : Heap) (locs_ : List Loc), zPw cD cy A_ s_.heap T H_ locs_ → ∀ ls : Array Slot, lv_has ls 2 [(1, .int 4), (0, .ref (ro 0))] → W p_ l e_ ({ frames := 2, cells := 32, slots := 19935, locals := 40 } : Room) s_ m_ args_ below_ meth_ c_ H_ locs_ 26 19443 (MQ below_ (va_Qv (fun (S1 : zS) => ∃ r_ : Nat → Nat, r_ 0 = x0 ∧ ShC S1 r_ ∧ FrC S1 r_) (zPost cD cy A_) A_) args_ s_ 32 19935 A_) (F0 m_ 131 ls []) := by
    intro ro h0 T hv H_ locs_ hw ls hl
    have hL : ro 0 ∈ zL T := hv.rl (by decide)
    have hk : zK T (ro 0) = 11 := hv.k (o := 0) (n := 0) (by decide)
    have hLy : ro 1 ∈ zL T := hv.rl (by decide)
    have hKy : zK T (ro 1) = 15 := hv.k (o := 1) (n := 8) (by decide)
    have hNy : zN T (ro 1) = 8 := hv.n (o := 1) (k := 15) (by decide) (by decide)
    have hPy : zQ T 1100 (ro 0) = some (ro 1) := hv.q (by decide)
    refine lv_iinc (v := 5) (lv' := [(1, .int 5), (0, .ref (ro 0))]) hx hb_ dX11_init_131 hl (k := 0) rfl (by decide) (by decide) rfl (fun ls hl => ?_)
    refine lv_goto (tgt := 112) hx hb_ dX11_init_134 (by decide) ?_
    refine lv_iload_n hx hb_ dX11_init_112 rfl (lv_at hl 0 rfl) ?_
    refine lv_bipush (v := 8) hx hb_ dX11_init_113 (by decide) ?_
    refine lv_icmp_ge (tgt := 137) hx hb_ dX11_init_115 (by decide) (fun c_115 => absurd c_115 (by decide)) (fun _ => ?_)
    refine lv_aload_n hx hb_ dX11_init_118 rfl (lv_at hl 1 rfl) ?_
    refine z_get (k := 11) (i := 0) (j := 1100) (v := .ref (ro 1)) (ref := "FoldedInHalf") (C := RX11) (T := TX11) (N := 13) hcf hK_ hw hin11 hL hk rfl (by decide) (by decide) rfl rfl (congrArg va_rf hPy) (List.mem_of_getElem? (i := 5) rfl) (fun _ h_ => h_) dX11_init_119 ?_
    refine lv_iload_n hx hb_ dX11_init_122 rfl (lv_at hl 0 rfl) ?_
    refine z_new (k := 7) tyX7 hcf hK_ hw hA hin7 tyX7_ok (List.mem_of_getElem? (i := 4) rfl) (List.mem_of_getElem? (i := 26) rfl) (List.mem_of_getElem? (i := 27) rfl) rfl (by decide) zdf7 (Nat.le_of_ble_eq_true rfl) (Nat.le_of_ble_eq_true rfl) dX11_init_123 (fun q41 H_ hq_q41 hw => ?_)
    have hne_ro0_q41 : (ro 0) ≠ q41 := fun e_ => hq_q41 (e_ ▸ hL)
    have hk : zK (zNew T q41 7 0) (ro 0) = 11 := (va_up_ne _ _ hne_ro0_q41).trans hk
    have hL : (ro 0) ∈ zL (zNew T q41 7 0) := List.mem_append_left _ hL
    have hne_ro1_q41 : (ro 1) ≠ q41 := fun e_ => hq_q41 (e_ ▸ hLy)
    have hKy : zK (zNew T q41 7 0) (ro 1) = 15 := (va_up_ne _ _ hne_ro1_q41).trans hKy
    have hNy : zN (zNew T q41 7 0) (ro 1) = 8 := (va_up_ne _ _ hne_ro1_q41).trans hNy
    have hLy : (ro 1) ∈ zL (zNew T q41 7 0) := List.mem_append_left _ hLy
    have hL_q41 : q41 ∈ zL (zNew T q41 7 0) := zNew_m
    have hk_q41 : zK (zNew T q41 7 0) q41 = 7 := zNew_K
    have hn_q41 : zN (zNew T q41 7 0) q41 = 0 := zNew_N
    refine lv_dup hx hb_ dX11_init_126 rfl ?_
    refine z_kv hw hA (va_runIN (As := []) (rest := [.ref q41, .int 5, .ref (ro 1)]) hcf (c_X7_init l cD cy _ (zNew T q41 7 0) q41 hL_q41 hk_q41) ⟨va_cnB 0 hts gX11_init_X7_init_n64 rfl rfl rfl (nw_M_FoldedInHalf_64 hE) (hts (.initialized RX7) (by decide +kernel)) (by decide +kernel) ⟨Nat.le_of_ble_eq_true rfl, Nat.le_of_ble_eq_true rfl⟩, rfl, hts (.instanceMethod yX7_init) (by decide +kernel)⟩ (z_preS hK_ hE hw) rfl rfl hl.1 rfl (lv_room (Nat.le_of_ble_eq_true rfl)) dX11_init_127 ⟨Nat.le_of_ble_eq_true rfl, Nat.le_of_ble_eq_true rfl⟩) (fun S43 H_ locs_ hp hw => ?_)
    obtain ⟨q44, hq_q44, rfl⟩ := hp
    have hne_ro0_q44 : (ro 0) ≠ q44 := fun e_ => hq_q44 (e_ ▸ hL)
    have hk : zK (zNew (zNew T q41 7 0) q44 14 160) (ro 0) = 11 := (va_up_ne _ _ hne_ro0_q44).trans hk
    have hL : (ro 0) ∈ zL (zNew (zNew T q41 7 0) q44 14 160) := List.mem_append_left _ hL
    have hne_ro1_q44 : (ro 1) ≠ q44 := fun e_ => hq_q44 (e_ ▸ hLy)
    have hKy : zK (zNew (zNew T q41 7 0) q44 14 160) (ro 1) = 15 := (va_up_ne _ _ hne_ro1_q44).trans hKy
    have hNy : zN (zNew (zNew T q41 7 0) q44 14 160) (ro 1) = 8 := (va_up_ne _ _ hne_ro1_q44).trans hNy
    have hLy : (ro 1) ∈ zL (zNew (zNew T q41 7 0) q44 14 160) := List.mem_append_left _ hLy
    refine z_past (n := 8) hcf hK_ hw hLy hKy hNy hL_q41 hk_q41 (by unfold vp_in; decide) dX11_init_130 (fun H_ locs_ hw => ?_)
    exact J19 (zro (zro ro 22 q41) 30 q44) h0 (zsR (zsI (zsI (zsI (zsQ (zNew (zNew T q41 7 0) q44 14 160) 700 q41 (some q44)) 701 q41 0) 702 q41 (-1)) 703 q41 (-1)) (ro 1) (va_up (zR (zsI (zsI (zsI (zsQ (zNew (zNew T q41 7 0) q44 14 160) 700 q41 (some q44)) 701 q41 0) 702 q41 (-1)) 703 q41 (-1)) (ro 1)) (5 : Int32).toNatClampNeg (some q41))) (zIv_R (o := 1) (k := 5) (t0 := 22) (zIv_I (j := 703) (o := 22) (zIv_I (j := 702) (o := 22) (zIv_I (j := 701) (o := 22) (zIv_Q (j := 700) (o := 22) (t0 := 30) (zIv_new (zIv_new (hv) (by decide +kernel) hq_q41 (by decide)) (by decide +kernel) hq_q44 (by decide)) (by decide +kernel) (by decide) (by decide)) (by decide +kernel) (by decide) (by decide)) (by decide +kernel) (by decide) (by decide)) (by decide +kernel) (by decide) (by decide)) (by decide +kernel) (by decide) (by decide) (by decide)) _ _ hw ls hl
  have J17 : ∀ (ro : Nat → Nat), ro 0 = x0 → ∀ (T : zS), zIv ro [(28, 14, 160), (20, 7, 0), (27, 14, 160), (19, 7, 0), (26, 14, 160), (18, 7, 0), (25, 14, 160), (17, 7, 0), (16, 13, 8), (15, 13, 8), (14, 13, 9), (13, 13, 9), (12, 13, 2100), (10, 3, 0), (11, 16, 8), (9, 5, 0), (8, 13, 31), (7, 13, 8192), (6, 13, 8192), (5, 13, 20), (4, 13, 8), (3, 16, 8), (2, 16, 8), (1, 15, 8), (0, 11, 0)] [(700, 20, 28), (700, 19, 27), (700, 18, 26), (700, 17, 25), (1109, 0, 10), (304, 10, 16), (303, 10, 15), (302, 10, 14), (301, 10, 13), (300, 10, 12), (1108, 0, 9), (500, 9, 11), (1107, 0, 8), (1106, 0, 7), (1105, 0, 6), (1104, 0, 5), (1103, 0, 4), (1102, 0, 3), (1101, 0, 2), (1100, 0, 1)] [(703, 20, (-1)), (702, 20, (-1)), (701, 20, 0), (703, 19, (-1)), (702, 19, (-1)), (701, 19, 0), (703, 18, (-1)), (702, 18, (-1)), (701, 18, 0), (703, 17, (-1)), (702, 17, (-1)), (701, 17, 0), (1112, 0, 0), (1111, 0, (-1)), (1110, 0, 0), (306, 10, 0), (305, 10, 0), (506, 9, 0), (505, 9, 0), (503, 9, (-1)), (502, 9, 0), (501, 9, 0)] [28, 20, 27, 19, 26, 18, 25, 17, 16, 15, 14, 13, 12, 10, 11, 9, 8, 7, 6, 5, 4, 3, 2, 1] [(1, 3, 20), (1, 2, 19), (1, 1, 18), (1, 0, 17)] [28, 20, 27, 19, 26, 18, 25, 17, 16, 15, 14, 13, 12, 10, 11, 9, 8, 7, 6, 5, 4, 3, 2] T → ∀ (H_ : Heap) (locs_ : List Loc), zPw cD cy A_ s_.heap T H_ locs_ → ∀ ls : Array Slot, lv_has ls 2 [(1, .int 3), (0, .ref (ro 0))] → W p_ l e_ ({ frames := 2, cells := 32, slots := 19935, locals := 40 } : Room) s_ m_ args_ below_ meth_ c_ H_ locs_ 24 19279 (MQ below_ (va_Qv (fun (S1 : zS) => ∃ r_ : Nat → Nat, r_ 0 = x0 ∧ ShC S1 r_ ∧ FrC S1 r_) (zPost cD cy A_) A_) args_ s_ 32 19935 A_) (F0 m_ 131 ls []) := by
    intro ro h0 T hv H_ locs_ hw ls hl
    have hL : ro 0 ∈ zL T := hv.rl (by decide)
    have hk : zK T (ro 0) = 11 := hv.k (o := 0) (n := 0) (by decide)
    have hLy : ro 1 ∈ zL T := hv.rl (by decide)
    have hKy : zK T (ro 1) = 15 := hv.k (o := 1) (n := 8) (by decide)
    have hNy : zN T (ro 1) = 8 := hv.n (o := 1) (k := 15) (by decide) (by decide)
    have hPy : zQ T 1100 (ro 0) = some (ro 1) := hv.q (by decide)
    refine lv_iinc (v := 4) (lv' := [(1, .int 4), (0, .ref (ro 0))]) hx hb_ dX11_init_131 hl (k := 0) rfl (by decide) (by decide) rfl (fun ls hl => ?_)
    refine lv_goto (tgt := 112) hx hb_ dX11_init_134 (by decide) ?_
    refine lv_iload_n hx hb_ dX11_init_112 rfl (lv_at hl 0 rfl) ?_
    refine lv_bipush (v := 8) hx hb_ dX11_init_113 (by decide) ?_
    refine lv_icmp_ge (tgt := 137) hx hb_ dX11_init_115 (by decide) (fun c_115 => absurd c_115 (by decide)) (fun _ => ?_)
    refine lv_aload_n hx hb_ dX11_init_118 rfl (lv_at hl 1 rfl) ?_
    refine z_get (k := 11) (i := 0) (j := 1100) (v := .ref (ro 1)) (ref := "FoldedInHalf") (C := RX11) (T := TX11) (N := 13) hcf hK_ hw hin11 hL hk rfl (by decide) (by decide) rfl rfl (congrArg va_rf hPy) (List.mem_of_getElem? (i := 5) rfl) (fun _ h_ => h_) dX11_init_119 ?_
    refine lv_iload_n hx hb_ dX11_init_122 rfl (lv_at hl 0 rfl) ?_
    refine z_new (k := 7) tyX7 hcf hK_ hw hA hin7 tyX7_ok (List.mem_of_getElem? (i := 4) rfl) (List.mem_of_getElem? (i := 26) rfl) (List.mem_of_getElem? (i := 27) rfl) rfl (by decide) zdf7 (Nat.le_of_ble_eq_true rfl) (Nat.le_of_ble_eq_true rfl) dX11_init_123 (fun q37 H_ hq_q37 hw => ?_)
    have hne_ro0_q37 : (ro 0) ≠ q37 := fun e_ => hq_q37 (e_ ▸ hL)
    have hk : zK (zNew T q37 7 0) (ro 0) = 11 := (va_up_ne _ _ hne_ro0_q37).trans hk
    have hL : (ro 0) ∈ zL (zNew T q37 7 0) := List.mem_append_left _ hL
    have hne_ro1_q37 : (ro 1) ≠ q37 := fun e_ => hq_q37 (e_ ▸ hLy)
    have hKy : zK (zNew T q37 7 0) (ro 1) = 15 := (va_up_ne _ _ hne_ro1_q37).trans hKy
    have hNy : zN (zNew T q37 7 0) (ro 1) = 8 := (va_up_ne _ _ hne_ro1_q37).trans hNy
    have hLy : (ro 1) ∈ zL (zNew T q37 7 0) := List.mem_append_left _ hLy
    have hL_q37 : q37 ∈ zL (zNew T q37 7 0) := zNew_m
    have hk_q37 : zK (zNew T q37 7 0) q37 = 7 := zNew_K
    have hn_q37 : zN (zNew T q37 7 0) q37 = 0 := zNew_N
    refine lv_dup hx hb_ dX11_init_126 rfl ?_
    refine z_kv hw hA (va_runIN (As := []) (rest := [.ref q37, .int 4, .ref (ro 1)]) hcf (c_X7_init l cD cy _ (zNew T q37 7 0) q37 hL_q37 hk_q37) ⟨va_cnB 0 hts gX11_init_X7_init_n64 rfl rfl rfl (nw_M_FoldedInHalf_64 hE) (hts (.initialized RX7) (by decide +kernel)) (by decide +kernel) ⟨Nat.le_of_ble_eq_true rfl, Nat.le_of_ble_eq_true rfl⟩, rfl, hts (.instanceMethod yX7_init) (by decide +kernel)⟩ (z_preS hK_ hE hw) rfl rfl hl.1 rfl (lv_room (Nat.le_of_ble_eq_true rfl)) dX11_init_127 ⟨Nat.le_of_ble_eq_true rfl, Nat.le_of_ble_eq_true rfl⟩) (fun S39 H_ locs_ hp hw => ?_)
    obtain ⟨q40, hq_q40, rfl⟩ := hp
    have hne_ro0_q40 : (ro 0) ≠ q40 := fun e_ => hq_q40 (e_ ▸ hL)
    have hk : zK (zNew (zNew T q37 7 0) q40 14 160) (ro 0) = 11 := (va_up_ne _ _ hne_ro0_q40).trans hk
    have hL : (ro 0) ∈ zL (zNew (zNew T q37 7 0) q40 14 160) := List.mem_append_left _ hL
    have hne_ro1_q40 : (ro 1) ≠ q40 := fun e_ => hq_q40 (e_ ▸ hLy)
    have hKy : zK (zNew (zNew T q37 7 0) q40 14 160) (ro 1) = 15 := (va_up_ne _ _ hne_ro1_q40).trans hKy
    have hNy : zN (zNew (zNew T q37 7 0) q40 14 160) (ro 1) = 8 := (va_up_ne _ _ hne_ro1_q40).trans hNy
    have hLy : (ro 1) ∈ zL (zNew (zNew T q37 7 0) q40 14 160) := List.mem_append_left _ hLy
    refine z_past (n := 8) hcf hK_ hw hLy hKy hNy hL_q37 hk_q37 (by unfold vp_in; decide) dX11_init_130 (fun H_ locs_ hw => ?_)
    exact J18 (zro (zro ro 21 q37) 29 q40) h0 (zsR (zsI (zsI (zsI (zsQ (zNew (zNew T q37 7 0) q40 14 160) 700 q37 (some q40)) 701 q37 0) 702 q37 (-1)) 703 q37 (-1)) (ro 1) (va_up (zR (zsI (zsI (zsI (zsQ (zNew (zNew T q37 7 0) q40 14 160) 700 q37 (some q40)) 701 q37 0) 702 q37 (-1)) 703 q37 (-1)) (ro 1)) (4 : Int32).toNatClampNeg (some q37))) (zIv_R (o := 1) (k := 4) (t0 := 21) (zIv_I (j := 703) (o := 21) (zIv_I (j := 702) (o := 21) (zIv_I (j := 701) (o := 21) (zIv_Q (j := 700) (o := 21) (t0 := 29) (zIv_new (zIv_new (hv) (by decide +kernel) hq_q37 (by decide)) (by decide +kernel) hq_q40 (by decide)) (by decide +kernel) (by decide) (by decide)) (by decide +kernel) (by decide) (by decide)) (by decide +kernel) (by decide) (by decide)) (by decide +kernel) (by decide) (by decide)) (by decide +kernel) (by decide) (by decide) (by decide)) _ _ hw ls hl
  have J16 : ∀ (ro : Nat → Nat), ro 0 = x0 → ∀ (T : zS), zIv ro [(27, 14, 160), (19, 7, 0), (26, 14, 160), (18, 7, 0), (25, 14, 160), (17, 7, 0), (16, 13, 8), (15, 13, 8), (14, 13, 9), (13, 13, 9), (12, 13, 2100), (10, 3, 0), (11, 16, 8), (9, 5, 0), (8, 13, 31), (7, 13, 8192), (6, 13, 8192), (5, 13, 20), (4, 13, 8), (3, 16, 8), (2, 16, 8), (1, 15, 8), (0, 11, 0)] [(700, 19, 27), (700, 18, 26), (700, 17, 25), (1109, 0, 10), (304, 10, 16), (303, 10, 15), (302, 10, 14), (301, 10, 13), (300, 10, 12), (1108, 0, 9), (500, 9, 11), (1107, 0, 8), (1106, 0, 7), (1105, 0, 6), (1104, 0, 5), (1103, 0, 4), (1102, 0, 3), (1101, 0, 2), (1100, 0, 1)] [(703, 19, (-1)), (702, 19, (-1)), (701, 19, 0), (703, 18, (-1)), (702, 18, (-1)), (701, 18, 0), (703, 17, (-1)), (702, 17, (-1)), (701, 17, 0), (1112, 0, 0), (1111, 0, (-1)), (1110, 0, 0), (306, 10, 0), (305, 10, 0), (506, 9, 0), (505, 9, 0), (503, 9, (-1)), (502, 9, 0), (501, 9, 0)] [27, 19, 26, 18, 25, 17, 16, 15, 14, 13, 12, 10, 11, 9, 8, 7, 6, 5, 4, 3, 2, 1] [(1, 2, 19), (1, 1, 18), (1, 0, 17)] [27, 19, 26, 18, 25, 17, 16, 15, 14, 13, 12, 10, 11, 9, 8, 7, 6, 5, 4, 3, 2] T → ∀ (H_ : Heap) (locs_ : List Loc), zPw cD cy A_ s_.heap T H_ locs_ → ∀ ls : Array Slot, lv_has ls 2 [(1, .int 2), (0, .ref (ro 0))] → W p_ l e_ ({ frames := 2, cells := 32, slots := 19935, locals := 40 } : Room) s_ m_ args_ below_ meth_ c_ H_ locs_ 22 19115 (MQ below_ (va_Qv (fun (S1 : zS) => ∃ r_ : Nat → Nat, r_ 0 = x0 ∧ ShC S1 r_ ∧ FrC S1 r_) (zPost cD cy A_) A_) args_ s_ 32 19935 A_) (F0 m_ 131 ls []) := by
    intro ro h0 T hv H_ locs_ hw ls hl
    have hL : ro 0 ∈ zL T := hv.rl (by decide)
    have hk : zK T (ro 0) = 11 := hv.k (o := 0) (n := 0) (by decide)
    have hLy : ro 1 ∈ zL T := hv.rl (by decide)
    have hKy : zK T (ro 1) = 15 := hv.k (o := 1) (n := 8) (by decide)
    have hNy : zN T (ro 1) = 8 := hv.n (o := 1) (k := 15) (by decide) (by decide)
    have hPy : zQ T 1100 (ro 0) = some (ro 1) := hv.q (by decide)
    refine lv_iinc (v := 3) (lv' := [(1, .int 3), (0, .ref (ro 0))]) hx hb_ dX11_init_131 hl (k := 0) rfl (by decide) (by decide) rfl (fun ls hl => ?_)
    refine lv_goto (tgt := 112) hx hb_ dX11_init_134 (by decide) ?_
    refine lv_iload_n hx hb_ dX11_init_112 rfl (lv_at hl 0 rfl) ?_
    refine lv_bipush (v := 8) hx hb_ dX11_init_113 (by decide) ?_
    refine lv_icmp_ge (tgt := 137) hx hb_ dX11_init_115 (by decide) (fun c_115 => absurd c_115 (by decide)) (fun _ => ?_)
    refine lv_aload_n hx hb_ dX11_init_118 rfl (lv_at hl 1 rfl) ?_
    refine z_get (k := 11) (i := 0) (j := 1100) (v := .ref (ro 1)) (ref := "FoldedInHalf") (C := RX11) (T := TX11) (N := 13) hcf hK_ hw hin11 hL hk rfl (by decide) (by decide) rfl rfl (congrArg va_rf hPy) (List.mem_of_getElem? (i := 5) rfl) (fun _ h_ => h_) dX11_init_119 ?_
    refine lv_iload_n hx hb_ dX11_init_122 rfl (lv_at hl 0 rfl) ?_
    refine z_new (k := 7) tyX7 hcf hK_ hw hA hin7 tyX7_ok (List.mem_of_getElem? (i := 4) rfl) (List.mem_of_getElem? (i := 26) rfl) (List.mem_of_getElem? (i := 27) rfl) rfl (by decide) zdf7 (Nat.le_of_ble_eq_true rfl) (Nat.le_of_ble_eq_true rfl) dX11_init_123 (fun q33 H_ hq_q33 hw => ?_)
    have hne_ro0_q33 : (ro 0) ≠ q33 := fun e_ => hq_q33 (e_ ▸ hL)
    have hk : zK (zNew T q33 7 0) (ro 0) = 11 := (va_up_ne _ _ hne_ro0_q33).trans hk
    have hL : (ro 0) ∈ zL (zNew T q33 7 0) := List.mem_append_left _ hL
    have hne_ro1_q33 : (ro 1) ≠ q33 := fun e_ => hq_q33 (e_ ▸ hLy)
    have hKy : zK (zNew T q33 7 0) (ro 1) = 15 := (va_up_ne _ _ hne_ro1_q33).trans hKy
    have hNy : zN (zNew T q33 7 0) (ro 1) = 8 := (va_up_ne _ _ hne_ro1_q33).trans hNy
    have hLy : (ro 1) ∈ zL (zNew T q33 7 0) := List.mem_append_left _ hLy
    have hL_q33 : q33 ∈ zL (zNew T q33 7 0) := zNew_m
    have hk_q33 : zK (zNew T q33 7 0) q33 = 7 := zNew_K
    have hn_q33 : zN (zNew T q33 7 0) q33 = 0 := zNew_N
    refine lv_dup hx hb_ dX11_init_126 rfl ?_
    refine z_kv hw hA (va_runIN (As := []) (rest := [.ref q33, .int 3, .ref (ro 1)]) hcf (c_X7_init l cD cy _ (zNew T q33 7 0) q33 hL_q33 hk_q33) ⟨va_cnB 0 hts gX11_init_X7_init_n64 rfl rfl rfl (nw_M_FoldedInHalf_64 hE) (hts (.initialized RX7) (by decide +kernel)) (by decide +kernel) ⟨Nat.le_of_ble_eq_true rfl, Nat.le_of_ble_eq_true rfl⟩, rfl, hts (.instanceMethod yX7_init) (by decide +kernel)⟩ (z_preS hK_ hE hw) rfl rfl hl.1 rfl (lv_room (Nat.le_of_ble_eq_true rfl)) dX11_init_127 ⟨Nat.le_of_ble_eq_true rfl, Nat.le_of_ble_eq_true rfl⟩) (fun S35 H_ locs_ hp hw => ?_)
    obtain ⟨q36, hq_q36, rfl⟩ := hp
    have hne_ro0_q36 : (ro 0) ≠ q36 := fun e_ => hq_q36 (e_ ▸ hL)
    have hk : zK (zNew (zNew T q33 7 0) q36 14 160) (ro 0) = 11 := (va_up_ne _ _ hne_ro0_q36).trans hk
    have hL : (ro 0) ∈ zL (zNew (zNew T q33 7 0) q36 14 160) := List.mem_append_left _ hL
    have hne_ro1_q36 : (ro 1) ≠ q36 := fun e_ => hq_q36 (e_ ▸ hLy)
    have hKy : zK (zNew (zNew T q33 7 0) q36 14 160) (ro 1) = 15 := (va_up_ne _ _ hne_ro1_q36).trans hKy
    have hNy : zN (zNew (zNew T q33 7 0) q36 14 160) (ro 1) = 8 := (va_up_ne _ _ hne_ro1_q36).trans hNy
    have hLy : (ro 1) ∈ zL (zNew (zNew T q33 7 0) q36 14 160) := List.mem_append_left _ hLy
    refine z_past (n := 8) hcf hK_ hw hLy hKy hNy hL_q33 hk_q33 (by unfold vp_in; decide) dX11_init_130 (fun H_ locs_ hw => ?_)
    exact J17 (zro (zro ro 20 q33) 28 q36) h0 (zsR (zsI (zsI (zsI (zsQ (zNew (zNew T q33 7 0) q36 14 160) 700 q33 (some q36)) 701 q33 0) 702 q33 (-1)) 703 q33 (-1)) (ro 1) (va_up (zR (zsI (zsI (zsI (zsQ (zNew (zNew T q33 7 0) q36 14 160) 700 q33 (some q36)) 701 q33 0) 702 q33 (-1)) 703 q33 (-1)) (ro 1)) (3 : Int32).toNatClampNeg (some q33))) (zIv_R (o := 1) (k := 3) (t0 := 20) (zIv_I (j := 703) (o := 20) (zIv_I (j := 702) (o := 20) (zIv_I (j := 701) (o := 20) (zIv_Q (j := 700) (o := 20) (t0 := 28) (zIv_new (zIv_new (hv) (by decide +kernel) hq_q33 (by decide)) (by decide +kernel) hq_q36 (by decide)) (by decide +kernel) (by decide) (by decide)) (by decide +kernel) (by decide) (by decide)) (by decide +kernel) (by decide) (by decide)) (by decide +kernel) (by decide) (by decide)) (by decide +kernel) (by decide) (by decide) (by decide)) _ _ hw ls hl
  have J15 : ∀ (ro : Nat → Nat), ro 0 = x0 → ∀ (T : zS), zIv ro [(26, 14, 160), (18, 7, 0), (25, 14, 160), (17, 7, 0), (16, 13, 8), (15, 13, 8), (14, 13, 9), (13, 13, 9), (12, 13, 2100), (10, 3, 0), (11, 16, 8), (9, 5, 0), (8, 13, 31), (7, 13, 8192), (6, 13, 8192), (5, 13, 20), (4, 13, 8), (3, 16, 8), (2, 16, 8), (1, 15, 8), (0, 11, 0)] [(700, 18, 26), (700, 17, 25), (1109, 0, 10), (304, 10, 16), (303, 10, 15), (302, 10, 14), (301, 10, 13), (300, 10, 12), (1108, 0, 9), (500, 9, 11), (1107, 0, 8), (1106, 0, 7), (1105, 0, 6), (1104, 0, 5), (1103, 0, 4), (1102, 0, 3), (1101, 0, 2), (1100, 0, 1)] [(703, 18, (-1)), (702, 18, (-1)), (701, 18, 0), (703, 17, (-1)), (702, 17, (-1)), (701, 17, 0), (1112, 0, 0), (1111, 0, (-1)), (1110, 0, 0), (306, 10, 0), (305, 10, 0), (506, 9, 0), (505, 9, 0), (503, 9, (-1)), (502, 9, 0), (501, 9, 0)] [26, 18, 25, 17, 16, 15, 14, 13, 12, 10, 11, 9, 8, 7, 6, 5, 4, 3, 2, 1] [(1, 1, 18), (1, 0, 17)] [26, 18, 25, 17, 16, 15, 14, 13, 12, 10, 11, 9, 8, 7, 6, 5, 4, 3, 2] T → ∀ (H_ : Heap) (locs_ : List Loc), zPw cD cy A_ s_.heap T H_ locs_ → ∀ ls : Array Slot, lv_has ls 2 [(1, .int 1), (0, .ref (ro 0))] → W p_ l e_ ({ frames := 2, cells := 32, slots := 19935, locals := 40 } : Room) s_ m_ args_ below_ meth_ c_ H_ locs_ 20 18951 (MQ below_ (va_Qv (fun (S1 : zS) => ∃ r_ : Nat → Nat, r_ 0 = x0 ∧ ShC S1 r_ ∧ FrC S1 r_) (zPost cD cy A_) A_) args_ s_ 32 19935 A_) (F0 m_ 131 ls []) := by
    intro ro h0 T hv H_ locs_ hw ls hl
    have hL : ro 0 ∈ zL T := hv.rl (by decide)
    have hk : zK T (ro 0) = 11 := hv.k (o := 0) (n := 0) (by decide)
    have hLy : ro 1 ∈ zL T := hv.rl (by decide)
    have hKy : zK T (ro 1) = 15 := hv.k (o := 1) (n := 8) (by decide)
    have hNy : zN T (ro 1) = 8 := hv.n (o := 1) (k := 15) (by decide) (by decide)
    have hPy : zQ T 1100 (ro 0) = some (ro 1) := hv.q (by decide)
    refine lv_iinc (v := 2) (lv' := [(1, .int 2), (0, .ref (ro 0))]) hx hb_ dX11_init_131 hl (k := 0) rfl (by decide) (by decide) rfl (fun ls hl => ?_)
    refine lv_goto (tgt := 112) hx hb_ dX11_init_134 (by decide) ?_
    refine lv_iload_n hx hb_ dX11_init_112 rfl (lv_at hl 0 rfl) ?_
    refine lv_bipush (v := 8) hx hb_ dX11_init_113 (by decide) ?_
    refine lv_icmp_ge (tgt := 137) hx hb_ dX11_init_115 (by decide) (fun c_115 => absurd c_115 (by decide)) (fun _ => ?_)
    refine lv_aload_n hx hb_ dX11_init_118 rfl (lv_at hl 1 rfl) ?_
    refine z_get (k := 11) (i := 0) (j := 1100) (v := .ref (ro 1)) (ref := "FoldedInHalf") (C := RX11) (T := TX11) (N := 13) hcf hK_ hw hin11 hL hk rfl (by decide) (by decide) rfl rfl (congrArg va_rf hPy) (List.mem_of_getElem? (i := 5) rfl) (fun _ h_ => h_) dX11_init_119 ?_
    refine lv_iload_n hx hb_ dX11_init_122 rfl (lv_at hl 0 rfl) ?_
    refine z_new (k := 7) tyX7 hcf hK_ hw hA hin7 tyX7_ok (List.mem_of_getElem? (i := 4) rfl) (List.mem_of_getElem? (i := 26) rfl) (List.mem_of_getElem? (i := 27) rfl) rfl (by decide) zdf7 (Nat.le_of_ble_eq_true rfl) (Nat.le_of_ble_eq_true rfl) dX11_init_123 (fun q29 H_ hq_q29 hw => ?_)
    have hne_ro0_q29 : (ro 0) ≠ q29 := fun e_ => hq_q29 (e_ ▸ hL)
    have hk : zK (zNew T q29 7 0) (ro 0) = 11 := (va_up_ne _ _ hne_ro0_q29).trans hk
    have hL : (ro 0) ∈ zL (zNew T q29 7 0) := List.mem_append_left _ hL
    have hne_ro1_q29 : (ro 1) ≠ q29 := fun e_ => hq_q29 (e_ ▸ hLy)
    have hKy : zK (zNew T q29 7 0) (ro 1) = 15 := (va_up_ne _ _ hne_ro1_q29).trans hKy
    have hNy : zN (zNew T q29 7 0) (ro 1) = 8 := (va_up_ne _ _ hne_ro1_q29).trans hNy
    have hLy : (ro 1) ∈ zL (zNew T q29 7 0) := List.mem_append_left _ hLy
    have hL_q29 : q29 ∈ zL (zNew T q29 7 0) := zNew_m
    have hk_q29 : zK (zNew T q29 7 0) q29 = 7 := zNew_K
    have hn_q29 : zN (zNew T q29 7 0) q29 = 0 := zNew_N
    refine lv_dup hx hb_ dX11_init_126 rfl ?_
    refine z_kv hw hA (va_runIN (As := []) (rest := [.ref q29, .int 2, .ref (ro 1)]) hcf (c_X7_init l cD cy _ (zNew T q29 7 0) q29 hL_q29 hk_q29) ⟨va_cnB 0 hts gX11_init_X7_init_n64 rfl rfl rfl (nw_M_FoldedInHalf_64 hE) (hts (.initialized RX7) (by decide +kernel)) (by decide +kernel) ⟨Nat.le_of_ble_eq_true rfl, Nat.le_of_ble_eq_true rfl⟩, rfl, hts (.instanceMethod yX7_init) (by decide +kernel)⟩ (z_preS hK_ hE hw) rfl rfl hl.1 rfl (lv_room (Nat.le_of_ble_eq_true rfl)) dX11_init_127 ⟨Nat.le_of_ble_eq_true rfl, Nat.le_of_ble_eq_true rfl⟩) (fun S31 H_ locs_ hp hw => ?_)
    obtain ⟨q32, hq_q32, rfl⟩ := hp
    have hne_ro0_q32 : (ro 0) ≠ q32 := fun e_ => hq_q32 (e_ ▸ hL)
    have hk : zK (zNew (zNew T q29 7 0) q32 14 160) (ro 0) = 11 := (va_up_ne _ _ hne_ro0_q32).trans hk
    have hL : (ro 0) ∈ zL (zNew (zNew T q29 7 0) q32 14 160) := List.mem_append_left _ hL
    have hne_ro1_q32 : (ro 1) ≠ q32 := fun e_ => hq_q32 (e_ ▸ hLy)
    have hKy : zK (zNew (zNew T q29 7 0) q32 14 160) (ro 1) = 15 := (va_up_ne _ _ hne_ro1_q32).trans hKy
    have hNy : zN (zNew (zNew T q29 7 0) q32 14 160) (ro 1) = 8 := (va_up_ne _ _ hne_ro1_q32).trans hNy
    have hLy : (ro 1) ∈ zL (zNew (zNew T q29 7 0) q32 14 160) := List.mem_append_left _ hLy
    refine z_past (n := 8) hcf hK_ hw hLy hKy hNy hL_q29 hk_q29 (by unfold vp_in; decide) dX11_init_130 (fun H_ locs_ hw => ?_)
    exact J16 (zro (zro ro 19 q29) 27 q32) h0 (zsR (zsI (zsI (zsI (zsQ (zNew (zNew T q29 7 0) q32 14 160) 700 q29 (some q32)) 701 q29 0) 702 q29 (-1)) 703 q29 (-1)) (ro 1) (va_up (zR (zsI (zsI (zsI (zsQ (zNew (zNew T q29 7 0) q32 14 160) 700 q29 (some q32)) 701 q29 0) 702 q29 (-1)) 703 q29 (-1)) (ro 1)) (2 : Int32).toNatClampNeg (some q29))) (zIv_R (o := 1) (k := 2) (t0 := 19) (zIv_I (j := 703) (o := 19) (zIv_I (j := 702) (o := 19) (zIv_I (j := 701) (o := 19) (zIv_Q (j := 700) (o := 19) (t0 := 27) (zIv_new (zIv_new (hv) (by decide +kernel) hq_q29 (by decide)) (by decide +kernel) hq_q32 (by decide)) (by decide +kernel) (by decide) (by decide)) (by decide +kernel) (by decide) (by decide)) (by decide +kernel) (by decide) (by decide)) (by decide +kernel) (by decide) (by decide)) (by decide +kernel) (by decide) (by decide) (by decide)) _ _ hw ls hl
  have J14 : ∀ (ro : Nat → Nat), ro 0 = x0 → ∀ (T : zS), zIv ro [(25, 14, 160), (17, 7, 0), (16, 13, 8), (15, 13, 8), (14, 13, 9), (13, 13, 9), (12, 13, 2100), (10, 3, 0), (11, 16, 8), (9, 5, 0), (8, 13, 31), (7, 13, 8192), (6, 13, 8192), (5, 13, 20), (4, 13, 8), (3, 16, 8), (2, 16, 8), (1, 15, 8), (0, 11, 0)] [(700, 17, 25), (1109, 0, 10), (304, 10, 16), (303, 10, 15), (302, 10, 14), (301, 10, 13), (300, 10, 12), (1108, 0, 9), (500, 9, 11), (1107, 0, 8), (1106, 0, 7), (1105, 0, 6), (1104, 0, 5), (1103, 0, 4), (1102, 0, 3), (1101, 0, 2), (1100, 0, 1)] [(703, 17, (-1)), (702, 17, (-1)), (701, 17, 0), (1112, 0, 0), (1111, 0, (-1)), (1110, 0, 0), (306, 10, 0), (305, 10, 0), (506, 9, 0), (505, 9, 0), (503, 9, (-1)), (502, 9, 0), (501, 9, 0)] [25, 17, 16, 15, 14, 13, 12, 10, 11, 9, 8, 7, 6, 5, 4, 3, 2, 1] [(1, 0, 17)] [25, 17, 16, 15, 14, 13, 12, 10, 11, 9, 8, 7, 6, 5, 4, 3, 2] T → ∀ (H_ : Heap) (locs_ : List Loc), zPw cD cy A_ s_.heap T H_ locs_ → ∀ ls : Array Slot, lv_has ls 2 [(1, .int 0), (0, .ref (ro 0))] → W p_ l e_ ({ frames := 2, cells := 32, slots := 19935, locals := 40 } : Room) s_ m_ args_ below_ meth_ c_ H_ locs_ 18 18787 (MQ below_ (va_Qv (fun (S1 : zS) => ∃ r_ : Nat → Nat, r_ 0 = x0 ∧ ShC S1 r_ ∧ FrC S1 r_) (zPost cD cy A_) A_) args_ s_ 32 19935 A_) (F0 m_ 131 ls []) := by
    intro ro h0 T hv H_ locs_ hw ls hl
    have hL : ro 0 ∈ zL T := hv.rl (by decide)
    have hk : zK T (ro 0) = 11 := hv.k (o := 0) (n := 0) (by decide)
    have hLy : ro 1 ∈ zL T := hv.rl (by decide)
    have hKy : zK T (ro 1) = 15 := hv.k (o := 1) (n := 8) (by decide)
    have hNy : zN T (ro 1) = 8 := hv.n (o := 1) (k := 15) (by decide) (by decide)
    have hPy : zQ T 1100 (ro 0) = some (ro 1) := hv.q (by decide)
    refine lv_iinc (v := 1) (lv' := [(1, .int 1), (0, .ref (ro 0))]) hx hb_ dX11_init_131 hl (k := 0) rfl (by decide) (by decide) rfl (fun ls hl => ?_)
    refine lv_goto (tgt := 112) hx hb_ dX11_init_134 (by decide) ?_
    refine lv_iload_n hx hb_ dX11_init_112 rfl (lv_at hl 0 rfl) ?_
    refine lv_bipush (v := 8) hx hb_ dX11_init_113 (by decide) ?_
    refine lv_icmp_ge (tgt := 137) hx hb_ dX11_init_115 (by decide) (fun c_115 => absurd c_115 (by decide)) (fun _ => ?_)
    refine lv_aload_n hx hb_ dX11_init_118 rfl (lv_at hl 1 rfl) ?_
    refine z_get (k := 11) (i := 0) (j := 1100) (v := .ref (ro 1)) (ref := "FoldedInHalf") (C := RX11) (T := TX11) (N := 13) hcf hK_ hw hin11 hL hk rfl (by decide) (by decide) rfl rfl (congrArg va_rf hPy) (List.mem_of_getElem? (i := 5) rfl) (fun _ h_ => h_) dX11_init_119 ?_
    refine lv_iload_n hx hb_ dX11_init_122 rfl (lv_at hl 0 rfl) ?_
    refine z_new (k := 7) tyX7 hcf hK_ hw hA hin7 tyX7_ok (List.mem_of_getElem? (i := 4) rfl) (List.mem_of_getElem? (i := 26) rfl) (List.mem_of_getElem? (i := 27) rfl) rfl (by decide) zdf7 (Nat.le_of_ble_eq_true rfl) (Nat.le_of_ble_eq_true rfl) dX11_init_123 (fun q25 H_ hq_q25 hw => ?_)
    have hne_ro0_q25 : (ro 0) ≠ q25 := fun e_ => hq_q25 (e_ ▸ hL)
    have hk : zK (zNew T q25 7 0) (ro 0) = 11 := (va_up_ne _ _ hne_ro0_q25).trans hk
    have hL : (ro 0) ∈ zL (zNew T q25 7 0) := List.mem_append_left _ hL
    have hne_ro1_q25 : (ro 1) ≠ q25 := fun e_ => hq_q25 (e_ ▸ hLy)
    have hKy : zK (zNew T q25 7 0) (ro 1) = 15 := (va_up_ne _ _ hne_ro1_q25).trans hKy
    have hNy : zN (zNew T q25 7 0) (ro 1) = 8 := (va_up_ne _ _ hne_ro1_q25).trans hNy
    have hLy : (ro 1) ∈ zL (zNew T q25 7 0) := List.mem_append_left _ hLy
    have hL_q25 : q25 ∈ zL (zNew T q25 7 0) := zNew_m
    have hk_q25 : zK (zNew T q25 7 0) q25 = 7 := zNew_K
    have hn_q25 : zN (zNew T q25 7 0) q25 = 0 := zNew_N
    refine lv_dup hx hb_ dX11_init_126 rfl ?_
    refine z_kv hw hA (va_runIN (As := []) (rest := [.ref q25, .int 1, .ref (ro 1)]) hcf (c_X7_init l cD cy _ (zNew T q25 7 0) q25 hL_q25 hk_q25) ⟨va_cnB 0 hts gX11_init_X7_init_n64 rfl rfl rfl (nw_M_FoldedInHalf_64 hE) (hts (.initialized RX7) (by decide +kernel)) (by decide +kernel) ⟨Nat.le_of_ble_eq_true rfl, Nat.le_of_ble_eq_true rfl⟩, rfl, hts (.instanceMethod yX7_init) (by decide +kernel)⟩ (z_preS hK_ hE hw) rfl rfl hl.1 rfl (lv_room (Nat.le_of_ble_eq_true rfl)) dX11_init_127 ⟨Nat.le_of_ble_eq_true rfl, Nat.le_of_ble_eq_true rfl⟩) (fun S27 H_ locs_ hp hw => ?_)
    obtain ⟨q28, hq_q28, rfl⟩ := hp
    have hne_ro0_q28 : (ro 0) ≠ q28 := fun e_ => hq_q28 (e_ ▸ hL)
    have hk : zK (zNew (zNew T q25 7 0) q28 14 160) (ro 0) = 11 := (va_up_ne _ _ hne_ro0_q28).trans hk
    have hL : (ro 0) ∈ zL (zNew (zNew T q25 7 0) q28 14 160) := List.mem_append_left _ hL
    have hne_ro1_q28 : (ro 1) ≠ q28 := fun e_ => hq_q28 (e_ ▸ hLy)
    have hKy : zK (zNew (zNew T q25 7 0) q28 14 160) (ro 1) = 15 := (va_up_ne _ _ hne_ro1_q28).trans hKy
    have hNy : zN (zNew (zNew T q25 7 0) q28 14 160) (ro 1) = 8 := (va_up_ne _ _ hne_ro1_q28).trans hNy
    have hLy : (ro 1) ∈ zL (zNew (zNew T q25 7 0) q28 14 160) := List.mem_append_left _ hLy
    refine z_past (n := 8) hcf hK_ hw hLy hKy hNy hL_q25 hk_q25 (by unfold vp_in; decide) dX11_init_130 (fun H_ locs_ hw => ?_)
    exact J15 (zro (zro ro 18 q25) 26 q28) h0 (zsR (zsI (zsI (zsI (zsQ (zNew (zNew T q25 7 0) q28 14 160) 700 q25 (some q28)) 701 q25 0) 702 q25 (-1)) 703 q25 (-1)) (ro 1) (va_up (zR (zsI (zsI (zsI (zsQ (zNew (zNew T q25 7 0) q28 14 160) 700 q25 (some q28)) 701 q25 0) 702 q25 (-1)) 703 q25 (-1)) (ro 1)) (1 : Int32).toNatClampNeg (some q25))) (zIv_R (o := 1) (k := 1) (t0 := 18) (zIv_I (j := 703) (o := 18) (zIv_I (j := 702) (o := 18) (zIv_I (j := 701) (o := 18) (zIv_Q (j := 700) (o := 18) (t0 := 26) (zIv_new (zIv_new (hv) (by decide +kernel) hq_q25 (by decide)) (by decide +kernel) hq_q28 (by decide)) (by decide +kernel) (by decide) (by decide)) (by decide +kernel) (by decide) (by decide)) (by decide +kernel) (by decide) (by decide)) (by decide +kernel) (by decide) (by decide)) (by decide +kernel) (by decide) (by decide) (by decide)) _ _ hw ls hl
  have J13 : ∀ (ro : Nat → Nat), ro 0 = x0 → ∀ (T : zS), zIv ro [(16, 13, 8), (15, 13, 8), (14, 13, 9), (13, 13, 9), (12, 13, 2100), (10, 3, 0), (11, 16, 8), (9, 5, 0), (8, 13, 31), (7, 13, 8192), (6, 13, 8192), (5, 13, 20), (4, 13, 8), (3, 16, 8), (2, 16, 8), (1, 15, 8), (0, 11, 0)] [(1109, 0, 10), (304, 10, 16), (303, 10, 15), (302, 10, 14), (301, 10, 13), (300, 10, 12), (1108, 0, 9), (500, 9, 11), (1107, 0, 8), (1106, 0, 7), (1105, 0, 6), (1104, 0, 5), (1103, 0, 4), (1102, 0, 3), (1101, 0, 2), (1100, 0, 1)] [(1112, 0, 0), (1111, 0, (-1)), (1110, 0, 0), (306, 10, 0), (305, 10, 0), (506, 9, 0), (505, 9, 0), (503, 9, (-1)), (502, 9, 0), (501, 9, 0)] [16, 15, 14, 13, 12, 10, 11, 9, 8, 7, 6, 5, 4, 3, 2, 1] [] [16, 15, 14, 13, 12, 10, 11, 9, 8, 7, 6, 5, 4, 3, 2, 1] T → ∀ (H_ : Heap) (locs_ : List Loc), zPw cD cy A_ s_.heap T H_ locs_ → ∀ ls : Array Slot, lv_has ls 2 [(0, .ref (ro 0))] → W p_ l e_ ({ frames := 2, cells := 32, slots := 19935, locals := 40 } : Room) s_ m_ args_ below_ meth_ c_ H_ locs_ 16 18623 (MQ below_ (va_Qv (fun (S1 : zS) => ∃ r_ : Nat → Nat, r_ 0 = x0 ∧ ShC S1 r_ ∧ FrC S1 r_) (zPost cD cy A_) A_) args_ s_ 32 19935 A_) (F0 m_ 110 ls []) := by
    intro ro h0 T hv H_ locs_ hw ls hl
    have hL : ro 0 ∈ zL T := hv.rl (by decide)
    have hk : zK T (ro 0) = 11 := hv.k (o := 0) (n := 0) (by decide)
    have hLy : ro 1 ∈ zL T := hv.rl (by decide)
    have hKy : zK T (ro 1) = 15 := hv.k (o := 1) (n := 8) (by decide)
    have hNy : zN T (ro 1) = 8 := hv.n (o := 1) (k := 15) (by decide) (by decide)
    have hPy : zQ T 1100 (ro 0) = some (ro 1) := hv.q (by decide)
    refine lv_iconst (v := 0) hx hb_ dX11_init_110 (by decide) ?_
    refine lv_istore_n (lv' := [(1, .int 0), (0, .ref (ro 0))]) hx hb_ dX11_init_111 rfl hl (by decide) rfl (fun ls hl => ?_)
    refine lv_iload_n hx hb_ dX11_init_112 rfl (lv_at hl 0 rfl) ?_
    refine lv_bipush (v := 8) hx hb_ dX11_init_113 (by decide) ?_
    refine lv_icmp_ge (tgt := 137) hx hb_ dX11_init_115 (by decide) (fun c_115 => absurd c_115 (by decide)) (fun _ => ?_)
    refine lv_aload_n hx hb_ dX11_init_118 rfl (lv_at hl 1 rfl) ?_
    refine z_get (k := 11) (i := 0) (j := 1100) (v := .ref (ro 1)) (ref := "FoldedInHalf") (C := RX11) (T := TX11) (N := 13) hcf hK_ hw hin11 hL hk rfl (by decide) (by decide) rfl rfl (congrArg va_rf hPy) (List.mem_of_getElem? (i := 5) rfl) (fun _ h_ => h_) dX11_init_119 ?_
    refine lv_iload_n hx hb_ dX11_init_122 rfl (lv_at hl 0 rfl) ?_
    refine z_new (k := 7) tyX7 hcf hK_ hw hA hin7 tyX7_ok (List.mem_of_getElem? (i := 4) rfl) (List.mem_of_getElem? (i := 26) rfl) (List.mem_of_getElem? (i := 27) rfl) rfl (by decide) zdf7 (Nat.le_of_ble_eq_true rfl) (Nat.le_of_ble_eq_true rfl) dX11_init_123 (fun q21 H_ hq_q21 hw => ?_)
    have hne_ro0_q21 : (ro 0) ≠ q21 := fun e_ => hq_q21 (e_ ▸ hL)
    have hk : zK (zNew T q21 7 0) (ro 0) = 11 := (va_up_ne _ _ hne_ro0_q21).trans hk
    have hL : (ro 0) ∈ zL (zNew T q21 7 0) := List.mem_append_left _ hL
    have hne_ro1_q21 : (ro 1) ≠ q21 := fun e_ => hq_q21 (e_ ▸ hLy)
    have hKy : zK (zNew T q21 7 0) (ro 1) = 15 := (va_up_ne _ _ hne_ro1_q21).trans hKy
    have hNy : zN (zNew T q21 7 0) (ro 1) = 8 := (va_up_ne _ _ hne_ro1_q21).trans hNy
    have hLy : (ro 1) ∈ zL (zNew T q21 7 0) := List.mem_append_left _ hLy
    have hL_q21 : q21 ∈ zL (zNew T q21 7 0) := zNew_m
    have hk_q21 : zK (zNew T q21 7 0) q21 = 7 := zNew_K
    have hn_q21 : zN (zNew T q21 7 0) q21 = 0 := zNew_N
    refine lv_dup hx hb_ dX11_init_126 rfl ?_
    refine z_kv hw hA (va_runIN (As := []) (rest := [.ref q21, .int 0, .ref (ro 1)]) hcf (c_X7_init l cD cy _ (zNew T q21 7 0) q21 hL_q21 hk_q21) ⟨va_cnB 0 hts gX11_init_X7_init_n64 rfl rfl rfl (nw_M_FoldedInHalf_64 hE) (hts (.initialized RX7) (by decide +kernel)) (by decide +kernel) ⟨Nat.le_of_ble_eq_true rfl, Nat.le_of_ble_eq_true rfl⟩, rfl, hts (.instanceMethod yX7_init) (by decide +kernel)⟩ (z_preS hK_ hE hw) rfl rfl hl.1 rfl (lv_room (Nat.le_of_ble_eq_true rfl)) dX11_init_127 ⟨Nat.le_of_ble_eq_true rfl, Nat.le_of_ble_eq_true rfl⟩) (fun S23 H_ locs_ hp hw => ?_)
    obtain ⟨q24, hq_q24, rfl⟩ := hp
    have hne_ro0_q24 : (ro 0) ≠ q24 := fun e_ => hq_q24 (e_ ▸ hL)
    have hk : zK (zNew (zNew T q21 7 0) q24 14 160) (ro 0) = 11 := (va_up_ne _ _ hne_ro0_q24).trans hk
    have hL : (ro 0) ∈ zL (zNew (zNew T q21 7 0) q24 14 160) := List.mem_append_left _ hL
    have hne_ro1_q24 : (ro 1) ≠ q24 := fun e_ => hq_q24 (e_ ▸ hLy)
    have hKy : zK (zNew (zNew T q21 7 0) q24 14 160) (ro 1) = 15 := (va_up_ne _ _ hne_ro1_q24).trans hKy
    have hNy : zN (zNew (zNew T q21 7 0) q24 14 160) (ro 1) = 8 := (va_up_ne _ _ hne_ro1_q24).trans hNy
    have hLy : (ro 1) ∈ zL (zNew (zNew T q21 7 0) q24 14 160) := List.mem_append_left _ hLy
    refine z_past (n := 8) hcf hK_ hw hLy hKy hNy hL_q21 hk_q21 (by unfold vp_in; decide) dX11_init_130 (fun H_ locs_ hw => ?_)
    exact J14 (zro (zro ro 17 q21) 25 q24) h0 (zsR (zsI (zsI (zsI (zsQ (zNew (zNew T q21 7 0) q24 14 160) 700 q21 (some q24)) 701 q21 0) 702 q21 (-1)) 703 q21 (-1)) (ro 1) (va_up (zR (zsI (zsI (zsI (zsQ (zNew (zNew T q21 7 0) q24 14 160) 700 q21 (some q24)) 701 q21 0) 702 q21 (-1)) 703 q21 (-1)) (ro 1)) (0 : Int32).toNatClampNeg (some q21))) (zIv_R (o := 1) (k := 0) (t0 := 17) (zIv_sub (Z1 := [25, 17, 16, 15, 14, 13, 12, 10, 11, 9, 8, 7, 6, 5, 4, 3, 2, 1]) (P1 := [(700, 17, 25), (1109, 0, 10), (304, 10, 16), (303, 10, 15), (302, 10, 14), (301, 10, 13), (300, 10, 12), (1108, 0, 9), (500, 9, 11), (1107, 0, 8), (1106, 0, 7), (1105, 0, 6), (1104, 0, 5), (1103, 0, 4), (1102, 0, 3), (1101, 0, 2), (1100, 0, 1)]) (V1 := [(703, 17, (-1)), (702, 17, (-1)), (701, 17, 0), (1112, 0, 0), (1111, 0, (-1)), (1110, 0, 0), (306, 10, 0), (305, 10, 0), (506, 9, 0), (505, 9, 0), (503, 9, (-1)), (502, 9, 0), (501, 9, 0)]) (Nn1 := [25, 17, 16, 15, 14, 13, 12, 10, 11, 9, 8, 7, 6, 5, 4, 3, 2]) (zIv_I (j := 703) (o := 17) (zIv_I (j := 702) (o := 17) (zIv_I (j := 701) (o := 17) (zIv_Q (j := 700) (o := 17) (t0 := 25) (zIv_new (zIv_new (hv) (by decide +kernel) hq_q21 (by decide)) (by decide +kernel) hq_q24 (by decide)) (by decide +kernel) (by decide) (by decide)) (by decide +kernel) (by decide) (by decide)) (by decide +kernel) (by decide) (by decide)) (by decide +kernel) (by decide) (by decide)) (by decide) (by decide) (by decide) (by decide)) (by decide +kernel) (by decide) (by decide) (by decide)) _ _ hw ls hl
  have J12 : ∀ (ro : Nat → Nat), ro 0 = x0 → ∀ (T : zS), zIv ro [(16, 13, 8), (15, 13, 8), (14, 13, 9), (13, 13, 9), (12, 13, 2100), (10, 3, 0), (11, 16, 8), (9, 5, 0), (8, 13, 31), (7, 13, 8192), (6, 13, 8192), (5, 13, 20), (4, 13, 8), (3, 16, 8), (2, 16, 8), (1, 15, 8), (0, 11, 0)] [(1109, 0, 10), (304, 10, 16), (303, 10, 15), (302, 10, 14), (301, 10, 13), (300, 10, 12), (1108, 0, 9), (500, 9, 11), (1107, 0, 8), (1106, 0, 7), (1105, 0, 6), (1104, 0, 5), (1103, 0, 4), (1102, 0, 3), (1101, 0, 2), (1100, 0, 1)] [(1111, 0, (-1)), (1110, 0, 0), (306, 10, 0), (305, 10, 0), (506, 9, 0), (505, 9, 0), (503, 9, (-1)), (502, 9, 0), (501, 9, 0)] [16, 15, 14, 13, 12, 10, 11, 9, 8, 7, 6, 5, 4, 3, 2, 1] [] [16, 15, 14, 13, 12, 10, 11, 9, 8, 7, 6, 5, 4, 3, 2, 1] T → ∀ (H_ : Heap) (locs_ : List Loc), zPw cD cy A_ s_.heap T H_ locs_ → ∀ ls : Array Slot, lv_has ls 2 [(0, .ref (ro 0))] → W p_ l e_ ({ frames := 2, cells := 32, slots := 19935, locals := 40 } : Room) s_ m_ args_ below_ meth_ c_ H_ locs_ 16 18623 (MQ below_ (va_Qv (fun (S1 : zS) => ∃ r_ : Nat → Nat, r_ 0 = x0 ∧ ShC S1 r_ ∧ FrC S1 r_) (zPost cD cy A_) A_) args_ s_ 32 19935 A_) (F0 m_ 105 ls []) := by
    intro ro h0 T hv H_ locs_ hw ls hl
    have hL : ro 0 ∈ zL T := hv.rl (by decide)
    have hk : zK T (ro 0) = 11 := hv.k (o := 0) (n := 0) (by decide)
    have hLy : ro 1 ∈ zL T := hv.rl (by decide)
    have hKy : zK T (ro 1) = 15 := hv.k (o := 1) (n := 8) (by decide)
    have hNy : zN T (ro 1) = 8 := hv.n (o := 1) (k := 15) (by decide) (by decide)
    have hPy : zQ T 1100 (ro 0) = some (ro 1) := hv.q (by decide)
    refine lv_aload_n hx hb_ dX11_init_105 rfl (lv_at hl 0 rfl) ?_
    refine lv_iconst (v := 0) hx hb_ dX11_init_106 (by decide) ?_
    refine z_putI (k := 11) (i := 12) (j := 1112) (x := 0) (v := .int 0) (ty := .int) (ref := "FoldedInHalf") (C := RX11) (T := TX11) (N := 13) tyX11 hcf hK_ hw hin11 tyX11_ok nmX11 hL hk rfl (by decide) (by decide) rfl rfl (List.mem_of_getElem? (i := 25) rfl) (fun _ h_ => h_) rfl rfl (by decide +kernel) rfl rfl dX11_init_107 (fun H_ locs_ hw => ?_)
    exact J13 ro h0 (zsI T 1112 (ro 0) 0) (zIv_I (j := 1112) (o := 0) (hv) (by decide +kernel) (by decide) (by decide)) _ _ hw ls hl
  have J11 : ∀ (ro : Nat → Nat), ro 0 = x0 → ∀ (T : zS), zIv ro [(16, 13, 8), (15, 13, 8), (14, 13, 9), (13, 13, 9), (12, 13, 2100), (10, 3, 0), (11, 16, 8), (9, 5, 0), (8, 13, 31), (7, 13, 8192), (6, 13, 8192), (5, 13, 20), (4, 13, 8), (3, 16, 8), (2, 16, 8), (1, 15, 8), (0, 11, 0)] [(1109, 0, 10), (304, 10, 16), (303, 10, 15), (302, 10, 14), (301, 10, 13), (300, 10, 12), (1108, 0, 9), (500, 9, 11), (1107, 0, 8), (1106, 0, 7), (1105, 0, 6), (1104, 0, 5), (1103, 0, 4), (1102, 0, 3), (1101, 0, 2), (1100, 0, 1)] [(1110, 0, 0), (306, 10, 0), (305, 10, 0), (506, 9, 0), (505, 9, 0), (503, 9, (-1)), (502, 9, 0), (501, 9, 0)] [16, 15, 14, 13, 12, 10, 11, 9, 8, 7, 6, 5, 4, 3, 2, 1] [] [16, 15, 14, 13, 12, 10, 11, 9, 8, 7, 6, 5, 4, 3, 2, 1] T → ∀ (H_ : Heap) (locs_ : List Loc), zPw cD cy A_ s_.heap T H_ locs_ → ∀ ls : Array Slot, lv_has ls 2 [(0, .ref (ro 0))] → W p_ l e_ ({ frames := 2, cells := 32, slots := 19935, locals := 40 } : Room) s_ m_ args_ below_ meth_ c_ H_ locs_ 16 18623 (MQ below_ (va_Qv (fun (S1 : zS) => ∃ r_ : Nat → Nat, r_ 0 = x0 ∧ ShC S1 r_ ∧ FrC S1 r_) (zPost cD cy A_) A_) args_ s_ 32 19935 A_) (F0 m_ 100 ls []) := by
    intro ro h0 T hv H_ locs_ hw ls hl
    have hL : ro 0 ∈ zL T := hv.rl (by decide)
    have hk : zK T (ro 0) = 11 := hv.k (o := 0) (n := 0) (by decide)
    have hLy : ro 1 ∈ zL T := hv.rl (by decide)
    have hKy : zK T (ro 1) = 15 := hv.k (o := 1) (n := 8) (by decide)
    have hNy : zN T (ro 1) = 8 := hv.n (o := 1) (k := 15) (by decide) (by decide)
    have hPy : zQ T 1100 (ro 0) = some (ro 1) := hv.q (by decide)
    refine lv_aload_n hx hb_ dX11_init_100 rfl (lv_at hl 0 rfl) ?_
    refine lv_iconst (v := (-1)) hx hb_ dX11_init_101 (by decide) ?_
    refine z_putI (k := 11) (i := 11) (j := 1111) (x := (-1)) (v := .int (-1)) (ty := .int) (ref := "FoldedInHalf") (C := RX11) (T := TX11) (N := 13) tyX11 hcf hK_ hw hin11 tyX11_ok nmX11 hL hk rfl (by decide) (by decide) rfl rfl (List.mem_of_getElem? (i := 24) rfl) (fun _ h_ => h_) rfl rfl (by decide +kernel) rfl rfl dX11_init_102 (fun H_ locs_ hw => ?_)
    exact J12 ro h0 (zsI T 1111 (ro 0) (-1)) (zIv_I (j := 1111) (o := 0) (hv) (by decide +kernel) (by decide) (by decide)) _ _ hw ls hl
  have J10 : ∀ (ro : Nat → Nat), ro 0 = x0 → ∀ (T : zS), zIv ro [(16, 13, 8), (15, 13, 8), (14, 13, 9), (13, 13, 9), (12, 13, 2100), (10, 3, 0), (11, 16, 8), (9, 5, 0), (8, 13, 31), (7, 13, 8192), (6, 13, 8192), (5, 13, 20), (4, 13, 8), (3, 16, 8), (2, 16, 8), (1, 15, 8), (0, 11, 0)] [(1109, 0, 10), (304, 10, 16), (303, 10, 15), (302, 10, 14), (301, 10, 13), (300, 10, 12), (1108, 0, 9), (500, 9, 11), (1107, 0, 8), (1106, 0, 7), (1105, 0, 6), (1104, 0, 5), (1103, 0, 4), (1102, 0, 3), (1101, 0, 2), (1100, 0, 1)] [(306, 10, 0), (305, 10, 0), (506, 9, 0), (505, 9, 0), (503, 9, (-1)), (502, 9, 0), (501, 9, 0)] [16, 15, 14, 13, 12, 10, 11, 9, 8, 7, 6, 5, 4, 3, 2, 1] [] [16, 15, 14, 13, 12, 10, 11, 9, 8, 7, 6, 5, 4, 3, 2, 1] T → ∀ (H_ : Heap) (locs_ : List Loc), zPw cD cy A_ s_.heap T H_ locs_ → ∀ ls : Array Slot, lv_has ls 2 [(0, .ref (ro 0))] → W p_ l e_ ({ frames := 2, cells := 32, slots := 19935, locals := 40 } : Room) s_ m_ args_ below_ meth_ c_ H_ locs_ 16 18623 (MQ below_ (va_Qv (fun (S1 : zS) => ∃ r_ : Nat → Nat, r_ 0 = x0 ∧ ShC S1 r_ ∧ FrC S1 r_) (zPost cD cy A_) A_) args_ s_ 32 19935 A_) (F0 m_ 95 ls []) := by
    intro ro h0 T hv H_ locs_ hw ls hl
    have hL : ro 0 ∈ zL T := hv.rl (by decide)
    have hk : zK T (ro 0) = 11 := hv.k (o := 0) (n := 0) (by decide)
    have hLy : ro 1 ∈ zL T := hv.rl (by decide)
    have hKy : zK T (ro 1) = 15 := hv.k (o := 1) (n := 8) (by decide)
    have hNy : zN T (ro 1) = 8 := hv.n (o := 1) (k := 15) (by decide) (by decide)
    have hPy : zQ T 1100 (ro 0) = some (ro 1) := hv.q (by decide)
    refine lv_aload_n hx hb_ dX11_init_95 rfl (lv_at hl 0 rfl) ?_
    refine lv_iconst (v := 0) hx hb_ dX11_init_96 (by decide) ?_
    refine z_putI (k := 11) (i := 10) (j := 1110) (x := 0) (v := .int 0) (ty := .int) (ref := "FoldedInHalf") (C := RX11) (T := TX11) (N := 13) tyX11 hcf hK_ hw hin11 tyX11_ok nmX11 hL hk rfl (by decide) (by decide) rfl rfl (List.mem_of_getElem? (i := 23) rfl) (fun _ h_ => h_) rfl rfl (by decide +kernel) rfl rfl dX11_init_97 (fun H_ locs_ hw => ?_)
    exact J11 ro h0 (zsI T 1110 (ro 0) 0) (zIv_I (j := 1110) (o := 0) (hv) (by decide +kernel) (by decide) (by decide)) _ _ hw ls hl
  have J9 : ∀ (ro : Nat → Nat), ro 0 = x0 → ∀ (T : zS), zIv ro [(11, 16, 8), (9, 5, 0), (8, 13, 31), (7, 13, 8192), (6, 13, 8192), (5, 13, 20), (4, 13, 8), (3, 16, 8), (2, 16, 8), (1, 15, 8), (0, 11, 0)] [(1108, 0, 9), (500, 9, 11), (1107, 0, 8), (1106, 0, 7), (1105, 0, 6), (1104, 0, 5), (1103, 0, 4), (1102, 0, 3), (1101, 0, 2), (1100, 0, 1)] [(506, 9, 0), (505, 9, 0), (503, 9, (-1)), (502, 9, 0), (501, 9, 0)] [11, 9, 8, 7, 6, 5, 4, 3, 2, 1] [] [11, 9, 8, 7, 6, 5, 4, 3, 2, 1] T → ∀ (H_ : Heap) (locs_ : List Loc), zPw cD cy A_ s_.heap T H_ locs_ → ∀ ls : Array Slot, lv_has ls 2 [(0, .ref (ro 0))] → W p_ l e_ ({ frames := 2, cells := 32, slots := 19935, locals := 40 } : Room) s_ m_ args_ below_ meth_ c_ H_ locs_ 10 16482 (MQ below_ (va_Qv (fun (S1 : zS) => ∃ r_ : Nat → Nat, r_ 0 = x0 ∧ ShC S1 r_ ∧ FrC S1 r_) (zPost cD cy A_) A_) args_ s_ 32 19935 A_) (F0 m_ 84 ls []) := by
    intro ro h0 T hv H_ locs_ hw ls hl
    have hL : ro 0 ∈ zL T := hv.rl (by decide)
    have hk : zK T (ro 0) = 11 := hv.k (o := 0) (n := 0) (by decide)
    have hLy : ro 1 ∈ zL T := hv.rl (by decide)
    have hKy : zK T (ro 1) = 15 := hv.k (o := 1) (n := 8) (by decide)
    have hNy : zN T (ro 1) = 8 := hv.n (o := 1) (k := 15) (by decide) (by decide)
    have hPy : zQ T 1100 (ro 0) = some (ro 1) := hv.q (by decide)
    refine lv_aload_n hx hb_ dX11_init_84 rfl (lv_at hl 0 rfl) ?_
    refine z_new (k := 3) tyX3 hcf hK_ hw hA hin3 tyX3_ok (List.mem_of_getElem? (i := 19) rfl) (List.mem_of_getElem? (i := 20) rfl) (List.mem_of_getElem? (i := 21) rfl) rfl (by decide) zdf3 (Nat.le_of_ble_eq_true rfl) (Nat.le_of_ble_eq_true rfl) dX11_init_85 (fun q13 H_ hq_q13 hw => ?_)
    have hne_ro0_q13 : (ro 0) ≠ q13 := fun e_ => hq_q13 (e_ ▸ hL)
    have hk : zK (zNew T q13 3 0) (ro 0) = 11 := (va_up_ne _ _ hne_ro0_q13).trans hk
    have hL : (ro 0) ∈ zL (zNew T q13 3 0) := List.mem_append_left _ hL
    have hne_ro1_q13 : (ro 1) ≠ q13 := fun e_ => hq_q13 (e_ ▸ hLy)
    have hKy : zK (zNew T q13 3 0) (ro 1) = 15 := (va_up_ne _ _ hne_ro1_q13).trans hKy
    have hNy : zN (zNew T q13 3 0) (ro 1) = 8 := (va_up_ne _ _ hne_ro1_q13).trans hNy
    have hLy : (ro 1) ∈ zL (zNew T q13 3 0) := List.mem_append_left _ hLy
    have hL_q13 : q13 ∈ zL (zNew T q13 3 0) := zNew_m
    have hk_q13 : zK (zNew T q13 3 0) q13 = 3 := zNew_K
    have hn_q13 : zN (zNew T q13 3 0) q13 = 0 := zNew_N
    refine lv_dup hx hb_ dX11_init_88 rfl ?_
    refine z_kv hw hA (va_runIN (As := []) (rest := [.ref q13, .ref (ro 0)]) hcf (c_X3_init l cD cy _ (zNew T q13 3 0) q13 hL_q13 hk_q13) ⟨va_cnB 0 hts gX11_init_X3_init_n49 rfl rfl rfl (nw_M_FoldedInHalf_49 hE) (hts (.initialized RX3) (by decide +kernel)) (by decide +kernel) ⟨Nat.le_of_ble_eq_true rfl, Nat.le_of_ble_eq_true rfl⟩, rfl, hts (.instanceMethod yX3_init) (by decide +kernel)⟩ (z_preS hK_ hE hw) rfl rfl hl.1 rfl (lv_room (Nat.le_of_ble_eq_true rfl)) dX11_init_89 ⟨Nat.le_of_ble_eq_true rfl, Nat.le_of_ble_eq_true rfl⟩) (fun S15 H_ locs_ hp hw => ?_)
    obtain ⟨q16, q17, q18, q19, q20, ⟨hq_q16, hq_q17, hq_q18, hq_q19, hq_q20⟩, rfl⟩ := hp
    have hne_ro0_q16 : (ro 0) ≠ q16 := fun e_ => hq_q16 (e_ ▸ hL)
    have hk : zK (zNew (zNew T q13 3 0) q16 13 2100) (ro 0) = 11 := (va_up_ne _ _ hne_ro0_q16).trans hk
    have hL : (ro 0) ∈ zL (zNew (zNew T q13 3 0) q16 13 2100) := List.mem_append_left _ hL
    have hne_ro1_q16 : (ro 1) ≠ q16 := fun e_ => hq_q16 (e_ ▸ hLy)
    have hKy : zK (zNew (zNew T q13 3 0) q16 13 2100) (ro 1) = 15 := (va_up_ne _ _ hne_ro1_q16).trans hKy
    have hNy : zN (zNew (zNew T q13 3 0) q16 13 2100) (ro 1) = 8 := (va_up_ne _ _ hne_ro1_q16).trans hNy
    have hLy : (ro 1) ∈ zL (zNew (zNew T q13 3 0) q16 13 2100) := List.mem_append_left _ hLy
    have hne_ro0_q17 : (ro 0) ≠ q17 := fun e_ => hq_q17 (e_ ▸ hL)
    have hk : zK (zNew (zsQ (zNew (zNew T q13 3 0) q16 13 2100) 300 q13 (some q16)) q17 13 9) (ro 0) = 11 := (va_up_ne _ _ hne_ro0_q17).trans hk
    have hL : (ro 0) ∈ zL (zNew (zsQ (zNew (zNew T q13 3 0) q16 13 2100) 300 q13 (some q16)) q17 13 9) := List.mem_append_left _ hL
    have hne_ro1_q17 : (ro 1) ≠ q17 := fun e_ => hq_q17 (e_ ▸ hLy)
    have hKy : zK (zNew (zsQ (zNew (zNew T q13 3 0) q16 13 2100) 300 q13 (some q16)) q17 13 9) (ro 1) = 15 := (va_up_ne _ _ hne_ro1_q17).trans hKy
    have hNy : zN (zNew (zsQ (zNew (zNew T q13 3 0) q16 13 2100) 300 q13 (some q16)) q17 13 9) (ro 1) = 8 := (va_up_ne _ _ hne_ro1_q17).trans hNy
    have hLy : (ro 1) ∈ zL (zNew (zsQ (zNew (zNew T q13 3 0) q16 13 2100) 300 q13 (some q16)) q17 13 9) := List.mem_append_left _ hLy
    have hne_ro0_q18 : (ro 0) ≠ q18 := fun e_ => hq_q18 (e_ ▸ hL)
    have hk : zK (zNew (zsQ (zNew (zsQ (zNew (zNew T q13 3 0) q16 13 2100) 300 q13 (some q16)) q17 13 9) 301 q13 (some q17)) q18 13 9) (ro 0) = 11 := (va_up_ne _ _ hne_ro0_q18).trans hk
    have hL : (ro 0) ∈ zL (zNew (zsQ (zNew (zsQ (zNew (zNew T q13 3 0) q16 13 2100) 300 q13 (some q16)) q17 13 9) 301 q13 (some q17)) q18 13 9) := List.mem_append_left _ hL
    have hne_ro1_q18 : (ro 1) ≠ q18 := fun e_ => hq_q18 (e_ ▸ hLy)
    have hKy : zK (zNew (zsQ (zNew (zsQ (zNew (zNew T q13 3 0) q16 13 2100) 300 q13 (some q16)) q17 13 9) 301 q13 (some q17)) q18 13 9) (ro 1) = 15 := (va_up_ne _ _ hne_ro1_q18).trans hKy
    have hNy : zN (zNew (zsQ (zNew (zsQ (zNew (zNew T q13 3 0) q16 13 2100) 300 q13 (some q16)) q17 13 9) 301 q13 (some q17)) q18 13 9) (ro 1) = 8 := (va_up_ne _ _ hne_ro1_q18).trans hNy
    have hLy : (ro 1) ∈ zL (zNew (zsQ (zNew (zsQ (zNew (zNew T q13 3 0) q16 13 2100) 300 q13 (some q16)) q17 13 9) 301 q13 (some q17)) q18 13 9) := List.mem_append_left _ hLy
    have hne_ro0_q19 : (ro 0) ≠ q19 := fun e_ => hq_q19 (e_ ▸ hL)
    have hk : zK (zNew (zsQ (zNew (zsQ (zNew (zsQ (zNew (zNew T q13 3 0) q16 13 2100) 300 q13 (some q16)) q17 13 9) 301 q13 (some q17)) q18 13 9) 302 q13 (some q18)) q19 13 8) (ro 0) = 11 := (va_up_ne _ _ hne_ro0_q19).trans hk
    have hL : (ro 0) ∈ zL (zNew (zsQ (zNew (zsQ (zNew (zsQ (zNew (zNew T q13 3 0) q16 13 2100) 300 q13 (some q16)) q17 13 9) 301 q13 (some q17)) q18 13 9) 302 q13 (some q18)) q19 13 8) := List.mem_append_left _ hL
    have hne_ro1_q19 : (ro 1) ≠ q19 := fun e_ => hq_q19 (e_ ▸ hLy)
    have hKy : zK (zNew (zsQ (zNew (zsQ (zNew (zsQ (zNew (zNew T q13 3 0) q16 13 2100) 300 q13 (some q16)) q17 13 9) 301 q13 (some q17)) q18 13 9) 302 q13 (some q18)) q19 13 8) (ro 1) = 15 := (va_up_ne _ _ hne_ro1_q19).trans hKy
    have hNy : zN (zNew (zsQ (zNew (zsQ (zNew (zsQ (zNew (zNew T q13 3 0) q16 13 2100) 300 q13 (some q16)) q17 13 9) 301 q13 (some q17)) q18 13 9) 302 q13 (some q18)) q19 13 8) (ro 1) = 8 := (va_up_ne _ _ hne_ro1_q19).trans hNy
    have hLy : (ro 1) ∈ zL (zNew (zsQ (zNew (zsQ (zNew (zsQ (zNew (zNew T q13 3 0) q16 13 2100) 300 q13 (some q16)) q17 13 9) 301 q13 (some q17)) q18 13 9) 302 q13 (some q18)) q19 13 8) := List.mem_append_left _ hLy
    have hne_ro0_q20 : (ro 0) ≠ q20 := fun e_ => hq_q20 (e_ ▸ hL)
    have hk : zK (zNew (zsQ (zNew (zsQ (zNew (zsQ (zNew (zsQ (zNew (zNew T q13 3 0) q16 13 2100) 300 q13 (some q16)) q17 13 9) 301 q13 (some q17)) q18 13 9) 302 q13 (some q18)) q19 13 8) 303 q13 (some q19)) q20 13 8) (ro 0) = 11 := (va_up_ne _ _ hne_ro0_q20).trans hk
    have hL : (ro 0) ∈ zL (zNew (zsQ (zNew (zsQ (zNew (zsQ (zNew (zsQ (zNew (zNew T q13 3 0) q16 13 2100) 300 q13 (some q16)) q17 13 9) 301 q13 (some q17)) q18 13 9) 302 q13 (some q18)) q19 13 8) 303 q13 (some q19)) q20 13 8) := List.mem_append_left _ hL
    have hne_ro1_q20 : (ro 1) ≠ q20 := fun e_ => hq_q20 (e_ ▸ hLy)
    have hKy : zK (zNew (zsQ (zNew (zsQ (zNew (zsQ (zNew (zsQ (zNew (zNew T q13 3 0) q16 13 2100) 300 q13 (some q16)) q17 13 9) 301 q13 (some q17)) q18 13 9) 302 q13 (some q18)) q19 13 8) 303 q13 (some q19)) q20 13 8) (ro 1) = 15 := (va_up_ne _ _ hne_ro1_q20).trans hKy
    have hNy : zN (zNew (zsQ (zNew (zsQ (zNew (zsQ (zNew (zsQ (zNew (zNew T q13 3 0) q16 13 2100) 300 q13 (some q16)) q17 13 9) 301 q13 (some q17)) q18 13 9) 302 q13 (some q18)) q19 13 8) 303 q13 (some q19)) q20 13 8) (ro 1) = 8 := (va_up_ne _ _ hne_ro1_q20).trans hNy
    have hLy : (ro 1) ∈ zL (zNew (zsQ (zNew (zsQ (zNew (zsQ (zNew (zsQ (zNew (zNew T q13 3 0) q16 13 2100) 300 q13 (some q16)) q17 13 9) 301 q13 (some q17)) q18 13 9) 302 q13 (some q18)) q19 13 8) 303 q13 (some q19)) q20 13 8) := List.mem_append_left _ hLy
    refine z_putQF (k := 11) (i := 9) (j := 1109) (x := (some q13)) (v := .ref q13) (ty := (.object "FoldedInHalf$Leaves")) (ref := "FoldedInHalf") (C := RX11) (T := TX11) (N := 13) tyX11 hcf hK_ hw hin11 tyX11_ok nmX11 hL hk rfl (by decide) (by decide) rfl rfl (List.mem_of_getElem? (i := 22) rfl) (fun _ h_ => h_) rfl hnm rfl rfl (by decide +kernel) rfl rfl dX11_init_92 (fun H_ locs_ hw => ?_)
    exact J10 (zro (zro (zro (zro (zro (zro ro 10 q13) 12 q16) 13 q17) 14 q18) 15 q19) 16 q20) h0 (zsQ (zsI (zsI (zsQ (zNew (zsQ (zNew (zsQ (zNew (zsQ (zNew (zsQ (zNew (zNew T q13 3 0) q16 13 2100) 300 q13 (some q16)) q17 13 9) 301 q13 (some q17)) q18 13 9) 302 q13 (some q18)) q19 13 8) 303 q13 (some q19)) q20 13 8) 304 q13 (some q20)) 305 q13 0) 306 q13 0) 1109 (ro 0) (some q13)) (zIv_Q (j := 1109) (o := 0) (t0 := 10) (zIv_I (j := 306) (o := 10) (zIv_I (j := 305) (o := 10) (zIv_Q (j := 304) (o := 10) (t0 := 16) (zIv_new (zIv_Q (j := 303) (o := 10) (t0 := 15) (zIv_new (zIv_Q (j := 302) (o := 10) (t0 := 14) (zIv_new (zIv_Q (j := 301) (o := 10) (t0 := 13) (zIv_new (zIv_Q (j := 300) (o := 10) (t0 := 12) (zIv_new (zIv_new (hv) (by decide +kernel) hq_q13 (by decide)) (by decide +kernel) hq_q16 (by decide)) (by decide +kernel) (by decide) (by decide)) (by decide +kernel) hq_q17 (by decide)) (by decide +kernel) (by decide) (by decide)) (by decide +kernel) hq_q18 (by decide)) (by decide +kernel) (by decide) (by decide)) (by decide +kernel) hq_q19 (by decide)) (by decide +kernel) (by decide) (by decide)) (by decide +kernel) hq_q20 (by decide)) (by decide +kernel) (by decide) (by decide)) (by decide +kernel) (by decide) (by decide)) (by decide +kernel) (by decide) (by decide)) (by decide +kernel) (by decide) (by decide)) _ _ hw ls hl
  have J8 : ∀ (ro : Nat → Nat), ro 0 = x0 → ∀ (T : zS), zIv ro [(8, 13, 31), (7, 13, 8192), (6, 13, 8192), (5, 13, 20), (4, 13, 8), (3, 16, 8), (2, 16, 8), (1, 15, 8), (0, 11, 0)] [(1107, 0, 8), (1106, 0, 7), (1105, 0, 6), (1104, 0, 5), (1103, 0, 4), (1102, 0, 3), (1101, 0, 2), (1100, 0, 1)] [] [8, 7, 6, 5, 4, 3, 2, 1] [] [8, 7, 6, 5, 4, 3, 2, 1] T → ∀ (H_ : Heap) (locs_ : List Loc), zPw cD cy A_ s_.heap T H_ locs_ → ∀ ls : Array Slot, lv_has ls 2 [(0, .ref (ro 0))] → W p_ l e_ ({ frames := 2, cells := 32, slots := 19935, locals := 40 } : Room) s_ m_ args_ below_ meth_ c_ H_ locs_ 8 16467 (MQ below_ (va_Qv (fun (S1 : zS) => ∃ r_ : Nat → Nat, r_ 0 = x0 ∧ ShC S1 r_ ∧ FrC S1 r_) (zPost cD cy A_) A_) args_ s_ 32 19935 A_) (F0 m_ 73 ls []) := by
    intro ro h0 T hv H_ locs_ hw ls hl
    have hL : ro 0 ∈ zL T := hv.rl (by decide)
    have hk : zK T (ro 0) = 11 := hv.k (o := 0) (n := 0) (by decide)
    have hLy : ro 1 ∈ zL T := hv.rl (by decide)
    have hKy : zK T (ro 1) = 15 := hv.k (o := 1) (n := 8) (by decide)
    have hNy : zN T (ro 1) = 8 := hv.n (o := 1) (k := 15) (by decide) (by decide)
    have hPy : zQ T 1100 (ro 0) = some (ro 1) := hv.q (by decide)
    refine lv_aload_n hx hb_ dX11_init_73 rfl (lv_at hl 0 rfl) ?_
    refine z_new (k := 5) tyX5 hcf hK_ hw hA hin5 tyX5_ok (List.mem_of_getElem? (i := 15) rfl) (List.mem_of_getElem? (i := 16) rfl) (List.mem_of_getElem? (i := 17) rfl) rfl (by decide) zdf5 (Nat.le_of_ble_eq_true rfl) (Nat.le_of_ble_eq_true rfl) dX11_init_74 (fun q9 H_ hq_q9 hw => ?_)
    have hne_ro0_q9 : (ro 0) ≠ q9 := fun e_ => hq_q9 (e_ ▸ hL)
    have hk : zK (zNew T q9 5 0) (ro 0) = 11 := (va_up_ne _ _ hne_ro0_q9).trans hk
    have hL : (ro 0) ∈ zL (zNew T q9 5 0) := List.mem_append_left _ hL
    have hne_ro1_q9 : (ro 1) ≠ q9 := fun e_ => hq_q9 (e_ ▸ hLy)
    have hKy : zK (zNew T q9 5 0) (ro 1) = 15 := (va_up_ne _ _ hne_ro1_q9).trans hKy
    have hNy : zN (zNew T q9 5 0) (ro 1) = 8 := (va_up_ne _ _ hne_ro1_q9).trans hNy
    have hLy : (ro 1) ∈ zL (zNew T q9 5 0) := List.mem_append_left _ hLy
    have hL_q9 : q9 ∈ zL (zNew T q9 5 0) := zNew_m
    have hk_q9 : zK (zNew T q9 5 0) q9 = 5 := zNew_K
    have hn_q9 : zN (zNew T q9 5 0) q9 = 0 := zNew_N
    refine lv_dup hx hb_ dX11_init_77 rfl ?_
    refine z_kv hw hA (va_runIN (As := []) (rest := [.ref q9, .ref (ro 0)]) hcf (c_X5_init l cD cy _ (zNew T q9 5 0) q9 hL_q9 hk_q9) ⟨va_cnB 0 hts gX11_init_X5_init_n42 rfl rfl rfl (nw_M_FoldedInHalf_42 hE) (hts (.initialized RX5) (by decide +kernel)) (by decide +kernel) ⟨Nat.le_of_ble_eq_true rfl, Nat.le_of_ble_eq_true rfl⟩, rfl, hts (.instanceMethod yX5_init) (by decide +kernel)⟩ (z_preS hK_ hE hw) rfl rfl hl.1 rfl (lv_room (Nat.le_of_ble_eq_true rfl)) dX11_init_78 ⟨Nat.le_of_ble_eq_true rfl, Nat.le_of_ble_eq_true rfl⟩) (fun S11 H_ locs_ hp hw => ?_)
    obtain ⟨q12, hq_q12, rfl⟩ := hp
    have hne_ro0_q12 : (ro 0) ≠ q12 := fun e_ => hq_q12 (e_ ▸ hL)
    have hk : zK (zNew (zNew T q9 5 0) q12 16 8) (ro 0) = 11 := (va_up_ne _ _ hne_ro0_q12).trans hk
    have hL : (ro 0) ∈ zL (zNew (zNew T q9 5 0) q12 16 8) := List.mem_append_left _ hL
    have hne_ro1_q12 : (ro 1) ≠ q12 := fun e_ => hq_q12 (e_ ▸ hLy)
    have hKy : zK (zNew (zNew T q9 5 0) q12 16 8) (ro 1) = 15 := (va_up_ne _ _ hne_ro1_q12).trans hKy
    have hNy : zN (zNew (zNew T q9 5 0) q12 16 8) (ro 1) = 8 := (va_up_ne _ _ hne_ro1_q12).trans hNy
    have hLy : (ro 1) ∈ zL (zNew (zNew T q9 5 0) q12 16 8) := List.mem_append_left _ hLy
    refine z_putQF (k := 11) (i := 8) (j := 1108) (x := (some q9)) (v := .ref q9) (ty := (.object "FoldedInHalf$Reader")) (ref := "FoldedInHalf") (C := RX11) (T := TX11) (N := 13) tyX11 hcf hK_ hw hin11 tyX11_ok nmX11 hL hk rfl (by decide) (by decide) rfl rfl (List.mem_of_getElem? (i := 18) rfl) (fun _ h_ => h_) rfl hnm rfl rfl (by decide +kernel) rfl rfl dX11_init_81 (fun H_ locs_ hw => ?_)
    exact J9 (zro (zro ro 9 q9) 11 q12) h0 (zsQ (zsI (zsI (zsQ (zsI (zsI (zsI (zsQ (zNew (zNew T q9 5 0) q12 16 8) 500 q9 (some q12)) 501 q9 0) 502 q9 0) 503 q9 (-1)) 504 q9 none) 505 q9 0) 506 q9 0) 1108 (ro 0) (some q9)) (zIv_Q (j := 1108) (o := 0) (t0 := 9) (zIv_I (j := 506) (o := 9) (zIv_I (j := 505) (o := 9) (zIv_Qn (j := 504) (o := 9) (zIv_I (j := 503) (o := 9) (zIv_I (j := 502) (o := 9) (zIv_I (j := 501) (o := 9) (zIv_Q (j := 500) (o := 9) (t0 := 11) (zIv_new (zIv_new (hv) (by decide +kernel) hq_q9 (by decide)) (by decide +kernel) hq_q12 (by decide)) (by decide +kernel) (by decide) (by decide)) (by decide +kernel) (by decide) (by decide)) (by decide +kernel) (by decide) (by decide)) (by decide +kernel) (by decide) (by decide)) (by decide +kernel) (by decide) (by decide)) (by decide +kernel) (by decide) (by decide)) (by decide +kernel) (by decide) (by decide)) (by decide +kernel) (by decide) (by decide)) _ _ hw ls hl
  have J7 : ∀ (ro : Nat → Nat), ro 0 = x0 → ∀ (T : zS), zIv ro [(7, 13, 8192), (6, 13, 8192), (5, 13, 20), (4, 13, 8), (3, 16, 8), (2, 16, 8), (1, 15, 8), (0, 11, 0)] [(1106, 0, 7), (1105, 0, 6), (1104, 0, 5), (1103, 0, 4), (1102, 0, 3), (1101, 0, 2), (1100, 0, 1)] [] [7, 6, 5, 4, 3, 2, 1] [] [7, 6, 5, 4, 3, 2, 1] T → ∀ (H_ : Heap) (locs_ : List Loc), zPw cD cy A_ s_.heap T H_ locs_ → ∀ ls : Array Slot, lv_has ls 2 [(0, .ref (ro 0))] → W p_ l e_ ({ frames := 2, cells := 32, slots := 19935, locals := 40 } : Room) s_ m_ args_ below_ meth_ c_ H_ locs_ 7 16436 (MQ below_ (va_Qv (fun (S1 : zS) => ∃ r_ : Nat → Nat, r_ 0 = x0 ∧ ShC S1 r_ ∧ FrC S1 r_) (zPost cD cy A_) A_) args_ s_ 32 19935 A_) (F0 m_ 65 ls []) := by
    intro ro h0 T hv H_ locs_ hw ls hl
    have hL : ro 0 ∈ zL T := hv.rl (by decide)
    have hk : zK T (ro 0) = 11 := hv.k (o := 0) (n := 0) (by decide)
    have hLy : ro 1 ∈ zL T := hv.rl (by decide)
    have hKy : zK T (ro 1) = 15 := hv.k (o := 1) (n := 8) (by decide)
    have hNy : zN T (ro 1) = 8 := hv.n (o := 1) (k := 15) (by decide) (by decide)
    have hPy : zQ T 1100 (ro 0) = some (ro 1) := hv.q (by decide)
    refine lv_aload_n hx hb_ dX11_init_65 rfl (lv_at hl 0 rfl) ?_
    refine lv_bipush (v := 31) hx hb_ dX11_init_66 (by decide) ?_
    refine z_newi (N' := 31) hcf hK_ hw hA (List.mem_of_getElem? (i := 9) rfl) (by decide) (by decide) (by decide) (Nat.le_of_ble_eq_true rfl) (Nat.le_of_ble_eq_true rfl) dX11_init_68 (fun q8 H_ hq_q8 hw => ?_)
    have hne_ro0_q8 : (ro 0) ≠ q8 := fun e_ => hq_q8 (e_ ▸ hL)
    have hk : zK (zNew T q8 13 31) (ro 0) = 11 := (va_up_ne _ _ hne_ro0_q8).trans hk
    have hL : (ro 0) ∈ zL (zNew T q8 13 31) := List.mem_append_left _ hL
    have hne_ro1_q8 : (ro 1) ≠ q8 := fun e_ => hq_q8 (e_ ▸ hLy)
    have hKy : zK (zNew T q8 13 31) (ro 1) = 15 := (va_up_ne _ _ hne_ro1_q8).trans hKy
    have hNy : zN (zNew T q8 13 31) (ro 1) = 8 := (va_up_ne _ _ hne_ro1_q8).trans hNy
    have hLy : (ro 1) ∈ zL (zNew T q8 13 31) := List.mem_append_left _ hLy
    have hL_q8 : q8 ∈ zL (zNew T q8 13 31) := zNew_m
    have hk_q8 : zK (zNew T q8 13 31) q8 = 13 := zNew_K
    have hn_q8 : zN (zNew T q8 13 31) q8 = 31 := zNew_N
    refine z_putQF (k := 11) (i := 7) (j := 1107) (x := (some q8)) (v := .ref q8) (ty := (.array .int)) (ref := "FoldedInHalf") (C := RX11) (T := TX11) (N := 13) tyX11 hcf hK_ hw hin11 tyX11_ok nmX11 hL hk rfl (by decide) (by decide) rfl rfl (List.mem_of_getElem? (i := 14) rfl) (fun _ h_ => h_) rfl hnm rfl rfl (by decide +kernel) rfl rfl dX11_init_70 (fun H_ locs_ hw => ?_)
    exact J8 (zro ro 8 q8) h0 (zsQ (zNew T q8 13 31) 1107 (ro 0) (some q8)) (zIv_Q (j := 1107) (o := 0) (t0 := 8) (zIv_new (hv) (by decide +kernel) hq_q8 (by decide)) (by decide +kernel) (by decide) (by decide)) _ _ hw ls hl
  have J6 : ∀ (ro : Nat → Nat), ro 0 = x0 → ∀ (T : zS), zIv ro [(6, 13, 8192), (5, 13, 20), (4, 13, 8), (3, 16, 8), (2, 16, 8), (1, 15, 8), (0, 11, 0)] [(1105, 0, 6), (1104, 0, 5), (1103, 0, 4), (1102, 0, 3), (1101, 0, 2), (1100, 0, 1)] [] [6, 5, 4, 3, 2, 1] [] [6, 5, 4, 3, 2, 1] T → ∀ (H_ : Heap) (locs_ : List Loc), zPw cD cy A_ s_.heap T H_ locs_ → ∀ ls : Array Slot, lv_has ls 2 [(0, .ref (ro 0))] → W p_ l e_ ({ frames := 2, cells := 32, slots := 19935, locals := 40 } : Room) s_ m_ args_ below_ meth_ c_ H_ locs_ 6 8244 (MQ below_ (va_Qv (fun (S1 : zS) => ∃ r_ : Nat → Nat, r_ 0 = x0 ∧ ShC S1 r_ ∧ FrC S1 r_) (zPost cD cy A_) A_) args_ s_ 32 19935 A_) (F0 m_ 56 ls []) := by
    intro ro h0 T hv H_ locs_ hw ls hl
    have hL : ro 0 ∈ zL T := hv.rl (by decide)
    have hk : zK T (ro 0) = 11 := hv.k (o := 0) (n := 0) (by decide)
    have hLy : ro 1 ∈ zL T := hv.rl (by decide)
    have hKy : zK T (ro 1) = 15 := hv.k (o := 1) (n := 8) (by decide)
    have hNy : zN T (ro 1) = 8 := hv.n (o := 1) (k := 15) (by decide) (by decide)
    have hPy : zQ T 1100 (ro 0) = some (ro 1) := hv.q (by decide)
    refine lv_aload_n hx hb_ dX11_init_56 rfl (lv_at hl 0 rfl) ?_
    refine lv_sipush (v := 8192) hx hb_ dX11_init_57 (by decide) ?_
    refine z_newi (N' := 8192) hcf hK_ hw hA (List.mem_of_getElem? (i := 9) rfl) (by decide) (by decide) (by decide) (Nat.le_of_ble_eq_true rfl) (Nat.le_of_ble_eq_true rfl) dX11_init_60 (fun q7 H_ hq_q7 hw => ?_)
    have hne_ro0_q7 : (ro 0) ≠ q7 := fun e_ => hq_q7 (e_ ▸ hL)
    have hk : zK (zNew T q7 13 8192) (ro 0) = 11 := (va_up_ne _ _ hne_ro0_q7).trans hk
    have hL : (ro 0) ∈ zL (zNew T q7 13 8192) := List.mem_append_left _ hL
    have hne_ro1_q7 : (ro 1) ≠ q7 := fun e_ => hq_q7 (e_ ▸ hLy)
    have hKy : zK (zNew T q7 13 8192) (ro 1) = 15 := (va_up_ne _ _ hne_ro1_q7).trans hKy
    have hNy : zN (zNew T q7 13 8192) (ro 1) = 8 := (va_up_ne _ _ hne_ro1_q7).trans hNy
    have hLy : (ro 1) ∈ zL (zNew T q7 13 8192) := List.mem_append_left _ hLy
    have hL_q7 : q7 ∈ zL (zNew T q7 13 8192) := zNew_m
    have hk_q7 : zK (zNew T q7 13 8192) q7 = 13 := zNew_K
    have hn_q7 : zN (zNew T q7 13 8192) q7 = 8192 := zNew_N
    refine z_putQF (k := 11) (i := 6) (j := 1106) (x := (some q7)) (v := .ref q7) (ty := (.array .int)) (ref := "FoldedInHalf") (C := RX11) (T := TX11) (N := 13) tyX11 hcf hK_ hw hin11 tyX11_ok nmX11 hL hk rfl (by decide) (by decide) rfl rfl (List.mem_of_getElem? (i := 13) rfl) (fun _ h_ => h_) rfl hnm rfl rfl (by decide +kernel) rfl rfl dX11_init_62 (fun H_ locs_ hw => ?_)
    exact J7 (zro ro 7 q7) h0 (zsQ (zNew T q7 13 8192) 1106 (ro 0) (some q7)) (zIv_Q (j := 1106) (o := 0) (t0 := 7) (zIv_new (hv) (by decide +kernel) hq_q7 (by decide)) (by decide +kernel) (by decide) (by decide)) _ _ hw ls hl
  have J5 : ∀ (ro : Nat → Nat), ro 0 = x0 → ∀ (T : zS), zIv ro [(5, 13, 20), (4, 13, 8), (3, 16, 8), (2, 16, 8), (1, 15, 8), (0, 11, 0)] [(1104, 0, 5), (1103, 0, 4), (1102, 0, 3), (1101, 0, 2), (1100, 0, 1)] [] [5, 4, 3, 2, 1] [] [5, 4, 3, 2, 1] T → ∀ (H_ : Heap) (locs_ : List Loc), zPw cD cy A_ s_.heap T H_ locs_ → ∀ ls : Array Slot, lv_has ls 2 [(0, .ref (ro 0))] → W p_ l e_ ({ frames := 2, cells := 32, slots := 19935, locals := 40 } : Room) s_ m_ args_ below_ meth_ c_ H_ locs_ 5 52 (MQ below_ (va_Qv (fun (S1 : zS) => ∃ r_ : Nat → Nat, r_ 0 = x0 ∧ ShC S1 r_ ∧ FrC S1 r_) (zPost cD cy A_) A_) args_ s_ 32 19935 A_) (F0 m_ 47 ls []) := by
    intro ro h0 T hv H_ locs_ hw ls hl
    have hL : ro 0 ∈ zL T := hv.rl (by decide)
    have hk : zK T (ro 0) = 11 := hv.k (o := 0) (n := 0) (by decide)
    have hLy : ro 1 ∈ zL T := hv.rl (by decide)
    have hKy : zK T (ro 1) = 15 := hv.k (o := 1) (n := 8) (by decide)
    have hNy : zN T (ro 1) = 8 := hv.n (o := 1) (k := 15) (by decide) (by decide)
    have hPy : zQ T 1100 (ro 0) = some (ro 1) := hv.q (by decide)
    refine lv_aload_n hx hb_ dX11_init_47 rfl (lv_at hl 0 rfl) ?_
    refine lv_sipush (v := 8192) hx hb_ dX11_init_48 (by decide) ?_
    refine z_newi (N' := 8192) hcf hK_ hw hA (List.mem_of_getElem? (i := 9) rfl) (by decide) (by decide) (by decide) (Nat.le_of_ble_eq_true rfl) (Nat.le_of_ble_eq_true rfl) dX11_init_51 (fun q6 H_ hq_q6 hw => ?_)
    have hne_ro0_q6 : (ro 0) ≠ q6 := fun e_ => hq_q6 (e_ ▸ hL)
    have hk : zK (zNew T q6 13 8192) (ro 0) = 11 := (va_up_ne _ _ hne_ro0_q6).trans hk
    have hL : (ro 0) ∈ zL (zNew T q6 13 8192) := List.mem_append_left _ hL
    have hne_ro1_q6 : (ro 1) ≠ q6 := fun e_ => hq_q6 (e_ ▸ hLy)
    have hKy : zK (zNew T q6 13 8192) (ro 1) = 15 := (va_up_ne _ _ hne_ro1_q6).trans hKy
    have hNy : zN (zNew T q6 13 8192) (ro 1) = 8 := (va_up_ne _ _ hne_ro1_q6).trans hNy
    have hLy : (ro 1) ∈ zL (zNew T q6 13 8192) := List.mem_append_left _ hLy
    have hL_q6 : q6 ∈ zL (zNew T q6 13 8192) := zNew_m
    have hk_q6 : zK (zNew T q6 13 8192) q6 = 13 := zNew_K
    have hn_q6 : zN (zNew T q6 13 8192) q6 = 8192 := zNew_N
    refine z_putQF (k := 11) (i := 5) (j := 1105) (x := (some q6)) (v := .ref q6) (ty := (.array .int)) (ref := "FoldedInHalf") (C := RX11) (T := TX11) (N := 13) tyX11 hcf hK_ hw hin11 tyX11_ok nmX11 hL hk rfl (by decide) (by decide) rfl rfl (List.mem_of_getElem? (i := 12) rfl) (fun _ h_ => h_) rfl hnm rfl rfl (by decide +kernel) rfl rfl dX11_init_53 (fun H_ locs_ hw => ?_)
    exact J6 (zro ro 6 q6) h0 (zsQ (zNew T q6 13 8192) 1105 (ro 0) (some q6)) (zIv_Q (j := 1105) (o := 0) (t0 := 6) (zIv_new (hv) (by decide +kernel) hq_q6 (by decide)) (by decide +kernel) (by decide) (by decide)) _ _ hw ls hl
  have J4 : ∀ (ro : Nat → Nat), ro 0 = x0 → ∀ (T : zS), zIv ro [(4, 13, 8), (3, 16, 8), (2, 16, 8), (1, 15, 8), (0, 11, 0)] [(1103, 0, 4), (1102, 0, 3), (1101, 0, 2), (1100, 0, 1)] [] [4, 3, 2, 1] [] [4, 3, 2, 1] T → ∀ (H_ : Heap) (locs_ : List Loc), zPw cD cy A_ s_.heap T H_ locs_ → ∀ ls : Array Slot, lv_has ls 2 [(0, .ref (ro 0))] → W p_ l e_ ({ frames := 2, cells := 32, slots := 19935, locals := 40 } : Room) s_ m_ args_ below_ meth_ c_ H_ locs_ 4 32 (MQ below_ (va_Qv (fun (S1 : zS) => ∃ r_ : Nat → Nat, r_ 0 = x0 ∧ ShC S1 r_ ∧ FrC S1 r_) (zPost cD cy A_) A_) args_ s_ 32 19935 A_) (F0 m_ 39 ls []) := by
    intro ro h0 T hv H_ locs_ hw ls hl
    have hL : ro 0 ∈ zL T := hv.rl (by decide)
    have hk : zK T (ro 0) = 11 := hv.k (o := 0) (n := 0) (by decide)
    have hLy : ro 1 ∈ zL T := hv.rl (by decide)
    have hKy : zK T (ro 1) = 15 := hv.k (o := 1) (n := 8) (by decide)
    have hNy : zN T (ro 1) = 8 := hv.n (o := 1) (k := 15) (by decide) (by decide)
    have hPy : zQ T 1100 (ro 0) = some (ro 1) := hv.q (by decide)
    refine lv_aload_n hx hb_ dX11_init_39 rfl (lv_at hl 0 rfl) ?_
    refine lv_bipush (v := 20) hx hb_ dX11_init_40 (by decide) ?_
    refine z_newi (N' := 20) hcf hK_ hw hA (List.mem_of_getElem? (i := 9) rfl) (by decide) (by decide) (by decide) (Nat.le_of_ble_eq_true rfl) (Nat.le_of_ble_eq_true rfl) dX11_init_42 (fun q5 H_ hq_q5 hw => ?_)
    have hne_ro0_q5 : (ro 0) ≠ q5 := fun e_ => hq_q5 (e_ ▸ hL)
    have hk : zK (zNew T q5 13 20) (ro 0) = 11 := (va_up_ne _ _ hne_ro0_q5).trans hk
    have hL : (ro 0) ∈ zL (zNew T q5 13 20) := List.mem_append_left _ hL
    have hne_ro1_q5 : (ro 1) ≠ q5 := fun e_ => hq_q5 (e_ ▸ hLy)
    have hKy : zK (zNew T q5 13 20) (ro 1) = 15 := (va_up_ne _ _ hne_ro1_q5).trans hKy
    have hNy : zN (zNew T q5 13 20) (ro 1) = 8 := (va_up_ne _ _ hne_ro1_q5).trans hNy
    have hLy : (ro 1) ∈ zL (zNew T q5 13 20) := List.mem_append_left _ hLy
    have hL_q5 : q5 ∈ zL (zNew T q5 13 20) := zNew_m
    have hk_q5 : zK (zNew T q5 13 20) q5 = 13 := zNew_K
    have hn_q5 : zN (zNew T q5 13 20) q5 = 20 := zNew_N
    refine z_putQF (k := 11) (i := 4) (j := 1104) (x := (some q5)) (v := .ref q5) (ty := (.array .int)) (ref := "FoldedInHalf") (C := RX11) (T := TX11) (N := 13) tyX11 hcf hK_ hw hin11 tyX11_ok nmX11 hL hk rfl (by decide) (by decide) rfl rfl (List.mem_of_getElem? (i := 11) rfl) (fun _ h_ => h_) rfl hnm rfl rfl (by decide +kernel) rfl rfl dX11_init_44 (fun H_ locs_ hw => ?_)
    exact J5 (zro ro 5 q5) h0 (zsQ (zNew T q5 13 20) 1104 (ro 0) (some q5)) (zIv_Q (j := 1104) (o := 0) (t0 := 5) (zIv_new (hv) (by decide +kernel) hq_q5 (by decide)) (by decide +kernel) (by decide) (by decide)) _ _ hw ls hl
  have J3 : ∀ (ro : Nat → Nat), ro 0 = x0 → ∀ (T : zS), zIv ro [(3, 16, 8), (2, 16, 8), (1, 15, 8), (0, 11, 0)] [(1102, 0, 3), (1101, 0, 2), (1100, 0, 1)] [] [3, 2, 1] [] [3, 2, 1] T → ∀ (H_ : Heap) (locs_ : List Loc), zPw cD cy A_ s_.heap T H_ locs_ → ∀ ls : Array Slot, lv_has ls 2 [(0, .ref (ro 0))] → W p_ l e_ ({ frames := 2, cells := 32, slots := 19935, locals := 40 } : Room) s_ m_ args_ below_ meth_ c_ H_ locs_ 3 24 (MQ below_ (va_Qv (fun (S1 : zS) => ∃ r_ : Nat → Nat, r_ 0 = x0 ∧ ShC S1 r_ ∧ FrC S1 r_) (zPost cD cy A_) A_) args_ s_ 32 19935 A_) (F0 m_ 31 ls []) := by
    intro ro h0 T hv H_ locs_ hw ls hl
    have hL : ro 0 ∈ zL T := hv.rl (by decide)
    have hk : zK T (ro 0) = 11 := hv.k (o := 0) (n := 0) (by decide)
    have hLy : ro 1 ∈ zL T := hv.rl (by decide)
    have hKy : zK T (ro 1) = 15 := hv.k (o := 1) (n := 8) (by decide)
    have hNy : zN T (ro 1) = 8 := hv.n (o := 1) (k := 15) (by decide) (by decide)
    have hPy : zQ T 1100 (ro 0) = some (ro 1) := hv.q (by decide)
    refine lv_aload_n hx hb_ dX11_init_31 rfl (lv_at hl 0 rfl) ?_
    refine lv_bipush (v := 8) hx hb_ dX11_init_32 (by decide) ?_
    refine z_newi (N' := 8) hcf hK_ hw hA (List.mem_of_getElem? (i := 9) rfl) (by decide) (by decide) (by decide) (Nat.le_of_ble_eq_true rfl) (Nat.le_of_ble_eq_true rfl) dX11_init_34 (fun q4 H_ hq_q4 hw => ?_)
    have hne_ro0_q4 : (ro 0) ≠ q4 := fun e_ => hq_q4 (e_ ▸ hL)
    have hk : zK (zNew T q4 13 8) (ro 0) = 11 := (va_up_ne _ _ hne_ro0_q4).trans hk
    have hL : (ro 0) ∈ zL (zNew T q4 13 8) := List.mem_append_left _ hL
    have hne_ro1_q4 : (ro 1) ≠ q4 := fun e_ => hq_q4 (e_ ▸ hLy)
    have hKy : zK (zNew T q4 13 8) (ro 1) = 15 := (va_up_ne _ _ hne_ro1_q4).trans hKy
    have hNy : zN (zNew T q4 13 8) (ro 1) = 8 := (va_up_ne _ _ hne_ro1_q4).trans hNy
    have hLy : (ro 1) ∈ zL (zNew T q4 13 8) := List.mem_append_left _ hLy
    have hL_q4 : q4 ∈ zL (zNew T q4 13 8) := zNew_m
    have hk_q4 : zK (zNew T q4 13 8) q4 = 13 := zNew_K
    have hn_q4 : zN (zNew T q4 13 8) q4 = 8 := zNew_N
    refine z_putQF (k := 11) (i := 3) (j := 1103) (x := (some q4)) (v := .ref q4) (ty := (.array .int)) (ref := "FoldedInHalf") (C := RX11) (T := TX11) (N := 13) tyX11 hcf hK_ hw hin11 tyX11_ok nmX11 hL hk rfl (by decide) (by decide) rfl rfl (List.mem_of_getElem? (i := 10) rfl) (fun _ h_ => h_) rfl hnm rfl rfl (by decide +kernel) rfl rfl dX11_init_36 (fun H_ locs_ hw => ?_)
    exact J4 (zro ro 4 q4) h0 (zsQ (zNew T q4 13 8) 1103 (ro 0) (some q4)) (zIv_Q (j := 1103) (o := 0) (t0 := 4) (zIv_new (hv) (by decide +kernel) hq_q4 (by decide)) (by decide +kernel) (by decide) (by decide)) _ _ hw ls hl
  have J2 : ∀ (ro : Nat → Nat), ro 0 = x0 → ∀ (T : zS), zIv ro [(2, 16, 8), (1, 15, 8), (0, 11, 0)] [(1101, 0, 2), (1100, 0, 1)] [] [2, 1] [] [2, 1] T → ∀ (H_ : Heap) (locs_ : List Loc), zPw cD cy A_ s_.heap T H_ locs_ → ∀ ls : Array Slot, lv_has ls 2 [(0, .ref (ro 0))] → W p_ l e_ ({ frames := 2, cells := 32, slots := 19935, locals := 40 } : Room) s_ m_ args_ below_ meth_ c_ H_ locs_ 2 16 (MQ below_ (va_Qv (fun (S1 : zS) => ∃ r_ : Nat → Nat, r_ 0 = x0 ∧ ShC S1 r_ ∧ FrC S1 r_) (zPost cD cy A_) A_) args_ s_ 32 19935 A_) (F0 m_ 22 ls []) := by
    intro ro h0 T hv H_ locs_ hw ls hl
    have hL : ro 0 ∈ zL T := hv.rl (by decide)
    have hk : zK T (ro 0) = 11 := hv.k (o := 0) (n := 0) (by decide)
    have hLy : ro 1 ∈ zL T := hv.rl (by decide)
    have hKy : zK T (ro 1) = 15 := hv.k (o := 1) (n := 8) (by decide)
    have hNy : zN T (ro 1) = 8 := hv.n (o := 1) (k := 15) (by decide) (by decide)
    have hPy : zQ T 1100 (ro 0) = some (ro 1) := hv.q (by decide)
    refine lv_aload_n hx hb_ dX11_init_22 rfl (lv_at hl 0 rfl) ?_
    refine lv_bipush (v := 8) hx hb_ dX11_init_23 (by decide) ?_
    refine z_newq (N' := 8) hcf hK_ hE hw hA (List.mem_of_getElem? (i := 6) rfl) (by decide) (by decide) (by decide) (Nat.le_of_ble_eq_true rfl) (Nat.le_of_ble_eq_true rfl) dX11_init_25 (fun q3 H_ hq_q3 hw => ?_)
    have hne_ro0_q3 : (ro 0) ≠ q3 := fun e_ => hq_q3 (e_ ▸ hL)
    have hk : zK (zNew T q3 16 8) (ro 0) = 11 := (va_up_ne _ _ hne_ro0_q3).trans hk
    have hL : (ro 0) ∈ zL (zNew T q3 16 8) := List.mem_append_left _ hL
    have hne_ro1_q3 : (ro 1) ≠ q3 := fun e_ => hq_q3 (e_ ▸ hLy)
    have hKy : zK (zNew T q3 16 8) (ro 1) = 15 := (va_up_ne _ _ hne_ro1_q3).trans hKy
    have hNy : zN (zNew T q3 16 8) (ro 1) = 8 := (va_up_ne _ _ hne_ro1_q3).trans hNy
    have hLy : (ro 1) ∈ zL (zNew T q3 16 8) := List.mem_append_left _ hLy
    have hL_q3 : q3 ∈ zL (zNew T q3 16 8) := zNew_m
    have hk_q3 : zK (zNew T q3 16 8) q3 = 16 := zNew_K
    have hn_q3 : zN (zNew T q3 16 8) q3 = 8 := zNew_N
    refine z_putQF (k := 11) (i := 2) (j := 1102) (x := (some q3)) (v := .ref q3) (ty := (.array (.object "FoldedInHalf$Strip"))) (ref := "FoldedInHalf") (C := RX11) (T := TX11) (N := 13) tyX11 hcf hK_ hw hin11 tyX11_ok nmX11 hL hk rfl (by decide) (by decide) rfl rfl (List.mem_of_getElem? (i := 8) rfl) (fun _ h_ => h_) rfl hnm rfl rfl (by decide +kernel) rfl rfl dX11_init_28 (fun H_ locs_ hw => ?_)
    exact J3 (zro ro 3 q3) h0 (zsQ (zNew T q3 16 8) 1102 (ro 0) (some q3)) (zIv_Q (j := 1102) (o := 0) (t0 := 3) (zIv_new (hv) (by decide +kernel) hq_q3 (by decide)) (by decide +kernel) (by decide) (by decide)) _ _ hw ls hl
  have J1 : ∀ (ro : Nat → Nat), ro 0 = x0 → ∀ (T : zS), zIv ro [(1, 15, 8), (0, 11, 0)] [(1100, 0, 1)] [] [1] [] [1] T → ∀ (H_ : Heap) (locs_ : List Loc), zPw cD cy A_ s_.heap T H_ locs_ → ∀ ls : Array Slot, lv_has ls 2 [(0, .ref (ro 0))] → W p_ l e_ ({ frames := 2, cells := 32, slots := 19935, locals := 40 } : Room) s_ m_ args_ below_ meth_ c_ H_ locs_ 1 8 (MQ below_ (va_Qv (fun (S1 : zS) => ∃ r_ : Nat → Nat, r_ 0 = x0 ∧ ShC S1 r_ ∧ FrC S1 r_) (zPost cD cy A_) A_) args_ s_ 32 19935 A_) (F0 m_ 13 ls []) := by
    intro ro h0 T hv H_ locs_ hw ls hl
    have hL : ro 0 ∈ zL T := hv.rl (by decide)
    have hk : zK T (ro 0) = 11 := hv.k (o := 0) (n := 0) (by decide)
    have hLy : ro 1 ∈ zL T := hv.rl (by decide)
    have hKy : zK T (ro 1) = 15 := hv.k (o := 1) (n := 8) (by decide)
    have hNy : zN T (ro 1) = 8 := hv.n (o := 1) (k := 15) (by decide) (by decide)
    have hPy : zQ T 1100 (ro 0) = some (ro 1) := hv.q (by decide)
    refine lv_aload_n hx hb_ dX11_init_13 rfl (lv_at hl 0 rfl) ?_
    refine lv_bipush (v := 8) hx hb_ dX11_init_14 (by decide) ?_
    refine z_newq (N' := 8) hcf hK_ hE hw hA (List.mem_of_getElem? (i := 6) rfl) (by decide) (by decide) (by decide) (Nat.le_of_ble_eq_true rfl) (Nat.le_of_ble_eq_true rfl) dX11_init_16 (fun q2 H_ hq_q2 hw => ?_)
    have hne_ro0_q2 : (ro 0) ≠ q2 := fun e_ => hq_q2 (e_ ▸ hL)
    have hk : zK (zNew T q2 16 8) (ro 0) = 11 := (va_up_ne _ _ hne_ro0_q2).trans hk
    have hL : (ro 0) ∈ zL (zNew T q2 16 8) := List.mem_append_left _ hL
    have hne_ro1_q2 : (ro 1) ≠ q2 := fun e_ => hq_q2 (e_ ▸ hLy)
    have hKy : zK (zNew T q2 16 8) (ro 1) = 15 := (va_up_ne _ _ hne_ro1_q2).trans hKy
    have hNy : zN (zNew T q2 16 8) (ro 1) = 8 := (va_up_ne _ _ hne_ro1_q2).trans hNy
    have hLy : (ro 1) ∈ zL (zNew T q2 16 8) := List.mem_append_left _ hLy
    have hL_q2 : q2 ∈ zL (zNew T q2 16 8) := zNew_m
    have hk_q2 : zK (zNew T q2 16 8) q2 = 16 := zNew_K
    have hn_q2 : zN (zNew T q2 16 8) q2 = 8 := zNew_N
    refine z_putQF (k := 11) (i := 1) (j := 1101) (x := (some q2)) (v := .ref q2) (ty := (.array (.object "FoldedInHalf$Strip"))) (ref := "FoldedInHalf") (C := RX11) (T := TX11) (N := 13) tyX11 hcf hK_ hw hin11 tyX11_ok nmX11 hL hk rfl (by decide) (by decide) rfl rfl (List.mem_of_getElem? (i := 7) rfl) (fun _ h_ => h_) rfl hnm rfl rfl (by decide +kernel) rfl rfl dX11_init_19 (fun H_ locs_ hw => ?_)
    exact J2 (zro ro 2 q2) h0 (zsQ (zNew T q2 16 8) 1101 (ro 0) (some q2)) (zIv_Q (j := 1101) (o := 0) (t0 := 2) (zIv_new (hv) (by decide +kernel) hq_q2 (by decide)) (by decide +kernel) (by decide) (by decide)) _ _ hw ls hl
  have J0 : ∀ (ro : Nat → Nat), ro 0 = x0 → ∀ (T : zS), zIv ro [(0, 11, 0)] [] [] [] [] [] T → ∀ (H_ : Heap) (locs_ : List Loc), zPw cD cy A_ s_.heap T H_ locs_ → ∀ ls : Array Slot, lv_has ls 2 [(0, .ref (ro 0))] → W p_ l e_ ({ frames := 2, cells := 32, slots := 19935, locals := 40 } : Room) s_ m_ args_ below_ meth_ c_ H_ locs_ 0 0 (MQ below_ (va_Qv (fun (S1 : zS) => ∃ r_ : Nat → Nat, r_ 0 = x0 ∧ ShC S1 r_ ∧ FrC S1 r_) (zPost cD cy A_) A_) args_ s_ 32 19935 A_) (F0 m_ 0 ls []) := by
    intro ro h0 T hv H_ locs_ hw ls hl
    have hL : ro 0 ∈ zL T := hv.rl (by decide)
    have hk : zK T (ro 0) = 11 := hv.k (o := 0) (n := 0) (by decide)
    refine lv_aload_n hx hb_ dX11_init_0 rfl (lv_at hl 0 rfl) ?_
    refine W.objInit hx hb_ hown (hts (.methodLink RX11 1 objectInit) (by decide +kernel)) (hts (.instanceMethod objectInit) (by decide +kernel)) (hts (.code objectInit ⟨#[0xb1]⟩ 1 none) (by decide +kernel)) rfl (by rw [hml]; exact hl.1) rfl dX11_init_1 (Nat.le_of_ble_eq_true rfl) (Nat.le_of_ble_eq_true rfl) ?_
    refine W.eq (g2 := F0 m_ 4 ls []) rfl ?_
    refine lv_aload_n hx hb_ dX11_init_4 rfl (lv_at hl 0 rfl) ?_
    refine lv_bipush (v := 8) hx hb_ dX11_init_5 (by decide) ?_
    refine z_newp (N' := 8) hcf hK_ hE hw hA (List.mem_of_getElem? (i := 4) rfl) (by decide) (by decide) (by decide) (Nat.le_of_ble_eq_true rfl) (Nat.le_of_ble_eq_true rfl) dX11_init_7 (fun q1 H_ hq_q1 hw => ?_)
    have hne_ro0_q1 : (ro 0) ≠ q1 := fun e_ => hq_q1 (e_ ▸ hL)
    have hk : zK (zNew T q1 15 8) (ro 0) = 11 := (va_up_ne _ _ hne_ro0_q1).trans hk
    have hL : (ro 0) ∈ zL (zNew T q1 15 8) := List.mem_append_left _ hL
    have hL_q1 : q1 ∈ zL (zNew T q1 15 8) := zNew_m
    have hk_q1 : zK (zNew T q1 15 8) q1 = 15 := zNew_K
    have hn_q1 : zN (zNew T q1 15 8) q1 = 8 := zNew_N
    refine z_putQF (k := 11) (i := 0) (j := 1100) (x := (some q1)) (v := .ref q1) (ty := (.array (.object "FoldedInHalf$Shelf"))) (ref := "FoldedInHalf") (C := RX11) (T := TX11) (N := 13) tyX11 hcf hK_ hw hin11 tyX11_ok nmX11 hL hk rfl (by decide) (by decide) rfl rfl (List.mem_of_getElem? (i := 5) rfl) (fun _ h_ => h_) rfl hnm rfl rfl (by decide +kernel) rfl rfl dX11_init_10 (fun H_ locs_ hw => ?_)
    exact J1 (zro ro 1 q1) h0 (zsQ (zNew T q1 15 8) 1100 (ro 0) (some q1)) (zIv_Q (j := 1100) (o := 0) (t0 := 1) (zIv_new (hv) (by decide +kernel) hq_q1 (by decide)) (by decide +kernel) (by decide) (by decide)) _ _ hw ls hl
  exact J0 (fun _ => x0) rfl S_ (zIv_0 hL hk (by decide) (fun t_ ht => absurd ht List.not_mem_nil)) _ _ hw ls hl
