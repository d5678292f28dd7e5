set_option maxHeartbeats 4000000 in
set_option maxRecDepth 100000 in
theorem c_X12_init (l : Launch) (cD : va_G) (cy : Nat → ClassId) (sz_ : Nat) (S_ : zS) (x0 : Nat) (hS0 : zL S_ = [x0]) (hL : x0 ∈ zL S_) (hk : zK S_ x0 = 12) (hI0 : ∀ j_, zI S_ j_ x0 = 0) : Met l yX12_init wsX12_init ({ frames := 1, cells := 38, slots := 69369, locals := 20 } : Room) (va_Pc [.ref x0] (zPre cD cy S_ sz_)) (va_Qv (fun (S1 : zS) => ∃ r_ : Nat → Nat, r_ 0 = x0 ∧ ShM S1 r_ ∧ FrM S1 r_) (zPost cD cy (zAd cy S_ sz_)) (zAd cy S_ sz_)) 38 69369 (zAd cy S_ sz_) := by
  refine z_ofW (cc := cX12_init) (maxL := 1) (ret := none) (own := RX12) (QQ := fun A_ => va_Qv (fun (S1 : zS) => ∃ r_ : Nat → Nat, r_ 0 = x0 ∧ ShM S1 r_ ∧ FrM S1 r_) (zPost cD cy A_) A_) (by decide) rfl rfl (Nat.le_of_ble_eq_true rfl) ?_
  intro p_ e_ s_ m_ args_ below_ meth_ c_ A_ ls hcf hr hlk hnm hK_ hE hw hA hl
  obtain ⟨hx, hb_, hml, hown, hts⟩ := id hcf
  have hin12 : ∀ w_ ∈ wsX120, w_ ∈ wsX12_init := fun w_ h_ => (List.mem_cons_of_mem _ (List.mem_append_right _ h_))
  have hl : lv_has ls 1 [(0, .ref x0)] := hl
  have J39 : ∀ (ro : Nat → Nat), ro 0 = x0 → ∀ (T : zS), zIv ro [(53, 13, 20), (52, 13, 64), (51, 13, 64), (48, 13, 11136), (47, 13, 8), (46, 13, 8), (43, 13, 6), (42, 13, 6), (41, 13, 3721), (40, 13, 3721), (38, 13, 16384), (37, 13, 16384), (36, 13, 4001), (35, 13, 4001), (34, 13, 4001), (33, 13, 4001), (30, 13, 41), (29, 13, 41), (28, 14, 41), (27, 14, 41), (26, 14, 41), (25, 14, 41), (24, 14, 8), (23, 14, 8), (22, 13, 25), (21, 13, 25), (13, 13, 19), (12, 14, 160), (11, 14, 1280), (10, 13, 8), (9, 13, 8), (8, 13, 8), (7, 13, 8), (6, 14, 8), (5, 13, 8), (4, 13, 8), (3, 13, 8), (2, 13, 8), (0, 12, 0)] [(1253, 0, 53), (1252, 0, 52), (1251, 0, 51), (1248, 0, 48), (1247, 0, 47), (1246, 0, 46), (1243, 0, 43), (1242, 0, 42), (1241, 0, 41), (1240, 0, 40), (1238, 0, 38), (1237, 0, 37), (1236, 0, 36), (1235, 0, 35), (1234, 0, 34), (1233, 0, 33), (1230, 0, 30), (1229, 0, 29), (1228, 0, 28), (1227, 0, 27), (1226, 0, 26), (1225, 0, 25), (1224, 0, 24), (1223, 0, 23), (1222, 0, 22), (1221, 0, 21), (1213, 0, 13), (1212, 0, 12), (1211, 0, 11), (1210, 0, 10), (1209, 0, 9), (1208, 0, 8), (1207, 0, 7), (1206, 0, 6), (1205, 0, 5), (1204, 0, 4), (1203, 0, 3), (1202, 0, 2)] [(1201, 0, (-1)), (1200, 0, 0), (1249, 0, 0), (1254, 0, 0), (1255, 0, 0)] [53, 52, 51, 48, 47, 46, 43, 42, 41, 40, 38, 37, 36, 35, 34, 33, 30, 29, 28, 27, 26, 25, 24, 23, 22, 21, 12, 11, 10, 9, 8, 7, 6, 5, 4, 3, 2] [] [53, 52, 51, 48, 47, 46, 43, 42, 41, 40, 38, 37, 36, 35, 34, 33, 30, 29, 28, 27, 26, 25, 24, 23, 22, 21, 13, 12, 11, 10, 9, 8, 7, 6, 5, 4, 3, 2] T → ∀ (H_ : Heap) (locs_ : List Loc), zPw cD cy A_ s_.heap T H_ locs_ → ∀ ls : Array Slot, lv_has ls 1 [(0, .ref (ro 0))] → W p_ l e_ ({ frames := 1, cells := 38, slots := 69369, locals := 20 } : Room) s_ m_ args_ below_ meth_ c_ H_ locs_ 38 69369 (MQ below_ (va_Qv (fun (S1 : zS) => ∃ r_ : Nat → Nat, r_ 0 = x0 ∧ ShM S1 r_ ∧ FrM S1 r_) (zPost cD cy A_) A_) args_ s_ 38 69369 A_) (F0 m_ 429 ls []) := by
    intro ro h0 T hv H_ locs_ hw ls hl
    have hL : ro 0 ∈ zL T := hv.rl (by decide)
    have hk : zK T (ro 0) = 12 := hv.k (o := 0) (n := 0) (by decide)
    exact z_vret hcf hr hlk hw (⟨ro, h0, hv.shM (by decide +kernel) (by decide +kernel), hv.frM (by decide) (by decide) (by decide)⟩) dX12_init_429
  have J38 : ∀ (ro : Nat → Nat), ro 0 = x0 → ∀ (T : zS), zIv ro [(52, 13, 64), (51, 13, 64), (48, 13, 11136), (47, 13, 8), (46, 13, 8), (43, 13, 6), (42, 13, 6), (41, 13, 3721), (40, 13, 3721), (38, 13, 16384), (37, 13, 16384), (36, 13, 4001), (35, 13, 4001), (34, 13, 4001), (33, 13, 4001), (30, 13, 41), (29, 13, 41), (28, 14, 41), (27, 14, 41), (26, 14, 41), (25, 14, 41), (24, 14, 8), (23, 14, 8), (22, 13, 25), (21, 13, 25), (13, 13, 19), (12, 14, 160), (11, 14, 1280), (10, 13, 8), (9, 13, 8), (8, 13, 8), (7, 13, 8), (6, 14, 8), (5, 13, 8), (4, 13, 8), (3, 13, 8), (2, 13, 8), (0, 12, 0)] [(1252, 0, 52), (1251, 0, 51), (1248, 0, 48), (1247, 0, 47), (1246, 0, 46), (1243, 0, 43), (1242, 0, 42), (1241, 0, 41), (1240, 0, 40), (1238, 0, 38), (1237, 0, 37), (1236, 0, 36), (1235, 0, 35), (1234, 0, 34), (1233, 0, 33), (1230, 0, 30), (1229, 0, 29), (1228, 0, 28), (1227, 0, 27), (1226, 0, 26), (1225, 0, 25), (1224, 0, 24), (1223, 0, 23), (1222, 0, 22), (1221, 0, 21), (1213, 0, 13), (1212, 0, 12), (1211, 0, 11), (1210, 0, 10), (1209, 0, 9), (1208, 0, 8), (1207, 0, 7), (1206, 0, 6), (1205, 0, 5), (1204, 0, 4), (1203, 0, 3), (1202, 0, 2)] [(1201, 0, (-1)), (1200, 0, 0), (1249, 0, 0), (1254, 0, 0), (1255, 0, 0)] [52, 51, 48, 47, 46, 43, 42, 41, 40, 38, 37, 36, 35, 34, 33, 30, 29, 28, 27, 26, 25, 24, 23, 22, 21, 12, 11, 10, 9, 8, 7, 6, 5, 4, 3, 2] [] [52, 51, 48, 47, 46, 43, 42, 41, 40, 38, 37, 36, 35, 34, 33, 30, 29, 28, 27, 26, 25, 24, 23, 22, 21, 13, 12, 11, 10, 9, 8, 7, 6, 5, 4, 3, 2] T → ∀ (H_ : Heap) (locs_ : List Loc), zPw cD cy A_ s_.heap T H_ locs_ → ∀ ls : Array Slot, lv_has ls 1 [(0, .ref (ro 0))] → W p_ l e_ ({ frames := 1, cells := 38, slots := 69369, locals := 20 } : Room) s_ m_ args_ below_ meth_ c_ H_ locs_ 37 69349 (MQ below_ (va_Qv (fun (S1 : zS) => ∃ r_ : Nat → Nat, r_ 0 = x0 ∧ ShM S1 r_ ∧ FrM S1 r_) (zPost cD cy A_) A_) args_ s_ 38 69369 A_) (F0 m_ 421 ls []) := by
    intro ro h0 T hv H_ locs_ hw ls hl
    have hL : ro 0 ∈ zL T := hv.rl (by decide)
    have hk : zK T (ro 0) = 12 := hv.k (o := 0) (n := 0) (by decide)
    refine lv_aload_n hx hb_ dX12_init_421 rfl (lv_at hl 0 rfl) ?_
    refine lv_bipush (v := 20) hx hb_ dX12_init_422 (by decide) ?_
    refine z_newi (N' := 20) hcf hK_ hw hA (List.mem_of_getElem? (i := 5) rfl) (by decide) (by decide) (by decide) (Nat.le_of_ble_eq_true rfl) (Nat.le_of_ble_eq_true rfl) dX12_init_424 (fun q57 H_ hq_q57 hw => ?_)
    have hne_ro0_q57 : (ro 0) ≠ q57 := fun e_ => hq_q57 (e_ ▸ hL)
    have hk : zK (zNew T q57 13 20) (ro 0) = 12 := (va_up_ne _ _ hne_ro0_q57).trans hk
    have hL : (ro 0) ∈ zL (zNew T q57 13 20) := List.mem_append_left _ hL
    have hL_q57 : q57 ∈ zL (zNew T q57 13 20) := zNew_m
    have hk_q57 : zK (zNew T q57 13 20) q57 = 13 := zNew_K
    have hn_q57 : zN (zNew T q57 13 20) q57 = 20 := zNew_N
    refine z_putQF (k := 12) (i := 53) (j := 1253) (x := (some q57)) (v := .ref q57) (ty := (.array .int)) (ref := "FoldedInHalfModel") (C := RX12) (T := TX12) (N := 56) tyX12 hcf hK_ hw hin12 tyX12_ok nmX12 hL hk rfl (by decide) (by decide) rfl rfl (List.mem_of_getElem? (i := 44) rfl) (fun _ h_ => h_) rfl hnm rfl rfl (by decide +kernel) rfl rfl dX12_init_426 (fun H_ locs_ hw => ?_)
    exact J39 (zro ro 53 q57) h0 (zsQ (zNew T q57 13 20) 1253 (ro 0) (some q57)) (zIv_Q (j := 1253) (o := 0) (t0 := 53) (zIv_new (hv) (by decide +kernel) hq_q57 (by decide)) (by decide +kernel) (by decide) (by decide)) _ _ hw ls hl
  have J37 : ∀ (ro : Nat → Nat), ro 0 = x0 → ∀ (T : zS), zIv ro [(51, 13, 64), (48, 13, 11136), (47, 13, 8), (46, 13, 8), (43, 13, 6), (42, 13, 6), (41, 13, 3721), (40, 13, 3721), (38, 13, 16384), (37, 13, 16384), (36, 13, 4001), (35, 13, 4001), (34, 13, 4001), (33, 13, 4001), (30, 13, 41), (29, 13, 41), (28, 14, 41), (27, 14, 41), (26, 14, 41), (25, 14, 41), (24, 14, 8), (23, 14, 8), (22, 13, 25), (21, 13, 25), (13, 13, 19), (12, 14, 160), (11, 14, 1280), (10, 13, 8), (9, 13, 8), (8, 13, 8), (7, 13, 8), (6, 14, 8), (5, 13, 8), (4, 13, 8), (3, 13, 8), (2, 13, 8), (0, 12, 0)] [(1251, 0, 51), (1248, 0, 48), (1247, 0, 47), (1246, 0, 46), (1243, 0, 43), (1242, 0, 42), (1241, 0, 41), (1240, 0, 40), (1238, 0, 38), (1237, 0, 37), (1236, 0, 36), (1235, 0, 35), (1234, 0, 34), (1233, 0, 33), (1230, 0, 30), (1229, 0, 29), (1228, 0, 28), (1227, 0, 27), (1226, 0, 26), (1225, 0, 25), (1224, 0, 24), (1223, 0, 23), (1222, 0, 22), (1221, 0, 21), (1213, 0, 13), (1212, 0, 12), (1211, 0, 11), (1210, 0, 10), (1209, 0, 9), (1208, 0, 8), (1207, 0, 7), (1206, 0, 6), (1205, 0, 5), (1204, 0, 4), (1203, 0, 3), (1202, 0, 2)] [(1201, 0, (-1)), (1200, 0, 0), (1249, 0, 0), (1254, 0, 0), (1255, 0, 0)] [51, 48, 47, 46, 43, 42, 41, 40, 38, 37, 36, 35, 34, 33, 30, 29, 28, 27, 26, 25, 24, 23, 22, 21, 12, 11, 10, 9, 8, 7, 6, 5, 4, 3, 2] [] [51, 48, 47, 46, 43, 42, 41, 40, 38, 37, 36, 35, 34, 33, 30, 29, 28, 27, 26, 25, 24, 23, 22, 21, 13, 12, 11, 10, 9, 8, 7, 6, 5, 4, 3, 2] T → ∀ (H_ : Heap) (locs_ : List Loc), zPw cD cy A_ s_.heap T H_ locs_ → ∀ ls : Array Slot, lv_has ls 1 [(0, .ref (ro 0))] → W p_ l e_ ({ frames := 1, cells := 38, slots := 69369, locals := 20 } : Room) s_ m_ args_ below_ meth_ c_ H_ locs_ 36 69285 (MQ below_ (va_Qv (fun (S1 : zS) => ∃ r_ : Nat → Nat, r_ 0 = x0 ∧ ShM S1 r_ ∧ FrM S1 r_) (zPost cD cy A_) A_) args_ s_ 38 69369 A_) (F0 m_ 413 ls []) := by
    intro ro h0 T hv H_ locs_ hw ls hl
    have hL : ro 0 ∈ zL T := hv.rl (by decide)
    have hk : zK T (ro 0) = 12 := hv.k (o := 0) (n := 0) (by decide)
    refine lv_aload_n hx hb_ dX12_init_413 rfl (lv_at hl 0 rfl) ?_
    refine lv_bipush (v := 64) hx hb_ dX12_init_414 (by decide) ?_
    refine z_newi (N' := 64) hcf hK_ hw hA (List.mem_of_getElem? (i := 5) rfl) (by decide) (by decide) (by decide) (Nat.le_of_ble_eq_true rfl) (Nat.le_of_ble_eq_true rfl) dX12_init_416 (fun q56 H_ hq_q56 hw => ?_)
    have hne_ro0_q56 : (ro 0) ≠ q56 := fun e_ => hq_q56 (e_ ▸ hL)
    have hk : zK (zNew T q56 13 64) (ro 0) = 12 := (va_up_ne _ _ hne_ro0_q56).trans hk
    have hL : (ro 0) ∈ zL (zNew T q56 13 64) := List.mem_append_left _ hL
    have hL_q56 : q56 ∈ zL (zNew T q56 13 64) := zNew_m
    have hk_q56 : zK (zNew T q56 13 64) q56 = 13 := zNew_K
    have hn_q56 : zN (zNew T q56 13 64) q56 = 64 := zNew_N
    refine z_putQF (k := 12) (i := 52) (j := 1252) (x := (some q56)) (v := .ref q56) (ty := (.array .int)) (ref := "FoldedInHalfModel") (C := RX12) (T := TX12) (N := 56) tyX12 hcf hK_ hw hin12 tyX12_ok nmX12 hL hk rfl (by decide) (by decide) rfl rfl (List.mem_of_getElem? (i := 43) rfl) (fun _ h_ => h_) rfl hnm rfl rfl (by decide +kernel) rfl rfl dX12_init_418 (fun H_ locs_ hw => ?_)
    exact J38 (zro ro 52 q56) h0 (zsQ (zNew T q56 13 64) 1252 (ro 0) (some q56)) (zIv_Q (j := 1252) (o := 0) (t0 := 52) (zIv_new (hv) (by decide +kernel) hq_q56 (by decide)) (by decide +kernel) (by decide) (by decide)) _ _ hw ls hl
  have J36 : ∀ (ro : Nat → Nat), ro 0 = x0 → ∀ (T : zS), zIv ro [(48, 13, 11136), (47, 13, 8), (46, 13, 8), (43, 13, 6), (42, 13, 6), (41, 13, 3721), (40, 13, 3721), (38, 13, 16384), (37, 13, 16384), (36, 13, 4001), (35, 13, 4001), (34, 13, 4001), (33, 13, 4001), (30, 13, 41), (29, 13, 41), (28, 14, 41), (27, 14, 41), (26, 14, 41), (25, 14, 41), (24, 14, 8), (23, 14, 8), (22, 13, 25), (21, 13, 25), (13, 13, 19), (12, 14, 160), (11, 14, 1280), (10, 13, 8), (9, 13, 8), (8, 13, 8), (7, 13, 8), (6, 14, 8), (5, 13, 8), (4, 13, 8), (3, 13, 8), (2, 13, 8), (0, 12, 0)] [(1248, 0, 48), (1247, 0, 47), (1246, 0, 46), (1243, 0, 43), (1242, 0, 42), (1241, 0, 41), (1240, 0, 40), (1238, 0, 38), (1237, 0, 37), (1236, 0, 36), (1235, 0, 35), (1234, 0, 34), (1233, 0, 33), (1230, 0, 30), (1229, 0, 29), (1228, 0, 28), (1227, 0, 27), (1226, 0, 26), (1225, 0, 25), (1224, 0, 24), (1223, 0, 23), (1222, 0, 22), (1221, 0, 21), (1213, 0, 13), (1212, 0, 12), (1211, 0, 11), (1210, 0, 10), (1209, 0, 9), (1208, 0, 8), (1207, 0, 7), (1206, 0, 6), (1205, 0, 5), (1204, 0, 4), (1203, 0, 3), (1202, 0, 2)] [(1201, 0, (-1)), (1200, 0, 0), (1249, 0, 0), (1254, 0, 0), (1255, 0, 0)] [48, 47, 46, 43, 42, 41, 40, 38, 37, 36, 35, 34, 33, 30, 29, 28, 27, 26, 25, 24, 23, 22, 21, 12, 11, 10, 9, 8, 7, 6, 5, 4, 3, 2] [] [48, 47, 46, 43, 42, 41, 40, 38, 37, 36, 35, 34, 33, 30, 29, 28, 27, 26, 25, 24, 23, 22, 21, 13, 12, 11, 10, 9, 8, 7, 6, 5, 4, 3, 2] T → ∀ (H_ : Heap) (locs_ : List Loc), zPw cD cy A_ s_.heap T H_ locs_ → ∀ ls : Array Slot, lv_has ls 1 [(0, .ref (ro 0))] → W p_ l e_ ({ frames := 1, cells := 38, slots := 69369, locals := 20 } : Room) s_ m_ args_ below_ meth_ c_ H_ locs_ 35 69221 (MQ below_ (va_Qv (fun (S1 : zS) => ∃ r_ : Nat → Nat, r_ 0 = x0 ∧ ShM S1 r_ ∧ FrM S1 r_) (zPost cD cy A_) A_) args_ s_ 38 69369 A_) (F0 m_ 405 ls []) := by
    intro ro h0 T hv H_ locs_ hw ls hl
    have hL : ro 0 ∈ zL T := hv.rl (by decide)
    have hk : zK T (ro 0) = 12 := hv.k (o := 0) (n := 0) (by decide)
    refine lv_aload_n hx hb_ dX12_init_405 rfl (lv_at hl 0 rfl) ?_
    refine lv_bipush (v := 64) hx hb_ dX12_init_406 (by decide) ?_
    refine z_newi (N' := 64) hcf hK_ hw hA (List.mem_of_getElem? (i := 5) rfl) (by decide) (by decide) (by decide) (Nat.le_of_ble_eq_true rfl) (Nat.le_of_ble_eq_true rfl) dX12_init_408 (fun q55 H_ hq_q55 hw => ?_)
    have hne_ro0_q55 : (ro 0) ≠ q55 := fun e_ => hq_q55 (e_ ▸ hL)
    have hk : zK (zNew T q55 13 64) (ro 0) = 12 := (va_up_ne _ _ hne_ro0_q55).trans hk
    have hL : (ro 0) ∈ zL (zNew T q55 13 64) := List.mem_append_left _ hL
    have hL_q55 : q55 ∈ zL (zNew T q55 13 64) := zNew_m
    have hk_q55 : zK (zNew T q55 13 64) q55 = 13 := zNew_K
    have hn_q55 : zN (zNew T q55 13 64) q55 = 64 := zNew_N
    refine z_putQF (k := 12) (i := 51) (j := 1251) (x := (some q55)) (v := .ref q55) (ty := (.array .int)) (ref := "FoldedInHalfModel") (C := RX12) (T := TX12) (N := 56) tyX12 hcf hK_ hw hin12 tyX12_ok nmX12 hL hk rfl (by decide) (by decide) rfl rfl (List.mem_of_getElem? (i := 42) rfl) (fun _ h_ => h_) rfl hnm rfl rfl (by decide +kernel) rfl rfl dX12_init_410 (fun H_ locs_ hw => ?_)
    exact J37 (zro ro 51 q55) h0 (zsQ (zNew T q55 13 64) 1251 (ro 0) (some q55)) (zIv_Q (j := 1251) (o := 0) (t0 := 51) (zIv_new (hv) (by decide +kernel) hq_q55 (by decide)) (by decide +kernel) (by decide) (by decide)) _ _ hw ls hl
  have J35 : ∀ (ro : Nat → Nat), ro 0 = x0 → ∀ (T : zS), zIv ro [(47, 13, 8), (46, 13, 8), (43, 13, 6), (42, 13, 6), (41, 13, 3721), (40, 13, 3721), (38, 13, 16384), (37, 13, 16384), (36, 13, 4001), (35, 13, 4001), (34, 13, 4001), (33, 13, 4001), (30, 13, 41), (29, 13, 41), (28, 14, 41), (27, 14, 41), (26, 14, 41), (25, 14, 41), (24, 14, 8), (23, 14, 8), (22, 13, 25), (21, 13, 25), (13, 13, 19), (12, 14, 160), (11, 14, 1280), (10, 13, 8), (9, 13, 8), (8, 13, 8), (7, 13, 8), (6, 14, 8), (5, 13, 8), (4, 13, 8), (3, 13, 8), (2, 13, 8), (0, 12, 0)] [(1247, 0, 47), (1246, 0, 46), (1243, 0, 43), (1242, 0, 42), (1241, 0, 41), (1240, 0, 40), (1238, 0, 38), (1237, 0, 37), (1236, 0, 36), (1235, 0, 35), (1234, 0, 34), (1233, 0, 33), (1230, 0, 30), (1229, 0, 29), (1228, 0, 28), (1227, 0, 27), (1226, 0, 26), (1225, 0, 25), (1224, 0, 24), (1223, 0, 23), (1222, 0, 22), (1221, 0, 21), (1213, 0, 13), (1212, 0, 12), (1211, 0, 11), (1210, 0, 10), (1209, 0, 9), (1208, 0, 8), (1207, 0, 7), (1206, 0, 6), (1205, 0, 5), (1204, 0, 4), (1203, 0, 3), (1202, 0, 2)] [(1201, 0, (-1)), (1200, 0, 0), (1249, 0, 0), (1254, 0, 0), (1255, 0, 0)] [47, 46, 43, 42, 41, 40, 38, 37, 36, 35, 34, 33, 30, 29, 28, 27, 26, 25, 24, 23, 22, 21, 12, 11, 10, 9, 8, 7, 6, 5, 4, 3, 2] [] [47, 46, 43, 42, 41, 40, 38, 37, 36, 35, 34, 33, 30, 29, 28, 27, 26, 25, 24, 23, 22, 21, 13, 12, 11, 10, 9, 8, 7, 6, 5, 4, 3, 2] T → ∀ (H_ : Heap) (locs_ : List Loc), zPw cD cy A_ s_.heap T H_ locs_ → ∀ ls : Array Slot, lv_has ls 1 [(0, .ref (ro 0))] → W p_ l e_ ({ frames := 1, cells := 38, slots := 69369, locals := 20 } : Room) s_ m_ args_ below_ meth_ c_ H_ locs_ 34 58085 (MQ below_ (va_Qv (fun (S1 : zS) => ∃ r_ : Nat → Nat, r_ 0 = x0 ∧ ShM S1 r_ ∧ FrM S1 r_) (zPost cD cy A_) A_) args_ s_ 38 69369 A_) (F0 m_ 396 ls []) := by
    intro ro h0 T hv H_ locs_ hw ls hl
    have hL : ro 0 ∈ zL T := hv.rl (by decide)
    have hk : zK T (ro 0) = 12 := hv.k (o := 0) (n := 0) (by decide)
    refine lv_aload_n hx hb_ dX12_init_396 rfl (lv_at hl 0 rfl) ?_
    refine lv_sipush (v := 11136) hx hb_ dX12_init_397 (by decide) ?_
    refine z_newi (N' := 11136) hcf hK_ hw hA (List.mem_of_getElem? (i := 5) rfl) (by decide) (by decide) (by decide) (Nat.le_of_ble_eq_true rfl) (Nat.le_of_ble_eq_true rfl) dX12_init_400 (fun q54 H_ hq_q54 hw => ?_)
    have hne_ro0_q54 : (ro 0) ≠ q54 := fun e_ => hq_q54 (e_ ▸ hL)
    have hk : zK (zNew T q54 13 11136) (ro 0) = 12 := (va_up_ne _ _ hne_ro0_q54).trans hk
    have hL : (ro 0) ∈ zL (zNew T q54 13 11136) := List.mem_append_left _ hL
    have hL_q54 : q54 ∈ zL (zNew T q54 13 11136) := zNew_m
    have hk_q54 : zK (zNew T q54 13 11136) q54 = 13 := zNew_K
    have hn_q54 : zN (zNew T q54 13 11136) q54 = 11136 := zNew_N
    refine z_putQF (k := 12) (i := 48) (j := 1248) (x := (some q54)) (v := .ref q54) (ty := (.array .int)) (ref := "FoldedInHalfModel") (C := RX12) (T := TX12) (N := 56) tyX12 hcf hK_ hw hin12 tyX12_ok nmX12 hL hk rfl (by decide) (by decide) rfl rfl (List.mem_of_getElem? (i := 41) rfl) (fun _ h_ => h_) rfl hnm rfl rfl (by decide +kernel) rfl rfl dX12_init_402 (fun H_ locs_ hw => ?_)
    exact J36 (zro ro 48 q54) h0 (zsQ (zNew T q54 13 11136) 1248 (ro 0) (some q54)) (zIv_Q (j := 1248) (o := 0) (t0 := 48) (zIv_new (hv) (by decide +kernel) hq_q54 (by decide)) (by decide +kernel) (by decide) (by decide)) _ _ hw ls hl
  have J34 : ∀ (ro : Nat → Nat), ro 0 = x0 → ∀ (T : zS), zIv ro [(46, 13, 8), (43, 13, 6), (42, 13, 6), (41, 13, 3721), (40, 13, 3721), (38, 13, 16384), (37, 13, 16384), (36, 13, 4001), (35, 13, 4001), (34, 13, 4001), (33, 13, 4001), (30, 13, 41), (29, 13, 41), (28, 14, 41), (27, 14, 41), (26, 14, 41), (25, 14, 41), (24, 14, 8), (23, 14, 8), (22, 13, 25), (21, 13, 25), (13, 13, 19), (12, 14, 160), (11, 14, 1280), (10, 13, 8), (9, 13, 8), (8, 13, 8), (7, 13, 8), (6, 14, 8), (5, 13, 8), (4, 13, 8), (3, 13, 8), (2, 13, 8), (0, 12, 0)] [(1246, 0, 46), (1243, 0, 43), (1242, 0, 42), (1241, 0, 41), (1240, 0, 40), (1238, 0, 38), (1237, 0, 37), (1236, 0, 36), (1235, 0, 35), (1234, 0, 34), (1233, 0, 33), (1230, 0, 30), (1229, 0, 29), (1228, 0, 28), (1227, 0, 27), (1226, 0, 26), (1225, 0, 25), (1224, 0, 24), (1223, 0, 23), (1222, 0, 22), (1221, 0, 21), (1213, 0, 13), (1212, 0, 12), (1211, 0, 11), (1210, 0, 10), (1209, 0, 9), (1208, 0, 8), (1207, 0, 7), (1206, 0, 6), (1205, 0, 5), (1204, 0, 4), (1203, 0, 3), (1202, 0, 2)] [(1201, 0, (-1)), (1200, 0, 0), (1249, 0, 0), (1254, 0, 0), (1255, 0, 0)] [46, 43, 42, 41, 40, 38, 37, 36, 35, 34, 33, 30, 29, 28, 27, 26, 25, 24, 23, 22, 21, 12, 11, 10, 9, 8, 7, 6, 5, 4, 3, 2] [] [46, 43, 42, 41, 40, 38, 37, 36, 35, 34, 33, 30, 29, 28, 27, 26, 25, 24, 23, 22, 21, 13, 12, 11, 10, 9, 8, 7, 6, 5, 4, 3, 2] T → ∀ (H_ : Heap) (locs_ : List Loc), zPw cD cy A_ s_.heap T H_ locs_ → ∀ ls : Array Slot, lv_has ls 1 [(0, .ref (ro 0))] → W p_ l e_ ({ frames := 1, cells := 38, slots := 69369, locals := 20 } : Room) s_ m_ args_ below_ meth_ c_ H_ locs_ 33 58077 (MQ below_ (va_Qv (fun (S1 : zS) => ∃ r_ : Nat → Nat, r_ 0 = x0 ∧ ShM S1 r_ ∧ FrM S1 r_) (zPost cD cy A_) A_) args_ s_ 38 69369 A_) (F0 m_ 388 ls []) := by
    intro ro h0 T hv H_ locs_ hw ls hl
    have hL : ro 0 ∈ zL T := hv.rl (by decide)
    have hk : zK T (ro 0) = 12 := hv.k (o := 0) (n := 0) (by decide)
    refine lv_aload_n hx hb_ dX12_init_388 rfl (lv_at hl 0 rfl) ?_
    refine lv_bipush (v := 8) hx hb_ dX12_init_389 (by decide) ?_
    refine z_newi (N' := 8) hcf hK_ hw hA (List.mem_of_getElem? (i := 5) rfl) (by decide) (by decide) (by decide) (Nat.le_of_ble_eq_true rfl) (Nat.le_of_ble_eq_true rfl) dX12_init_391 (fun q53 H_ hq_q53 hw => ?_)
    have hne_ro0_q53 : (ro 0) ≠ q53 := fun e_ => hq_q53 (e_ ▸ hL)
    have hk : zK (zNew T q53 13 8) (ro 0) = 12 := (va_up_ne _ _ hne_ro0_q53).trans hk
    have hL : (ro 0) ∈ zL (zNew T q53 13 8) := List.mem_append_left _ hL
    have hL_q53 : q53 ∈ zL (zNew T q53 13 8) := zNew_m
    have hk_q53 : zK (zNew T q53 13 8) q53 = 13 := zNew_K
    have hn_q53 : zN (zNew T q53 13 8) q53 = 8 := zNew_N
    refine z_putQF (k := 12) (i := 47) (j := 1247) (x := (some q53)) (v := .ref q53) (ty := (.array .int)) (ref := "FoldedInHalfModel") (C := RX12) (T := TX12) (N := 56) tyX12 hcf hK_ hw hin12 tyX12_ok nmX12 hL hk rfl (by decide) (by decide) rfl rfl (List.mem_of_getElem? (i := 40) rfl) (fun _ h_ => h_) rfl hnm rfl rfl (by decide +kernel) rfl rfl dX12_init_393 (fun H_ locs_ hw => ?_)
    exact J35 (zro ro 47 q53) h0 (zsQ (zNew T q53 13 8) 1247 (ro 0) (some q53)) (zIv_Q (j := 1247) (o := 0) (t0 := 47) (zIv_new (hv) (by decide +kernel) hq_q53 (by decide)) (by decide +kernel) (by decide) (by decide)) _ _ hw ls hl
  have J33 : ∀ (ro : Nat → Nat), ro 0 = x0 → ∀ (T : zS), zIv ro [(43, 13, 6), (42, 13, 6), (41, 13, 3721), (40, 13, 3721), (38, 13, 16384), (37, 13, 16384), (36, 13, 4001), (35, 13, 4001), (34, 13, 4001), (33, 13, 4001), (30, 13, 41), (29, 13, 41), (28, 14, 41), (27, 14, 41), (26, 14, 41), (25, 14, 41), (24, 14, 8), (23, 14, 8), (22, 13, 25), (21, 13, 25), (13, 13, 19), (12, 14, 160), (11, 14, 1280), (10, 13, 8), (9, 13, 8), (8, 13, 8), (7, 13, 8), (6, 14, 8), (5, 13, 8), (4, 13, 8), (3, 13, 8), (2, 13, 8), (0, 12, 0)] [(1243, 0, 43), (1242, 0, 42), (1241, 0, 41), (1240, 0, 40), (1238, 0, 38), (1237, 0, 37), (1236, 0, 36), (1235, 0, 35), (1234, 0, 34), (1233, 0, 33), (1230, 0, 30), (1229, 0, 29), (1228, 0, 28), (1227, 0, 27), (1226, 0, 26), (1225, 0, 25), (1224, 0, 24), (1223, 0, 23), (1222, 0, 22), (1221, 0, 21), (1213, 0, 13), (1212, 0, 12), (1211, 0, 11), (1210, 0, 10), (1209, 0, 9), (1208, 0, 8), (1207, 0, 7), (1206, 0, 6), (1205, 0, 5), (1204, 0, 4), (1203, 0, 3), (1202, 0, 2)] [(1201, 0, (-1)), (1200, 0, 0), (1249, 0, 0), (1254, 0, 0), (1255, 0, 0)] [43, 42, 41, 40, 38, 37, 36, 35, 34, 33, 30, 29, 28, 27, 26, 25, 24, 23, 22, 21, 12, 11, 10, 9, 8, 7, 6, 5, 4, 3, 2] [] [43, 42, 41, 40, 38, 37, 36, 35, 34, 33, 30, 29, 28, 27, 26, 25, 24, 23, 22, 21, 13, 12, 11, 10, 9, 8, 7, 6, 5, 4, 3, 2] T → ∀ (H_ : Heap) (locs_ : List Loc), zPw cD cy A_ s_.heap T H_ locs_ → ∀ ls : Array Slot, lv_has ls 1 [(0, .ref (ro 0))] → W p_ l e_ ({ frames := 1, cells := 38, slots := 69369, locals := 20 } : Room) s_ m_ args_ below_ meth_ c_ H_ locs_ 32 58069 (MQ below_ (va_Qv (fun (S1 : zS) => ∃ r_ : Nat → Nat, r_ 0 = x0 ∧ ShM S1 r_ ∧ FrM S1 r_) (zPost cD cy A_) A_) args_ s_ 38 69369 A_) (F0 m_ 380 ls []) := by
    intro ro h0 T hv H_ locs_ hw ls hl
    have hL : ro 0 ∈ zL T := hv.rl (by decide)
    have hk : zK T (ro 0) = 12 := hv.k (o := 0) (n := 0) (by decide)
    refine lv_aload_n hx hb_ dX12_init_380 rfl (lv_at hl 0 rfl) ?_
    refine lv_bipush (v := 8) hx hb_ dX12_init_381 (by decide) ?_
    refine z_newi (N' := 8) hcf hK_ hw hA (List.mem_of_getElem? (i := 5) rfl) (by decide) (by decide) (by decide) (Nat.le_of_ble_eq_true rfl) (Nat.le_of_ble_eq_true rfl) dX12_init_383 (fun q52 H_ hq_q52 hw => ?_)
    have hne_ro0_q52 : (ro 0) ≠ q52 := fun e_ => hq_q52 (e_ ▸ hL)
    have hk : zK (zNew T q52 13 8) (ro 0) = 12 := (va_up_ne _ _ hne_ro0_q52).trans hk
    have hL : (ro 0) ∈ zL (zNew T q52 13 8) := List.mem_append_left _ hL
    have hL_q52 : q52 ∈ zL (zNew T q52 13 8) := zNew_m
    have hk_q52 : zK (zNew T q52 13 8) q52 = 13 := zNew_K
    have hn_q52 : zN (zNew T q52 13 8) q52 = 8 := zNew_N
    refine z_putQF (k := 12) (i := 46) (j := 1246) (x := (some q52)) (v := .ref q52) (ty := (.array .int)) (ref := "FoldedInHalfModel") (C := RX12) (T := TX12) (N := 56) tyX12 hcf hK_ hw hin12 tyX12_ok nmX12 hL hk rfl (by decide) (by decide) rfl rfl (List.mem_of_getElem? (i := 39) rfl) (fun _ h_ => h_) rfl hnm rfl rfl (by decide +kernel) rfl rfl dX12_init_385 (fun H_ locs_ hw => ?_)
    exact J34 (zro ro 46 q52) h0 (zsQ (zNew T q52 13 8) 1246 (ro 0) (some q52)) (zIv_Q (j := 1246) (o := 0) (t0 := 46) (zIv_new (hv) (by decide +kernel) hq_q52 (by decide)) (by decide +kernel) (by decide) (by decide)) _ _ hw ls hl
  have J32 : ∀ (ro : Nat → Nat), ro 0 = x0 → ∀ (T : zS), zIv ro [(42, 13, 6), (41, 13, 3721), (40, 13, 3721), (38, 13, 16384), (37, 13, 16384), (36, 13, 4001), (35, 13, 4001), (34, 13, 4001), (33, 13, 4001), (30, 13, 41), (29, 13, 41), (28, 14, 41), (27, 14, 41), (26, 14, 41), (25, 14, 41), (24, 14, 8), (23, 14, 8), (22, 13, 25), (21, 13, 25), (13, 13, 19), (12, 14, 160), (11, 14, 1280), (10, 13, 8), (9, 13, 8), (8, 13, 8), (7, 13, 8), (6, 14, 8), (5, 13, 8), (4, 13, 8), (3, 13, 8), (2, 13, 8), (0, 12, 0)] [(1242, 0, 42), (1241, 0, 41), (1240, 0, 40), (1238, 0, 38), (1237, 0, 37), (1236, 0, 36), (1235, 0, 35), (1234, 0, 34), (1233, 0, 33), (1230, 0, 30), (1229, 0, 29), (1228, 0, 28), (1227, 0, 27), (1226, 0, 26), (1225, 0, 25), (1224, 0, 24), (1223, 0, 23), (1222, 0, 22), (1221, 0, 21), (1213, 0, 13), (1212, 0, 12), (1211, 0, 11), (1210, 0, 10), (1209, 0, 9), (1208, 0, 8), (1207, 0, 7), (1206, 0, 6), (1205, 0, 5), (1204, 0, 4), (1203, 0, 3), (1202, 0, 2)] [(1201, 0, (-1)), (1200, 0, 0), (1249, 0, 0), (1254, 0, 0), (1255, 0, 0)] [42, 41, 40, 38, 37, 36, 35, 34, 33, 30, 29, 28, 27, 26, 25, 24, 23, 22, 21, 12, 11, 10, 9, 8, 7, 6, 5, 4, 3, 2] [] [42, 41, 40, 38, 37, 36, 35, 34, 33, 30, 29, 28, 27, 26, 25, 24, 23, 22, 21, 13, 12, 11, 10, 9, 8, 7, 6, 5, 4, 3, 2] T → ∀ (H_ : Heap) (locs_ : List Loc), zPw cD cy A_ s_.heap T H_ locs_ → ∀ ls : Array Slot, lv_has ls 1 [(0, .ref (ro 0))] → W p_ l e_ ({ frames := 1, cells := 38, slots := 69369, locals := 20 } : Room) s_ m_ args_ below_ meth_ c_ H_ locs_ 31 58063 (MQ below_ (va_Qv (fun (S1 : zS) => ∃ r_ : Nat → Nat, r_ 0 = x0 ∧ ShM S1 r_ ∧ FrM S1 r_) (zPost cD cy A_) A_) args_ s_ 38 69369 A_) (F0 m_ 372 ls []) := by
    intro ro h0 T hv H_ locs_ hw ls hl
    have hL : ro 0 ∈ zL T := hv.rl (by decide)
    have hk : zK T (ro 0) = 12 := hv.k (o := 0) (n := 0) (by decide)
    refine lv_aload_n hx hb_ dX12_init_372 rfl (lv_at hl 0 rfl) ?_
    refine lv_bipush (v := 6) hx hb_ dX12_init_373 (by decide) ?_
    refine z_newi (N' := 6) hcf hK_ hw hA (List.mem_of_getElem? (i := 5) rfl) (by decide) (by decide) (by decide) (Nat.le_of_ble_eq_true rfl) (Nat.le_of_ble_eq_true rfl) dX12_init_375 (fun q51 H_ hq_q51 hw => ?_)
    have hne_ro0_q51 : (ro 0) ≠ q51 := fun e_ => hq_q51 (e_ ▸ hL)
    have hk : zK (zNew T q51 13 6) (ro 0) = 12 := (va_up_ne _ _ hne_ro0_q51).trans hk
    have hL : (ro 0) ∈ zL (zNew T q51 13 6) := List.mem_append_left _ hL
    have hL_q51 : q51 ∈ zL (zNew T q51 13 6) := zNew_m
    have hk_q51 : zK (zNew T q51 13 6) q51 = 13 := zNew_K
    have hn_q51 : zN (zNew T q51 13 6) q51 = 6 := zNew_N
    refine z_putQF (k := 12) (i := 43) (j := 1243) (x := (some q51)) (v := .ref q51) (ty := (.array .int)) (ref := "FoldedInHalfModel") (C := RX12) (T := TX12) (N := 56) tyX12 hcf hK_ hw hin12 tyX12_ok nmX12 hL hk rfl (by decide) (by decide) rfl rfl (List.mem_of_getElem? (i := 38) rfl) (fun _ h_ => h_) rfl hnm rfl rfl (by decide +kernel) rfl rfl dX12_init_377 (fun H_ locs_ hw => ?_)
    exact J33 (zro ro 43 q51) h0 (zsQ (zNew T q51 13 6) 1243 (ro 0) (some q51)) (zIv_Q (j := 1243) (o := 0) (t0 := 43) (zIv_new (hv) (by decide +kernel) hq_q51 (by decide)) (by decide +kernel) (by decide) (by decide)) _ _ hw ls hl
  have J31 : ∀ (ro : Nat → Nat), ro 0 = x0 → ∀ (T : zS), zIv ro [(41, 13, 3721), (40, 13, 3721), (38, 13, 16384), (37, 13, 16384), (36, 13, 4001), (35, 13, 4001), (34, 13, 4001), (33, 13, 4001), (30, 13, 41), (29, 13, 41), (28, 14, 41), (27, 14, 41), (26, 14, 41), (25, 14, 41), (24, 14, 8), (23, 14, 8), (22, 13, 25), (21, 13, 25), (13, 13, 19), (12, 14, 160), (11, 14, 1280), (10, 13, 8), (9, 13, 8), (8, 13, 8), (7, 13, 8), (6, 14, 8), (5, 13, 8), (4, 13, 8), (3, 13, 8), (2, 13, 8), (0, 12, 0)] [(1241, 0, 41), (1240, 0, 40), (1238, 0, 38), (1237, 0, 37), (1236, 0, 36), (1235, 0, 35), (1234, 0, 34), (1233, 0, 33), (1230, 0, 30), (1229, 0, 29), (1228, 0, 28), (1227, 0, 27), (1226, 0, 26), (1225, 0, 25), (1224, 0, 24), (1223, 0, 23), (1222, 0, 22), (1221, 0, 21), (1213, 0, 13), (1212, 0, 12), (1211, 0, 11), (1210, 0, 10), (1209, 0, 9), (1208, 0, 8), (1207, 0, 7), (1206, 0, 6), (1205, 0, 5), (1204, 0, 4), (1203, 0, 3), (1202, 0, 2)] [(1201, 0, (-1)), (1200, 0, 0), (1249, 0, 0), (1254, 0, 0), (1255, 0, 0)] [41, 40, 38, 37, 36, 35, 34, 33, 30, 29, 28, 27, 26, 25, 24, 23, 22, 21, 12, 11, 10, 9, 8, 7, 6, 5, 4, 3, 2] [] [41, 40, 38, 37, 36, 35, 34, 33, 30, 29, 28, 27, 26, 25, 24, 23, 22, 21, 13, 12, 11, 10, 9, 8, 7, 6, 5, 4, 3, 2] T → ∀ (H_ : Heap) (locs_ : List Loc), zPw cD cy A_ s_.heap T H_ locs_ → ∀ ls : Array Slot, lv_has ls 1 [(0, .ref (ro 0))] → W p_ l e_ ({ frames := 1, cells := 38, slots := 69369, locals := 20 } : Room) s_ m_ args_ below_ meth_ c_ H_ locs_ 30 58057 (MQ below_ (va_Qv (fun (S1 : zS) => ∃ r_ : Nat → Nat, r_ 0 = x0 ∧ ShM S1 r_ ∧ FrM S1 r_) (zPost cD cy A_) A_) args_ s_ 38 69369 A_) (F0 m_ 364 ls []) := by
    intro ro h0 T hv H_ locs_ hw ls hl
    have hL : ro 0 ∈ zL T := hv.rl (by decide)
    have hk : zK T (ro 0) = 12 := hv.k (o := 0) (n := 0) (by decide)
    refine lv_aload_n hx hb_ dX12_init_364 rfl (lv_at hl 0 rfl) ?_
    refine lv_bipush (v := 6) hx hb_ dX12_init_365 (by decide) ?_
    refine z_newi (N' := 6) hcf hK_ hw hA (List.mem_of_getElem? (i := 5) rfl) (by decide) (by decide) (by decide) (Nat.le_of_ble_eq_true rfl) (Nat.le_of_ble_eq_true rfl) dX12_init_367 (fun q50 H_ hq_q50 hw => ?_)
    have hne_ro0_q50 : (ro 0) ≠ q50 := fun e_ => hq_q50 (e_ ▸ hL)
    have hk : zK (zNew T q50 13 6) (ro 0) = 12 := (va_up_ne _ _ hne_ro0_q50).trans hk
    have hL : (ro 0) ∈ zL (zNew T q50 13 6) := List.mem_append_left _ hL
    have hL_q50 : q50 ∈ zL (zNew T q50 13 6) := zNew_m
    have hk_q50 : zK (zNew T q50 13 6) q50 = 13 := zNew_K
    have hn_q50 : zN (zNew T q50 13 6) q50 = 6 := zNew_N
    refine z_putQF (k := 12) (i := 42) (j := 1242) (x := (some q50)) (v := .ref q50) (ty := (.array .int)) (ref := "FoldedInHalfModel") (C := RX12) (T := TX12) (N := 56) tyX12 hcf hK_ hw hin12 tyX12_ok nmX12 hL hk rfl (by decide) (by decide) rfl rfl (List.mem_of_getElem? (i := 37) rfl) (fun _ h_ => h_) rfl hnm rfl rfl (by decide +kernel) rfl rfl dX12_init_369 (fun H_ locs_ hw => ?_)
    exact J32 (zro ro 42 q50) h0 (zsQ (zNew T q50 13 6) 1242 (ro 0) (some q50)) (zIv_Q (j := 1242) (o := 0) (t0 := 42) (zIv_new (hv) (by decide +kernel) hq_q50 (by decide)) (by decide +kernel) (by decide) (by decide)) _ _ hw ls hl
  have J30 : ∀ (ro : Nat → Nat), ro 0 = x0 → ∀ (T : zS), zIv ro [(40, 13, 3721), (38, 13, 16384), (37, 13, 16384), (36, 13, 4001), (35, 13, 4001), (34, 13, 4001), (33, 13, 4001), (30, 13, 41), (29, 13, 41), (28, 14, 41), (27, 14, 41), (26, 14, 41), (25, 14, 41), (24, 14, 8), (23, 14, 8), (22, 13, 25), (21, 13, 25), (13, 13, 19), (12, 14, 160), (11, 14, 1280), (10, 13, 8), (9, 13, 8), (8, 13, 8), (7, 13, 8), (6, 14, 8), (5, 13, 8), (4, 13, 8), (3, 13, 8), (2, 13, 8), (0, 12, 0)] [(1240, 0, 40), (1238, 0, 38), (1237, 0, 37), (1236, 0, 36), (1235, 0, 35), (1234, 0, 34), (1233, 0, 33), (1230, 0, 30), (1229, 0, 29), (1228, 0, 28), (1227, 0, 27), (1226, 0, 26), (1225, 0, 25), (1224, 0, 24), (1223, 0, 23), (1222, 0, 22), (1221, 0, 21), (1213, 0, 13), (1212, 0, 12), (1211, 0, 11), (1210, 0, 10), (1209, 0, 9), (1208, 0, 8), (1207, 0, 7), (1206, 0, 6), (1205, 0, 5), (1204, 0, 4), (1203, 0, 3), (1202, 0, 2)] [(1201, 0, (-1)), (1200, 0, 0), (1249, 0, 0), (1254, 0, 0), (1255, 0, 0)] [40, 38, 37, 36, 35, 34, 33, 30, 29, 28, 27, 26, 25, 24, 23, 22, 21, 12, 11, 10, 9, 8, 7, 6, 5, 4, 3, 2] [] [40, 38, 37, 36, 35, 34, 33, 30, 29, 28, 27, 26, 25, 24, 23, 22, 21, 13, 12, 11, 10, 9, 8, 7, 6, 5, 4, 3, 2] T → ∀ (H_ : Heap) (locs_ : List Loc), zPw cD cy A_ s_.heap T H_ locs_ → ∀ ls : Array Slot, lv_has ls 1 [(0, .ref (ro 0))] → W p_ l e_ ({ frames := 1, cells := 38, slots := 69369, locals := 20 } : Room) s_ m_ args_ below_ meth_ c_ H_ locs_ 29 54336 (MQ below_ (va_Qv (fun (S1 : zS) => ∃ r_ : Nat → Nat, r_ 0 = x0 ∧ ShM S1 r_ ∧ FrM S1 r_) (zPost cD cy A_) A_) args_ s_ 38 69369 A_) (F0 m_ 355 ls []) := by
    intro ro h0 T hv H_ locs_ hw ls hl
    have hL : ro 0 ∈ zL T := hv.rl (by decide)
    have hk : zK T (ro 0) = 12 := hv.k (o := 0) (n := 0) (by decide)
    refine lv_aload_n hx hb_ dX12_init_355 rfl (lv_at hl 0 rfl) ?_
    refine lv_sipush (v := 3721) hx hb_ dX12_init_356 (by decide) ?_
    refine z_newi (N' := 3721) hcf hK_ hw hA (List.mem_of_getElem? (i := 5) rfl) (by decide) (by decide) (by decide) (Nat.le_of_ble_eq_true rfl) (Nat.le_of_ble_eq_true rfl) dX12_init_359 (fun q49 H_ hq_q49 hw => ?_)
    have hne_ro0_q49 : (ro 0) ≠ q49 := fun e_ => hq_q49 (e_ ▸ hL)
    have hk : zK (zNew T q49 13 3721) (ro 0) = 12 := (va_up_ne _ _ hne_ro0_q49).trans hk
    have hL : (ro 0) ∈ zL (zNew T q49 13 3721) := List.mem_append_left _ hL
    have hL_q49 : q49 ∈ zL (zNew T q49 13 3721) := zNew_m
    have hk_q49 : zK (zNew T q49 13 3721) q49 = 13 := zNew_K
    have hn_q49 : zN (zNew T q49 13 3721) q49 = 3721 := zNew_N
    refine z_putQF (k := 12) (i := 41) (j := 1241) (x := (some q49)) (v := .ref q49) (ty := (.array .int)) (ref := "FoldedInHalfModel") (C := RX12) (T := TX12) (N := 56) tyX12 hcf hK_ hw hin12 tyX12_ok nmX12 hL hk rfl (by decide) (by decide) rfl rfl (List.mem_of_getElem? (i := 36) rfl) (fun _ h_ => h_) rfl hnm rfl rfl (by decide +kernel) rfl rfl dX12_init_361 (fun H_ locs_ hw => ?_)
    exact J31 (zro ro 41 q49) h0 (zsQ (zNew T q49 13 3721) 1241 (ro 0) (some q49)) (zIv_Q (j := 1241) (o := 0) (t0 := 41) (zIv_new (hv) (by decide +kernel) hq_q49 (by decide)) (by decide +kernel) (by decide) (by decide)) _ _ hw ls hl
  have J29 : ∀ (ro : Nat → Nat), ro 0 = x0 → ∀ (T : zS), zIv ro [(38, 13, 16384), (37, 13, 16384), (36, 13, 4001), (35, 13, 4001), (34, 13, 4001), (33, 13, 4001), (30, 13, 41), (29, 13, 41), (28, 14, 41), (27, 14, 41), (26, 14, 41), (25, 14, 41), (24, 14, 8), (23, 14, 8), (22, 13, 25), (21, 13, 25), (13, 13, 19), (12, 14, 160), (11, 14, 1280), (10, 13, 8), (9, 13, 8), (8, 13, 8), (7, 13, 8), (6, 14, 8), (5, 13, 8), (4, 13, 8), (3, 13, 8), (2, 13, 8), (0, 12, 0)] [(1238, 0, 38), (1237, 0, 37), (1236, 0, 36), (1235, 0, 35), (1234, 0, 34), (1233, 0, 33), (1230, 0, 30), (1229, 0, 29), (1228, 0, 28), (1227, 0, 27), (1226, 0, 26), (1225, 0, 25), (1224, 0, 24), (1223, 0, 23), (1222, 0, 22), (1221, 0, 21), (1213, 0, 13), (1212, 0, 12), (1211, 0, 11), (1210, 0, 10), (1209, 0, 9), (1208, 0, 8), (1207, 0, 7), (1206, 0, 6), (1205, 0, 5), (1204, 0, 4), (1203, 0, 3), (1202, 0, 2)] [(1201, 0, (-1)), (1200, 0, 0), (1249, 0, 0), (1254, 0, 0), (1255, 0, 0)] [38, 37, 36, 35, 34, 33, 30, 29, 28, 27, 26, 25, 24, 23, 22, 21, 12, 11, 10, 9, 8, 7, 6, 5, 4, 3, 2] [] [38, 37, 36, 35, 34, 33, 30, 29, 28, 27, 26, 25, 24, 23, 22, 21, 13, 12, 11, 10, 9, 8, 7, 6, 5, 4, 3, 2] T → ∀ (H_ : Heap) (locs_ : List Loc), zPw cD cy A_ s_.heap T H_ locs_ → ∀ ls : Array Slot, lv_has ls 1 [(0, .ref (ro 0))] → W p_ l e_ ({ frames := 1, cells := 38, slots := 69369, locals := 20 } : Room) s_ m_ args_ below_ meth_ c_ H_ locs_ 28 50615 (MQ below_ (va_Qv (fun (S1 : zS) => ∃ r_ : Nat → Nat, r_ 0 = x0 ∧ ShM S1 r_ ∧ FrM S1 r_) (zPost cD cy A_) A_) args_ s_ 38 69369 A_) (F0 m_ 346 ls []) := by
    intro ro h0 T hv H_ locs_ hw ls hl
    have hL : ro 0 ∈ zL T := hv.rl (by decide)
    have hk : zK T (ro 0) = 12 := hv.k (o := 0) (n := 0) (by decide)
    refine lv_aload_n hx hb_ dX12_init_346 rfl (lv_at hl 0 rfl) ?_
    refine lv_sipush (v := 3721) hx hb_ dX12_init_347 (by decide) ?_
    refine z_newi (N' := 3721) hcf hK_ hw hA (List.mem_of_getElem? (i := 5) rfl) (by decide) (by decide) (by decide) (Nat.le_of_ble_eq_true rfl) (Nat.le_of_ble_eq_true rfl) dX12_init_350 (fun q48 H_ hq_q48 hw => ?_)
    have hne_ro0_q48 : (ro 0) ≠ q48 := fun e_ => hq_q48 (e_ ▸ hL)
    have hk : zK (zNew T q48 13 3721) (ro 0) = 12 := (va_up_ne _ _ hne_ro0_q48).trans hk
    have hL : (ro 0) ∈ zL (zNew T q48 13 3721) := List.mem_append_left _ hL
    have hL_q48 : q48 ∈ zL (zNew T q48 13 3721) := zNew_m
    have hk_q48 : zK (zNew T q48 13 3721) q48 = 13 := zNew_K
    have hn_q48 : zN (zNew T q48 13 3721) q48 = 3721 := zNew_N
    refine z_putQF (k := 12) (i := 40) (j := 1240) (x := (some q48)) (v := .ref q48) (ty := (.array .int)) (ref := "FoldedInHalfModel") (C := RX12) (T := TX12) (N := 56) tyX12 hcf hK_ hw hin12 tyX12_ok nmX12 hL hk rfl (by decide) (by decide) rfl rfl (List.mem_of_getElem? (i := 35) rfl) (fun _ h_ => h_) rfl hnm rfl rfl (by decide +kernel) rfl rfl dX12_init_352 (fun H_ locs_ hw => ?_)
    exact J30 (zro ro 40 q48) h0 (zsQ (zNew T q48 13 3721) 1240 (ro 0) (some q48)) (zIv_Q (j := 1240) (o := 0) (t0 := 40) (zIv_new (hv) (by decide +kernel) hq_q48 (by decide)) (by decide +kernel) (by decide) (by decide)) _ _ hw ls hl
  have J28 : ∀ (ro : Nat → Nat), ro 0 = x0 → ∀ (T : zS), zIv ro [(37, 13, 16384), (36, 13, 4001), (35, 13, 4001), (34, 13, 4001), (33, 13, 4001), (30, 13, 41), (29, 13, 41), (28, 14, 41), (27, 14, 41), (26, 14, 41), (25, 14, 41), (24, 14, 8), (23, 14, 8), (22, 13, 25), (21, 13, 25), (13, 13, 19), (12, 14, 160), (11, 14, 1280), (10, 13, 8), (9, 13, 8), (8, 13, 8), (7, 13, 8), (6, 14, 8), (5, 13, 8), (4, 13, 8), (3, 13, 8), (2, 13, 8), (0, 12, 0)] [(1237, 0, 37), (1236, 0, 36), (1235, 0, 35), (1234, 0, 34), (1233, 0, 33), (1230, 0, 30), (1229, 0, 29), (1228, 0, 28), (1227, 0, 27), (1226, 0, 26), (1225, 0, 25), (1224, 0, 24), (1223, 0, 23), (1222, 0, 22), (1221, 0, 21), (1213, 0, 13), (1212, 0, 12), (1211, 0, 11), (1210, 0, 10), (1209, 0, 9), (1208, 0, 8), (1207, 0, 7), (1206, 0, 6), (1205, 0, 5), (1204, 0, 4), (1203, 0, 3), (1202, 0, 2)] [(1201, 0, (-1)), (1200, 0, 0), (1249, 0, 0), (1254, 0, 0), (1255, 0, 0)] [37, 36, 35, 34, 33, 30, 29, 28, 27, 26, 25, 24, 23, 22, 21, 12, 11, 10, 9, 8, 7, 6, 5, 4, 3, 2] [] [37, 36, 35, 34, 33, 30, 29, 28, 27, 26, 25, 24, 23, 22, 21, 13, 12, 11, 10, 9, 8, 7, 6, 5, 4, 3, 2] T → ∀ (H_ : Heap) (locs_ : List Loc), zPw cD cy A_ s_.heap T H_ locs_ → ∀ ls : Array Slot, lv_has ls 1 [(0, .ref (ro 0))] → W p_ l e_ ({ frames := 1, cells := 38, slots := 69369, locals := 20 } : Room) s_ m_ args_ below_ meth_ c_ H_ locs_ 27 34231 (MQ below_ (va_Qv (fun (S1 : zS) => ∃ r_ : Nat → Nat, r_ 0 = x0 ∧ ShM S1 r_ ∧ FrM S1 r_) (zPost cD cy A_) A_) args_ s_ 38 69369 A_) (F0 m_ 337 ls []) := by
    intro ro h0 T hv H_ locs_ hw ls hl
    have hL : ro 0 ∈ zL T := hv.rl (by decide)
    have hk : zK T (ro 0) = 12 := hv.k (o := 0) (n := 0) (by decide)
    refine lv_aload_n hx hb_ dX12_init_337 rfl (lv_at hl 0 rfl) ?_
    refine lv_sipush (v := 16384) hx hb_ dX12_init_338 (by decide) ?_
    refine z_newi (N' := 16384) hcf hK_ hw hA (List.mem_of_getElem? (i := 5) rfl) (by decide) (by decide) (by decide) (Nat.le_of_ble_eq_true rfl) (Nat.le_of_ble_eq_true rfl) dX12_init_341 (fun q47 H_ hq_q47 hw => ?_)
    have hne_ro0_q47 : (ro 0) ≠ q47 := fun e_ => hq_q47 (e_ ▸ hL)
    have hk : zK (zNew T q47 13 16384) (ro 0) = 12 := (va_up_ne _ _ hne_ro0_q47).trans hk
    have hL : (ro 0) ∈ zL (zNew T q47 13 16384) := List.mem_append_left _ hL
    have hL_q47 : q47 ∈ zL (zNew T q47 13 16384) := zNew_m
    have hk_q47 : zK (zNew T q47 13 16384) q47 = 13 := zNew_K
    have hn_q47 : zN (zNew T q47 13 16384) q47 = 16384 := zNew_N
    refine z_putQF (k := 12) (i := 38) (j := 1238) (x := (some q47)) (v := .ref q47) (ty := (.array .int)) (ref := "FoldedInHalfModel") (C := RX12) (T := TX12) (N := 56) tyX12 hcf hK_ hw hin12 tyX12_ok nmX12 hL hk rfl (by decide) (by decide) rfl rfl (List.mem_of_getElem? (i := 34) rfl) (fun _ h_ => h_) rfl hnm rfl rfl (by decide +kernel) rfl rfl dX12_init_343 (fun H_ locs_ hw => ?_)
    exact J29 (zro ro 38 q47) h0 (zsQ (zNew T q47 13 16384) 1238 (ro 0) (some q47)) (zIv_Q (j := 1238) (o := 0) (t0 := 38) (zIv_new (hv) (by decide +kernel) hq_q47 (by decide)) (by decide +kernel) (by decide) (by decide)) _ _ hw ls hl
  have J27 : ∀ (ro : Nat → Nat), ro 0 = x0 → ∀ (T : zS), zIv ro [(36, 13, 4001), (35, 13, 4001), (34, 13, 4001), (33, 13, 4001), (30, 13, 41), (29, 13, 41), (28, 14, 41), (27, 14, 41), (26, 14, 41), (25, 14, 41), (24, 14, 8), (23, 14, 8), (22, 13, 25), (21, 13, 25), (13, 13, 19), (12, 14, 160), (11, 14, 1280), (10, 13, 8), (9, 13, 8), (8, 13, 8), (7, 13, 8), (6, 14, 8), (5, 13, 8), (4, 13, 8), (3, 13, 8), (2, 13, 8), (0, 12, 0)] [(1236, 0, 36), (1235, 0, 35), (1234, 0, 34), (1233, 0, 33), (1230, 0, 30), (1229, 0, 29), (1228, 0, 28), (1227, 0, 27), (1226, 0, 26), (1225, 0, 25), (1224, 0, 24), (1223, 0, 23), (1222, 0, 22), (1221, 0, 21), (1213, 0, 13), (1212, 0, 12), (1211, 0, 11), (1210, 0, 10), (1209, 0, 9), (1208, 0, 8), (1207, 0, 7), (1206, 0, 6), (1205, 0, 5), (1204, 0, 4), (1203, 0, 3), (1202, 0, 2)] [(1201, 0, (-1)), (1200, 0, 0), (1249, 0, 0), (1254, 0, 0), (1255, 0, 0)] [36, 35, 34, 33, 30, 29, 28, 27, 26, 25, 24, 23, 22, 21, 12, 11, 10, 9, 8, 7, 6, 5, 4, 3, 2] [] [36, 35, 34, 33, 30, 29, 28, 27, 26, 25, 24, 23, 22, 21, 13, 12, 11, 10, 9, 8, 7, 6, 5, 4, 3, 2] T → ∀ (H_ : Heap) (locs_ : List Loc), zPw cD cy A_ s_.heap T H_ locs_ → ∀ ls : Array Slot, lv_has ls 1 [(0, .ref (ro 0))] → W p_ l e_ ({ frames := 1, cells := 38, slots := 69369, locals := 20 } : Room) s_ m_ args_ below_ meth_ c_ H_ locs_ 26 17847 (MQ below_ (va_Qv (fun (S1 : zS) => ∃ r_ : Nat → Nat, r_ 0 = x0 ∧ ShM S1 r_ ∧ FrM S1 r_) (zPost cD cy A_) A_) args_ s_ 38 69369 A_) (F0 m_ 328 ls []) := by
    intro ro h0 T hv H_ locs_ hw ls hl
    have hL : ro 0 ∈ zL T := hv.rl (by decide)
    have hk : zK T (ro 0) = 12 := hv.k (o := 0) (n := 0) (by decide)
    refine lv_aload_n hx hb_ dX12_init_328 rfl (lv_at hl 0 rfl) ?_
    refine lv_sipush (v := 16384) hx hb_ dX12_init_329 (by decide) ?_
    refine z_newi (N' := 16384) hcf hK_ hw hA (List.mem_of_getElem? (i := 5) rfl) (by decide) (by decide) (by decide) (Nat.le_of_ble_eq_true rfl) (Nat.le_of_ble_eq_true rfl) dX12_init_332 (fun q46 H_ hq_q46 hw => ?_)
    have hne_ro0_q46 : (ro 0) ≠ q46 := fun e_ => hq_q46 (e_ ▸ hL)
    have hk : zK (zNew T q46 13 16384) (ro 0) = 12 := (va_up_ne _ _ hne_ro0_q46).trans hk
    have hL : (ro 0) ∈ zL (zNew T q46 13 16384) := List.mem_append_left _ hL
    have hL_q46 : q46 ∈ zL (zNew T q46 13 16384) := zNew_m
    have hk_q46 : zK (zNew T q46 13 16384) q46 = 13 := zNew_K
    have hn_q46 : zN (zNew T q46 13 16384) q46 = 16384 := zNew_N
    refine z_putQF (k := 12) (i := 37) (j := 1237) (x := (some q46)) (v := .ref q46) (ty := (.array .int)) (ref := "FoldedInHalfModel") (C := RX12) (T := TX12) (N := 56) tyX12 hcf hK_ hw hin12 tyX12_ok nmX12 hL hk rfl (by decide) (by decide) rfl rfl (List.mem_of_getElem? (i := 33) rfl) (fun _ h_ => h_) rfl hnm rfl rfl (by decide +kernel) rfl rfl dX12_init_334 (fun H_ locs_ hw => ?_)
    exact J28 (zro ro 37 q46) h0 (zsQ (zNew T q46 13 16384) 1237 (ro 0) (some q46)) (zIv_Q (j := 1237) (o := 0) (t0 := 37) (zIv_new (hv) (by decide +kernel) hq_q46 (by decide)) (by decide +kernel) (by decide) (by decide)) _ _ hw ls hl
  have J26 : ∀ (ro : Nat → Nat), ro 0 = x0 → ∀ (T : zS), zIv ro [(35, 13, 4001), (34, 13, 4001), (33, 13, 4001), (30, 13, 41), (29, 13, 41), (28, 14, 41), (27, 14, 41), (26, 14, 41), (25, 14, 41), (24, 14, 8), (23, 14, 8), (22, 13, 25), (21, 13, 25), (13, 13, 19), (12, 14, 160), (11, 14, 1280), (10, 13, 8), (9, 13, 8), (8, 13, 8), (7, 13, 8), (6, 14, 8), (5, 13, 8), (4, 13, 8), (3, 13, 8), (2, 13, 8), (0, 12, 0)] [(1235, 0, 35), (1234, 0, 34), (1233, 0, 33), (1230, 0, 30), (1229, 0, 29), (1228, 0, 28), (1227, 0, 27), (1226, 0, 26), (1225, 0, 25), (1224, 0, 24), (1223, 0, 23), (1222, 0, 22), (1221, 0, 21), (1213, 0, 13), (1212, 0, 12), (1211, 0, 11), (1210, 0, 10), (1209, 0, 9), (1208, 0, 8), (1207, 0, 7), (1206, 0, 6), (1205, 0, 5), (1204, 0, 4), (1203, 0, 3), (1202, 0, 2)] [(1201, 0, (-1)), (1200, 0, 0), (1249, 0, 0), (1254, 0, 0), (1255, 0, 0)] [35, 34, 33, 30, 29, 28, 27, 26, 25, 24, 23, 22, 21, 12, 11, 10, 9, 8, 7, 6, 5, 4, 3, 2] [] [35, 34, 33, 30, 29, 28, 27, 26, 25, 24, 23, 22, 21, 13, 12, 11, 10, 9, 8, 7, 6, 5, 4, 3, 2] T → ∀ (H_ : Heap) (locs_ : List Loc), zPw cD cy A_ s_.heap T H_ locs_ → ∀ ls : Array Slot, lv_has ls 1 [(0, .ref (ro 0))] → W p_ l e_ ({ frames := 1, cells := 38, slots := 69369, locals := 20 } : Room) s_ m_ args_ below_ meth_ c_ H_ locs_ 25 13846 (MQ below_ (va_Qv (fun (S1 : zS) => ∃ r_ : Nat → Nat, r_ 0 = x0 ∧ ShM S1 r_ ∧ FrM S1 r_) (zPost cD cy A_) A_) args_ s_ 38 69369 A_) (F0 m_ 319 ls []) := by
    intro ro h0 T hv H_ locs_ hw ls hl
    have hL : ro 0 ∈ zL T := hv.rl (by decide)
    have hk : zK T (ro 0) = 12 := hv.k (o := 0) (n := 0) (by decide)
    refine lv_aload_n hx hb_ dX12_init_319 rfl (lv_at hl 0 rfl) ?_
    refine lv_sipush (v := 4001) hx hb_ dX12_init_320 (by decide) ?_
    refine z_newi (N' := 4001) hcf hK_ hw hA (List.mem_of_getElem? (i := 5) rfl) (by decide) (by decide) (by decide) (Nat.le_of_ble_eq_true rfl) (Nat.le_of_ble_eq_true rfl) dX12_init_323 (fun q45 H_ hq_q45 hw => ?_)
    have hne_ro0_q45 : (ro 0) ≠ q45 := fun e_ => hq_q45 (e_ ▸ hL)
    have hk : zK (zNew T q45 13 4001) (ro 0) = 12 := (va_up_ne _ _ hne_ro0_q45).trans hk
    have hL : (ro 0) ∈ zL (zNew T q45 13 4001) := List.mem_append_left _ hL
    have hL_q45 : q45 ∈ zL (zNew T q45 13 4001) := zNew_m
    have hk_q45 : zK (zNew T q45 13 4001) q45 = 13 := zNew_K
    have hn_q45 : zN (zNew T q45 13 4001) q45 = 4001 := zNew_N
    refine z_putQF (k := 12) (i := 36) (j := 1236) (x := (some q45)) (v := .ref q45) (ty := (.array .int)) (ref := "FoldedInHalfModel") (C := RX12) (T := TX12) (N := 56) tyX12 hcf hK_ hw hin12 tyX12_ok nmX12 hL hk rfl (by decide) (by decide) rfl rfl (List.mem_of_getElem? (i := 32) rfl) (fun _ h_ => h_) rfl hnm rfl rfl (by decide +kernel) rfl rfl dX12_init_325 (fun H_ locs_ hw => ?_)
    exact J27 (zro ro 36 q45) h0 (zsQ (zNew T q45 13 4001) 1236 (ro 0) (some q45)) (zIv_Q (j := 1236) (o := 0) (t0 := 36) (zIv_new (hv) (by decide +kernel) hq_q45 (by decide)) (by decide +kernel) (by decide) (by decide)) _ _ hw ls hl
  have J25 : ∀ (ro : Nat → Nat), ro 0 = x0 → ∀ (T : zS), zIv ro [(34, 13, 4001), (33, 13, 4001), (30, 13, 41), (29, 13, 41), (28, 14, 41), (27, 14, 41), (26, 14, 41), (25, 14, 41), (24, 14, 8), (23, 14, 8), (22, 13, 25), (21, 13, 25), (13, 13, 19), (12, 14, 160), (11, 14, 1280), (10, 13, 8), (9, 13, 8), (8, 13, 8), (7, 13, 8), (6, 14, 8), (5, 13, 8), (4, 13, 8), (3, 13, 8), (2, 13, 8), (0, 12, 0)] [(1234, 0, 34), (1233, 0, 33), (1230, 0, 30), (1229, 0, 29), (1228, 0, 28), (1227, 0, 27), (1226, 0, 26), (1225, 0, 25), (1224, 0, 24), (1223, 0, 23), (1222, 0, 22), (1221, 0, 21), (1213, 0, 13), (1212, 0, 12), (1211, 0, 11), (1210, 0, 10), (1209, 0, 9), (1208, 0, 8), (1207, 0, 7), (1206, 0, 6), (1205, 0, 5), (1204, 0, 4), (1203, 0, 3), (1202, 0, 2)] [(1201, 0, (-1)), (1200, 0, 0), (1249, 0, 0), (1254, 0, 0), (1255, 0, 0)] [34, 33, 30, 29, 28, 27, 26, 25, 24, 23, 22, 21, 12, 11, 10, 9, 8, 7, 6, 5, 4, 3, 2] [] [34, 33, 30, 29, 28, 27, 26, 25, 24, 23, 22, 21, 13, 12, 11, 10, 9, 8, 7, 6, 5, 4, 3, 2] T → ∀ (H_ : Heap) (locs_ : List Loc), zPw cD cy A_ s_.heap T H_ locs_ → ∀ ls : Array Slot, lv_has ls 1 [(0, .ref (ro 0))] → W p_ l e_ ({ frames := 1, cells := 38, slots := 69369, locals := 20 } : Room) s_ m_ args_ below_ meth_ c_ H_ locs_ 24 9845 (MQ below_ (va_Qv (fun (S1 : zS) => ∃ r_ : Nat → Nat, r_ 0 = x0 ∧ ShM S1 r_ ∧ FrM S1 r_) (zPost cD cy A_) A_) args_ s_ 38 69369 A_) (F0 m_ 310 ls []) := by
    intro ro h0 T hv H_ locs_ hw ls hl
    have hL : ro 0 ∈ zL T := hv.rl (by decide)
    have hk : zK T (ro 0) = 12 := hv.k (o := 0) (n := 0) (by decide)
    refine lv_aload_n hx hb_ dX12_init_310 rfl (lv_at hl 0 rfl) ?_
    refine lv_sipush (v := 4001) hx hb_ dX12_init_311 (by decide) ?_
    refine z_newi (N' := 4001) hcf hK_ hw hA (List.mem_of_getElem? (i := 5) rfl) (by decide) (by decide) (by decide) (Nat.le_of_ble_eq_true rfl) (Nat.le_of_ble_eq_true rfl) dX12_init_314 (fun q44 H_ hq_q44 hw => ?_)
    have hne_ro0_q44 : (ro 0) ≠ q44 := fun e_ => hq_q44 (e_ ▸ hL)
    have hk : zK (zNew T q44 13 4001) (ro 0) = 12 := (va_up_ne _ _ hne_ro0_q44).trans hk
    have hL : (ro 0) ∈ zL (zNew T q44 13 4001) := List.mem_append_left _ hL
    have hL_q44 : q44 ∈ zL (zNew T q44 13 4001) := zNew_m
    have hk_q44 : zK (zNew T q44 13 4001) q44 = 13 := zNew_K
    have hn_q44 : zN (zNew T q44 13 4001) q44 = 4001 := zNew_N
    refine z_putQF (k := 12) (i := 35) (j := 1235) (x := (some q44)) (v := .ref q44) (ty := (.array .int)) (ref := "FoldedInHalfModel") (C := RX12) (T := TX12) (N := 56) tyX12 hcf hK_ hw hin12 tyX12_ok nmX12 hL hk rfl (by decide) (by decide) rfl rfl (List.mem_of_getElem? (i := 31) rfl) (fun _ h_ => h_) rfl hnm rfl rfl (by decide +kernel) rfl rfl dX12_init_316 (fun H_ locs_ hw => ?_)
    exact J26 (zro ro 35 q44) h0 (zsQ (zNew T q44 13 4001) 1235 (ro 0) (some q44)) (zIv_Q (j := 1235) (o := 0) (t0 := 35) (zIv_new (hv) (by decide +kernel) hq_q44 (by decide)) (by decide +kernel) (by decide) (by decide)) _ _ hw ls hl
  have J24 : ∀ (ro : Nat → Nat), ro 0 = x0 → ∀ (T : zS), zIv ro [(33, 13, 4001), (30, 13, 41), (29, 13, 41), (28, 14, 41), (27, 14, 41), (26, 14, 41), (25, 14, 41), (24, 14, 8), (23, 14, 8), (22, 13, 25), (21, 13, 25), (13, 13, 19), (12, 14, 160), (11, 14, 1280), (10, 13, 8), (9, 13, 8), (8, 13, 8), (7, 13, 8), (6, 14, 8), (5, 13, 8), (4, 13, 8), (3, 13, 8), (2, 13, 8), (0, 12, 0)] [(1233, 0, 33), (1230, 0, 30), (1229, 0, 29), (1228, 0, 28), (1227, 0, 27), (1226, 0, 26), (1225, 0, 25), (1224, 0, 24), (1223, 0, 23), (1222, 0, 22), (1221, 0, 21), (1213, 0, 13), (1212, 0, 12), (1211, 0, 11), (1210, 0, 10), (1209, 0, 9), (1208, 0, 8), (1207, 0, 7), (1206, 0, 6), (1205, 0, 5), (1204, 0, 4), (1203, 0, 3), (1202, 0, 2)] [(1201, 0, (-1)), (1200, 0, 0), (1249, 0, 0), (1254, 0, 0), (1255, 0, 0)] [33, 30, 29, 28, 27, 26, 25, 24, 23, 22, 21, 12, 11, 10, 9, 8, 7, 6, 5, 4, 3, 2] [] [33, 30, 29, 28, 27, 26, 25, 24, 23, 22, 21, 13, 12, 11, 10, 9, 8, 7, 6, 5, 4, 3, 2] T → ∀ (H_ : Heap) (locs_ : List Loc), zPw cD cy A_ s_.heap T H_ locs_ → ∀ ls : Array Slot, lv_has ls 1 [(0, .ref (ro 0))] → W p_ l e_ ({ frames := 1, cells := 38, slots := 69369, locals := 20 } : Room) s_ m_ args_ below_ meth_ c_ H_ locs_ 23 5844 (MQ below_ (va_Qv (fun (S1 : zS) => ∃ r_ : Nat → Nat, r_ 0 = x0 ∧ ShM S1 r_ ∧ FrM S1 r_) (zPost cD cy A_) A_) args_ s_ 38 69369 A_) (F0 m_ 301 ls []) := by
    intro ro h0 T hv H_ locs_ hw ls hl
    have hL : ro 0 ∈ zL T := hv.rl (by decide)
    have hk : zK T (ro 0) = 12 := hv.k (o := 0) (n := 0) (by decide)
    refine lv_aload_n hx hb_ dX12_init_301 rfl (lv_at hl 0 rfl) ?_
    refine lv_sipush (v := 4001) hx hb_ dX12_init_302 (by decide) ?_
    refine z_newi (N' := 4001) hcf hK_ hw hA (List.mem_of_getElem? (i := 5) rfl) (by decide) (by decide) (by decide) (Nat.le_of_ble_eq_true rfl) (Nat.le_of_ble_eq_true rfl) dX12_init_305 (fun q43 H_ hq_q43 hw => ?_)
    have hne_ro0_q43 : (ro 0) ≠ q43 := fun e_ => hq_q43 (e_ ▸ hL)
    have hk : zK (zNew T q43 13 4001) (ro 0) = 12 := (va_up_ne _ _ hne_ro0_q43).trans hk
    have hL : (ro 0) ∈ zL (zNew T q43 13 4001) := List.mem_append_left _ hL
    have hL_q43 : q43 ∈ zL (zNew T q43 13 4001) := zNew_m
    have hk_q43 : zK (zNew T q43 13 4001) q43 = 13 := zNew_K
    have hn_q43 : zN (zNew T q43 13 4001) q43 = 4001 := zNew_N
    refine z_putQF (k := 12) (i := 34) (j := 1234) (x := (some q43)) (v := .ref q43) (ty := (.array .int)) (ref := "FoldedInHalfModel") (C := RX12) (T := TX12) (N := 56) tyX12 hcf hK_ hw hin12 tyX12_ok nmX12 hL hk rfl (by decide) (by decide) rfl rfl (List.mem_of_getElem? (i := 30) rfl) (fun _ h_ => h_) rfl hnm rfl rfl (by decide +kernel) rfl rfl dX12_init_307 (fun H_ locs_ hw => ?_)
    exact J25 (zro ro 34 q43) h0 (zsQ (zNew T q43 13 4001) 1234 (ro 0) (some q43)) (zIv_Q (j := 1234) (o := 0) (t0 := 34) (zIv_new (hv) (by decide +kernel) hq_q43 (by decide)) (by decide +kernel) (by decide) (by decide)) _ _ hw ls hl
  have J23 : ∀ (ro : Nat → Nat), ro 0 = x0 → ∀ (T : zS), zIv ro [(30, 13, 41), (29, 13, 41), (28, 14, 41), (27, 14, 41), (26, 14, 41), (25, 14, 41), (24, 14, 8), (23, 14, 8), (22, 13, 25), (21, 13, 25), (13, 13, 19), (12, 14, 160), (11, 14, 1280), (10, 13, 8), (9, 13, 8), (8, 13, 8), (7, 13, 8), (6, 14, 8), (5, 13, 8), (4, 13, 8), (3, 13, 8), (2, 13, 8), (0, 12, 0)] [(1230, 0, 30), (1229, 0, 29), (1228, 0, 28), (1227, 0, 27), (1226, 0, 26), (1225, 0, 25), (1224, 0, 24), (1223, 0, 23), (1222, 0, 22), (1221, 0, 21), (1213, 0, 13), (1212, 0, 12), (1211, 0, 11), (1210, 0, 10), (1209, 0, 9), (1208, 0, 8), (1207, 0, 7), (1206, 0, 6), (1205, 0, 5), (1204, 0, 4), (1203, 0, 3), (1202, 0, 2)] [(1201, 0, (-1)), (1200, 0, 0), (1249, 0, 0), (1254, 0, 0), (1255, 0, 0)] [30, 29, 28, 27, 26, 25, 24, 23, 22, 21, 12, 11, 10, 9, 8, 7, 6, 5, 4, 3, 2] [] [30, 29, 28, 27, 26, 25, 24, 23, 22, 21, 13, 12, 11, 10, 9, 8, 7, 6, 5, 4, 3, 2] T → ∀ (H_ : Heap) (locs_ : List Loc), zPw cD cy A_ s_.heap T H_ locs_ → ∀ ls : Array Slot, lv_has ls 1 [(0, .ref (ro 0))] → W p_ l e_ ({ frames := 1, cells := 38, slots := 69369, locals := 20 } : Room) s_ m_ args_ below_ meth_ c_ H_ locs_ 22 1843 (MQ below_ (va_Qv (fun (S1 : zS) => ∃ r_ : Nat → Nat, r_ 0 = x0 ∧ ShM S1 r_ ∧ FrM S1 r_) (zPost cD cy A_) A_) args_ s_ 38 69369 A_) (F0 m_ 292 ls []) := by
    intro ro h0 T hv H_ locs_ hw ls hl
    have hL : ro 0 ∈ zL T := hv.rl (by decide)
    have hk : zK T (ro 0) = 12 := hv.k (o := 0) (n := 0) (by decide)
    refine lv_aload_n hx hb_ dX12_init_292 rfl (lv_at hl 0 rfl) ?_
    refine lv_sipush (v := 4001) hx hb_ dX12_init_293 (by decide) ?_
    refine z_newi (N' := 4001) hcf hK_ hw hA (List.mem_of_getElem? (i := 5) rfl) (by decide) (by decide) (by decide) (Nat.le_of_ble_eq_true rfl) (Nat.le_of_ble_eq_true rfl) dX12_init_296 (fun q42 H_ hq_q42 hw => ?_)
    have hne_ro0_q42 : (ro 0) ≠ q42 := fun e_ => hq_q42 (e_ ▸ hL)
    have hk : zK (zNew T q42 13 4001) (ro 0) = 12 := (va_up_ne _ _ hne_ro0_q42).trans hk
    have hL : (ro 0) ∈ zL (zNew T q42 13 4001) := List.mem_append_left _ hL
    have hL_q42 : q42 ∈ zL (zNew T q42 13 4001) := zNew_m
    have hk_q42 : zK (zNew T q42 13 4001) q42 = 13 := zNew_K
    have hn_q42 : zN (zNew T q42 13 4001) q42 = 4001 := zNew_N
    refine z_putQF (k := 12) (i := 33) (j := 1233) (x := (some q42)) (v := .ref q42) (ty := (.array .int)) (ref := "FoldedInHalfModel") (C := RX12) (T := TX12) (N := 56) tyX12 hcf hK_ hw hin12 tyX12_ok nmX12 hL hk rfl (by decide) (by decide) rfl rfl (List.mem_of_getElem? (i := 29) rfl) (fun _ h_ => h_) rfl hnm rfl rfl (by decide +kernel) rfl rfl dX12_init_298 (fun H_ locs_ hw => ?_)
    exact J24 (zro ro 33 q42) h0 (zsQ (zNew T q42 13 4001) 1233 (ro 0) (some q42)) (zIv_Q (j := 1233) (o := 0) (t0 := 33) (zIv_new (hv) (by decide +kernel) hq_q42 (by decide)) (by decide +kernel) (by decide) (by decide)) _ _ hw ls hl
  have J22 : ∀ (ro : Nat → Nat), ro 0 = x0 → ∀ (T : zS), zIv ro [(29, 13, 41), (28, 14, 41), (27, 14, 41), (26, 14, 41), (25, 14, 41), (24, 14, 8), (23, 14, 8), (22, 13, 25), (21, 13, 25), (13, 13, 19), (12, 14, 160), (11, 14, 1280), (10, 13, 8), (9, 13, 8), (8, 13, 8), (7, 13, 8), (6, 14, 8), (5, 13, 8), (4, 13, 8), (3, 13, 8), (2, 13, 8), (0, 12, 0)] [(1229, 0, 29), (1228, 0, 28), (1227, 0, 27), (1226, 0, 26), (1225, 0, 25), (1224, 0, 24), (1223, 0, 23), (1222, 0, 22), (1221, 0, 21), (1213, 0, 13), (1212, 0, 12), (1211, 0, 11), (1210, 0, 10), (1209, 0, 9), (1208, 0, 8), (1207, 0, 7), (1206, 0, 6), (1205, 0, 5), (1204, 0, 4), (1203, 0, 3), (1202, 0, 2)] [(1201, 0, (-1)), (1200, 0, 0), (1249, 0, 0), (1254, 0, 0), (1255, 0, 0)] [29, 28, 27, 26, 25, 24, 23, 22, 21, 12, 11, 10, 9, 8, 7, 6, 5, 4, 3, 2] [] [29, 28, 27, 26, 25, 24, 23, 22, 21, 13, 12, 11, 10, 9, 8, 7, 6, 5, 4, 3, 2] T → ∀ (H_ : Heap) (locs_ : List Loc), zPw cD cy A_ s_.heap T H_ locs_ → ∀ ls : Array Slot, lv_has ls 1 [(0, .ref (ro 0))] → W p_ l e_ ({ frames := 1, cells := 38, slots := 69369, locals := 20 } : Room) s_ m_ args_ below_ meth_ c_ H_ locs_ 21 1802 (MQ below_ (va_Qv (fun (S1 : zS) => ∃ r_ : Nat → Nat, r_ 0 = x0 ∧ ShM S1 r_ ∧ FrM S1 r_) (zPost cD cy A_) A_) args_ s_ 38 69369 A_) (F0 m_ 284 ls []) := by
    intro ro h0 T hv H_ locs_ hw ls hl
    have hL : ro 0 ∈ zL T := hv.rl (by decide)
    have hk : zK T (ro 0) = 12 := hv.k (o := 0) (n := 0) (by decide)
    refine lv_aload_n hx hb_ dX12_init_284 rfl (lv_at hl 0 rfl) ?_
    refine lv_bipush (v := 41) hx hb_ dX12_init_285 (by decide) ?_
    refine z_newi (N' := 41) hcf hK_ hw hA (List.mem_of_getElem? (i := 5) rfl) (by decide) (by decide) (by decide) (Nat.le_of_ble_eq_true rfl) (Nat.le_of_ble_eq_true rfl) dX12_init_287 (fun q41 H_ hq_q41 hw => ?_)
    have hne_ro0_q41 : (ro 0) ≠ q41 := fun e_ => hq_q41 (e_ ▸ hL)
    have hk : zK (zNew T q41 13 41) (ro 0) = 12 := (va_up_ne _ _ hne_ro0_q41).trans hk
    have hL : (ro 0) ∈ zL (zNew T q41 13 41) := List.mem_append_left _ hL
    have hL_q41 : q41 ∈ zL (zNew T q41 13 41) := zNew_m
    have hk_q41 : zK (zNew T q41 13 41) q41 = 13 := zNew_K
    have hn_q41 : zN (zNew T q41 13 41) q41 = 41 := zNew_N
    refine z_putQF (k := 12) (i := 30) (j := 1230) (x := (some q41)) (v := .ref q41) (ty := (.array .int)) (ref := "FoldedInHalfModel") (C := RX12) (T := TX12) (N := 56) tyX12 hcf hK_ hw hin12 tyX12_ok nmX12 hL hk rfl (by decide) (by decide) rfl rfl (List.mem_of_getElem? (i := 28) rfl) (fun _ h_ => h_) rfl hnm rfl rfl (by decide +kernel) rfl rfl dX12_init_289 (fun H_ locs_ hw => ?_)
    exact J23 (zro ro 30 q41) h0 (zsQ (zNew T q41 13 41) 1230 (ro 0) (some q41)) (zIv_Q (j := 1230) (o := 0) (t0 := 30) (zIv_new (hv) (by decide +kernel) hq_q41 (by decide)) (by decide +kernel) (by decide) (by decide)) _ _ hw ls hl
  have J21 : ∀ (ro : Nat → Nat), ro 0 = x0 → ∀ (T : zS), zIv ro [(28, 14, 41), (27, 14, 41), (26, 14, 41), (25, 14, 41), (24, 14, 8), (23, 14, 8), (22, 13, 25), (21, 13, 25), (13, 13, 19), (12, 14, 160), (11, 14, 1280), (10, 13, 8), (9, 13, 8), (8, 13, 8), (7, 13, 8), (6, 14, 8), (5, 13, 8), (4, 13, 8), (3, 13, 8), (2, 13, 8), (0, 12, 0)] [(1228, 0, 28), (1227, 0, 27), (1226, 0, 26), (1225, 0, 25), (1224, 0, 24), (1223, 0, 23), (1222, 0, 22), (1221, 0, 21), (1213, 0, 13), (1212, 0, 12), (1211, 0, 11), (1210, 0, 10), (1209, 0, 9), (1208, 0, 8), (1207, 0, 7), (1206, 0, 6), (1205, 0, 5), (1204, 0, 4), (1203, 0, 3), (1202, 0, 2)] [(1201, 0, (-1)), (1200, 0, 0), (1249, 0, 0), (1254, 0, 0), (1255, 0, 0)] [28, 27, 26, 25, 24, 23, 22, 21, 12, 11, 10, 9, 8, 7, 6, 5, 4, 3, 2] [] [28, 27, 26, 25, 24, 23, 22, 21, 13, 12, 11, 10, 9, 8, 7, 6, 5, 4, 3, 2] T → ∀ (H_ : Heap) (locs_ : List Loc), zPw cD cy A_ s_.heap T H_ locs_ → ∀ ls : Array Slot, lv_has ls 1 [(0, .ref (ro 0))] → W p_ l e_ ({ frames := 1, cells := 38, slots := 69369, locals := 20 } : Room) s_ m_ args_ below_ meth_ c_ H_ locs_ 20 1761 (MQ below_ (va_Qv (fun (S1 : zS) => ∃ r_ : Nat → Nat, r_ 0 = x0 ∧ ShM S1 r_ ∧ FrM S1 r_) (zPost cD cy A_) A_) args_ s_ 38 69369 A_) (F0 m_ 276 ls []) := by
    intro ro h0 T hv H_ locs_ hw ls hl
    have hL : ro 0 ∈ zL T := hv.rl (by decide)
    have hk : zK T (ro 0) = 12 := hv.k (o := 0) (n := 0) (by decide)
    refine lv_aload_n hx hb_ dX12_init_276 rfl (lv_at hl 0 rfl) ?_
    refine lv_bipush (v := 41) hx hb_ dX12_init_277 (by decide) ?_
    refine z_newi (N' := 41) hcf hK_ hw hA (List.mem_of_getElem? (i := 5) rfl) (by decide) (by decide) (by decide) (Nat.le_of_ble_eq_true rfl) (Nat.le_of_ble_eq_true rfl) dX12_init_279 (fun q40 H_ hq_q40 hw => ?_)
    have hne_ro0_q40 : (ro 0) ≠ q40 := fun e_ => hq_q40 (e_ ▸ hL)
    have hk : zK (zNew T q40 13 41) (ro 0) = 12 := (va_up_ne _ _ hne_ro0_q40).trans hk
    have hL : (ro 0) ∈ zL (zNew T q40 13 41) := List.mem_append_left _ hL
    have hL_q40 : q40 ∈ zL (zNew T q40 13 41) := zNew_m
    have hk_q40 : zK (zNew T q40 13 41) q40 = 13 := zNew_K
    have hn_q40 : zN (zNew T q40 13 41) q40 = 41 := zNew_N
    refine z_putQF (k := 12) (i := 29) (j := 1229) (x := (some q40)) (v := .ref q40) (ty := (.array .int)) (ref := "FoldedInHalfModel") (C := RX12) (T := TX12) (N := 56) tyX12 hcf hK_ hw hin12 tyX12_ok nmX12 hL hk rfl (by decide) (by decide) rfl rfl (List.mem_of_getElem? (i := 27) rfl) (fun _ h_ => h_) rfl hnm rfl rfl (by decide +kernel) rfl rfl dX12_init_281 (fun H_ locs_ hw => ?_)
    exact J22 (zro ro 29 q40) h0 (zsQ (zNew T q40 13 41) 1229 (ro 0) (some q40)) (zIv_Q (j := 1229) (o := 0) (t0 := 29) (zIv_new (hv) (by decide +kernel) hq_q40 (by decide)) (by decide +kernel) (by decide) (by decide)) _ _ hw ls hl
  have J20 : ∀ (ro : Nat → Nat), ro 0 = x0 → ∀ (T : zS), zIv ro [(27, 14, 41), (26, 14, 41), (25, 14, 41), (24, 14, 8), (23, 14, 8), (22, 13, 25), (21, 13, 25), (13, 13, 19), (12, 14, 160), (11, 14, 1280), (10, 13, 8), (9, 13, 8), (8, 13, 8), (7, 13, 8), (6, 14, 8), (5, 13, 8), (4, 13, 8), (3, 13, 8), (2, 13, 8), (0, 12, 0)] [(1227, 0, 27), (1226, 0, 26), (1225, 0, 25), (1224, 0, 24), (1223, 0, 23), (1222, 0, 22), (1221, 0, 21), (1213, 0, 13), (1212, 0, 12), (1211, 0, 11), (1210, 0, 10), (1209, 0, 9), (1208, 0, 8), (1207, 0, 7), (1206, 0, 6), (1205, 0, 5), (1204, 0, 4), (1203, 0, 3), (1202, 0, 2)] [(1201, 0, (-1)), (1200, 0, 0), (1249, 0, 0), (1254, 0, 0), (1255, 0, 0)] [27, 26, 25, 24, 23, 22, 21, 12, 11, 10, 9, 8, 7, 6, 5, 4, 3, 2] [] [27, 26, 25, 24, 23, 22, 21, 13, 12, 11, 10, 9, 8, 7, 6, 5, 4, 3, 2] T → ∀ (H_ : Heap) (locs_ : List Loc), zPw cD cy A_ s_.heap T H_ locs_ → ∀ ls : Array Slot, lv_has ls 1 [(0, .ref (ro 0))] → W p_ l e_ ({ frames := 1, cells := 38, slots := 69369, locals := 20 } : Room) s_ m_ args_ below_ meth_ c_ H_ locs_ 19 1720 (MQ below_ (va_Qv (fun (S1 : zS) => ∃ r_ : Nat → Nat, r_ 0 = x0 ∧ ShM S1 r_ ∧ FrM S1 r_) (zPost cD cy A_) A_) args_ s_ 38 69369 A_) (F0 m_ 268 ls []) := by
    intro ro h0 T hv H_ locs_ hw ls hl
    have hL : ro 0 ∈ zL T := hv.rl (by decide)
    have hk : zK T (ro 0) = 12 := hv.k (o := 0) (n := 0) (by decide)
    refine lv_aload_n hx hb_ dX12_init_268 rfl (lv_at hl 0 rfl) ?_
    refine lv_bipush (v := 41) hx hb_ dX12_init_269 (by decide) ?_
    refine z_newl (N' := 41) hcf hK_ hw hA (List.mem_of_getElem? (i := 10) rfl) (by decide) (by decide) (by decide) (Nat.le_of_ble_eq_true rfl) (Nat.le_of_ble_eq_true rfl) dX12_init_271 (fun q39 H_ hq_q39 hw => ?_)
    have hne_ro0_q39 : (ro 0) ≠ q39 := fun e_ => hq_q39 (e_ ▸ hL)
    have hk : zK (zNew T q39 14 41) (ro 0) = 12 := (va_up_ne _ _ hne_ro0_q39).trans hk
    have hL : (ro 0) ∈ zL (zNew T q39 14 41) := List.mem_append_left _ hL
    have hL_q39 : q39 ∈ zL (zNew T q39 14 41) := zNew_m
    have hk_q39 : zK (zNew T q39 14 41) q39 = 14 := zNew_K
    have hn_q39 : zN (zNew T q39 14 41) q39 = 41 := zNew_N
    refine z_putQF (k := 12) (i := 28) (j := 1228) (x := (some q39)) (v := .ref q39) (ty := (.array .long)) (ref := "FoldedInHalfModel") (C := RX12) (T := TX12) (N := 56) tyX12 hcf hK_ hw hin12 tyX12_ok nmX12 hL hk rfl (by decide) (by decide) rfl rfl (List.mem_of_getElem? (i := 26) rfl) (fun _ h_ => h_) rfl hnm rfl rfl (by decide +kernel) rfl rfl dX12_init_273 (fun H_ locs_ hw => ?_)
    exact J21 (zro ro 28 q39) h0 (zsQ (zNew T q39 14 41) 1228 (ro 0) (some q39)) (zIv_Q (j := 1228) (o := 0) (t0 := 28) (zIv_new (hv) (by decide +kernel) hq_q39 (by decide)) (by decide +kernel) (by decide) (by decide)) _ _ hw ls hl
  have J19 : ∀ (ro : Nat → Nat), ro 0 = x0 → ∀ (T : zS), zIv ro [(26, 14, 41), (25, 14, 41), (24, 14, 8), (23, 14, 8), (22, 13, 25), (21, 13, 25), (13, 13, 19), (12, 14, 160), (11, 14, 1280), (10, 13, 8), (9, 13, 8), (8, 13, 8), (7, 13, 8), (6, 14, 8), (5, 13, 8), (4, 13, 8), (3, 13, 8), (2, 13, 8), (0, 12, 0)] [(1226, 0, 26), (1225, 0, 25), (1224, 0, 24), (1223, 0, 23), (1222, 0, 22), (1221, 0, 21), (1213, 0, 13), (1212, 0, 12), (1211, 0, 11), (1210, 0, 10), (1209, 0, 9), (1208, 0, 8), (1207, 0, 7), (1206, 0, 6), (1205, 0, 5), (1204, 0, 4), (1203, 0, 3), (1202, 0, 2)] [(1201, 0, (-1)), (1200, 0, 0), (1249, 0, 0), (1254, 0, 0), (1255, 0, 0)] [26, 25, 24, 23, 22, 21, 12, 11, 10, 9, 8, 7, 6, 5, 4, 3, 2] [] [26, 25, 24, 23, 22, 21, 13, 12, 11, 10, 9, 8, 7, 6, 5, 4, 3, 2] T → ∀ (H_ : Heap) (locs_ : List Loc), zPw cD cy A_ s_.heap T H_ locs_ → ∀ ls : Array Slot, lv_has ls 1 [(0, .ref (ro 0))] → W p_ l e_ ({ frames := 1, cells := 38, slots := 69369, locals := 20 } : Room) s_ m_ args_ below_ meth_ c_ H_ locs_ 18 1679 (MQ below_ (va_Qv (fun (S1 : zS) => ∃ r_ : Nat → Nat, r_ 0 = x0 ∧ ShM S1 r_ ∧ FrM S1 r_) (zPost cD cy A_) A_) args_ s_ 38 69369 A_) (F0 m_ 260 ls []) := by
    intro ro h0 T hv H_ locs_ hw ls hl
    have hL : ro 0 ∈ zL T := hv.rl (by decide)
    have hk : zK T (ro 0) = 12 := hv.k (o := 0) (n := 0) (by decide)
    refine lv_aload_n hx hb_ dX12_init_260 rfl (lv_at hl 0 rfl) ?_
    refine lv_bipush (v := 41) hx hb_ dX12_init_261 (by decide) ?_
    refine z_newl (N' := 41) hcf hK_ hw hA (List.mem_of_getElem? (i := 10) rfl) (by decide) (by decide) (by decide) (Nat.le_of_ble_eq_true rfl) (Nat.le_of_ble_eq_true rfl) dX12_init_263 (fun q38 H_ hq_q38 hw => ?_)
    have hne_ro0_q38 : (ro 0) ≠ q38 := fun e_ => hq_q38 (e_ ▸ hL)
    have hk : zK (zNew T q38 14 41) (ro 0) = 12 := (va_up_ne _ _ hne_ro0_q38).trans hk
    have hL : (ro 0) ∈ zL (zNew T q38 14 41) := List.mem_append_left _ hL
    have hL_q38 : q38 ∈ zL (zNew T q38 14 41) := zNew_m
    have hk_q38 : zK (zNew T q38 14 41) q38 = 14 := zNew_K
    have hn_q38 : zN (zNew T q38 14 41) q38 = 41 := zNew_N
    refine z_putQF (k := 12) (i := 27) (j := 1227) (x := (some q38)) (v := .ref q38) (ty := (.array .long)) (ref := "FoldedInHalfModel") (C := RX12) (T := TX12) (N := 56) tyX12 hcf hK_ hw hin12 tyX12_ok nmX12 hL hk rfl (by decide) (by decide) rfl rfl (List.mem_of_getElem? (i := 25) rfl) (fun _ h_ => h_) rfl hnm rfl rfl (by decide +kernel) rfl rfl dX12_init_265 (fun H_ locs_ hw => ?_)
    exact J20 (zro ro 27 q38) h0 (zsQ (zNew T q38 14 41) 1227 (ro 0) (some q38)) (zIv_Q (j := 1227) (o := 0) (t0 := 27) (zIv_new (hv) (by decide +kernel) hq_q38 (by decide)) (by decide +kernel) (by decide) (by decide)) _ _ hw ls hl
  have J18 : ∀ (ro : Nat → Nat), ro 0 = x0 → ∀ (T : zS), zIv ro [(25, 14, 41), (24, 14, 8), (23, 14, 8), (22, 13, 25), (21, 13, 25), (13, 13, 19), (12, 14, 160), (11, 14, 1280), (10, 13, 8), (9, 13, 8), (8, 13, 8), (7, 13, 8), (6, 14, 8), (5, 13, 8), (4, 13, 8), (3, 13, 8), (2, 13, 8), (0, 12, 0)] [(1225, 0, 25), (1224, 0, 24), (1223, 0, 23), (1222, 0, 22), (1221, 0, 21), (1213, 0, 13), (1212, 0, 12), (1211, 0, 11), (1210, 0, 10), (1209, 0, 9), (1208, 0, 8), (1207, 0, 7), (1206, 0, 6), (1205, 0, 5), (1204, 0, 4), (1203, 0, 3), (1202, 0, 2)] [(1201, 0, (-1)), (1200, 0, 0), (1249, 0, 0), (1254, 0, 0), (1255, 0, 0)] [25, 24, 23, 22, 21, 12, 11, 10, 9, 8, 7, 6, 5, 4, 3, 2] [] [25, 24, 23, 22, 21, 13, 12, 11, 10, 9, 8, 7, 6, 5, 4, 3, 2] T → ∀ (H_ : Heap) (locs_ : List Loc), zPw cD cy A_ s_.heap T H_ locs_ → ∀ ls : Array Slot, lv_has ls 1 [(0, .ref (ro 0))] → W p_ l e_ ({ frames := 1, cells := 38, slots := 69369, locals := 20 } : Room) s_ m_ args_ below_ meth_ c_ H_ locs_ 17 1638 (MQ below_ (va_Qv (fun (S1 : zS) => ∃ r_ : Nat → Nat, r_ 0 = x0 ∧ ShM S1 r_ ∧ FrM S1 r_) (zPost cD cy A_) A_) args_ s_ 38 69369 A_) (F0 m_ 252 ls []) := by
    intro ro h0 T hv H_ locs_ hw ls hl
    have hL : ro 0 ∈ zL T := hv.rl (by decide)
    have hk : zK T (ro 0) = 12 := hv.k (o := 0) (n := 0) (by decide)
    refine lv_aload_n hx hb_ dX12_init_252 rfl (lv_at hl 0 rfl) ?_
    refine lv_bipush (v := 41) hx hb_ dX12_init_253 (by decide) ?_
    refine z_newl (N' := 41) hcf hK_ hw hA (List.mem_of_getElem? (i := 10) rfl) (by decide) (by decide) (by decide) (Nat.le_of_ble_eq_true rfl) (Nat.le_of_ble_eq_true rfl) dX12_init_255 (fun q37 H_ hq_q37 hw => ?_)
    have hne_ro0_q37 : (ro 0) ≠ q37 := fun e_ => hq_q37 (e_ ▸ hL)
    have hk : zK (zNew T q37 14 41) (ro 0) = 12 := (va_up_ne _ _ hne_ro0_q37).trans hk
    have hL : (ro 0) ∈ zL (zNew T q37 14 41) := List.mem_append_left _ hL
    have hL_q37 : q37 ∈ zL (zNew T q37 14 41) := zNew_m
    have hk_q37 : zK (zNew T q37 14 41) q37 = 14 := zNew_K
    have hn_q37 : zN (zNew T q37 14 41) q37 = 41 := zNew_N
    refine z_putQF (k := 12) (i := 26) (j := 1226) (x := (some q37)) (v := .ref q37) (ty := (.array .long)) (ref := "FoldedInHalfModel") (C := RX12) (T := TX12) (N := 56) tyX12 hcf hK_ hw hin12 tyX12_ok nmX12 hL hk rfl (by decide) (by decide) rfl rfl (List.mem_of_getElem? (i := 24) rfl) (fun _ h_ => h_) rfl hnm rfl rfl (by decide +kernel) rfl rfl dX12_init_257 (fun H_ locs_ hw => ?_)
    exact J19 (zro ro 26 q37) h0 (zsQ (zNew T q37 14 41) 1226 (ro 0) (some q37)) (zIv_Q (j := 1226) (o := 0) (t0 := 26) (zIv_new (hv) (by decide +kernel) hq_q37 (by decide)) (by decide +kernel) (by decide) (by decide)) _ _ hw ls hl
  have J17 : ∀ (ro : Nat → Nat), ro 0 = x0 → ∀ (T : zS), zIv ro [(24, 14, 8), (23, 14, 8), (22, 13, 25), (21, 13, 25), (13, 13, 19), (12, 14, 160), (11, 14, 1280), (10, 13, 8), (9, 13, 8), (8, 13, 8), (7, 13, 8), (6, 14, 8), (5, 13, 8), (4, 13, 8), (3, 13, 8), (2, 13, 8), (0, 12, 0)] [(1224, 0, 24), (1223, 0, 23), (1222, 0, 22), (1221, 0, 21), (1213, 0, 13), (1212, 0, 12), (1211, 0, 11), (1210, 0, 10), (1209, 0, 9), (1208, 0, 8), (1207, 0, 7), (1206, 0, 6), (1205, 0, 5), (1204, 0, 4), (1203, 0, 3), (1202, 0, 2)] [(1201, 0, (-1)), (1200, 0, 0), (1249, 0, 0), (1254, 0, 0), (1255, 0, 0)] [24, 23, 22, 21, 12, 11, 10, 9, 8, 7, 6, 5, 4, 3, 2] [] [24, 23, 22, 21, 13, 12, 11, 10, 9, 8, 7, 6, 5, 4, 3, 2] T → ∀ (H_ : Heap) (locs_ : List Loc), zPw cD cy A_ s_.heap T H_ locs_ → ∀ ls : Array Slot, lv_has ls 1 [(0, .ref (ro 0))] → W p_ l e_ ({ frames := 1, cells := 38, slots := 69369, locals := 20 } : Room) s_ m_ args_ below_ meth_ c_ H_ locs_ 16 1597 (MQ below_ (va_Qv (fun (S1 : zS) => ∃ r_ : Nat → Nat, r_ 0 = x0 ∧ ShM S1 r_ ∧ FrM S1 r_) (zPost cD cy A_) A_) args_ s_ 38 69369 A_) (F0 m_ 244 ls []) := by
    intro ro h0 T hv H_ locs_ hw ls hl
    have hL : ro 0 ∈ zL T := hv.rl (by decide)
    have hk : zK T (ro 0) = 12 := hv.k (o := 0) (n := 0) (by decide)
    refine lv_aload_n hx hb_ dX12_init_244 rfl (lv_at hl 0 rfl) ?_
    refine lv_bipush (v := 41) hx hb_ dX12_init_245 (by decide) ?_
    refine z_newl (N' := 41) hcf hK_ hw hA (List.mem_of_getElem? (i := 10) rfl) (by decide) (by decide) (by decide) (Nat.le_of_ble_eq_true rfl) (Nat.le_of_ble_eq_true rfl) dX12_init_247 (fun q36 H_ hq_q36 hw => ?_)
    have hne_ro0_q36 : (ro 0) ≠ q36 := fun e_ => hq_q36 (e_ ▸ hL)
    have hk : zK (zNew T q36 14 41) (ro 0) = 12 := (va_up_ne _ _ hne_ro0_q36).trans hk
    have hL : (ro 0) ∈ zL (zNew T q36 14 41) := List.mem_append_left _ hL
    have hL_q36 : q36 ∈ zL (zNew T q36 14 41) := zNew_m
    have hk_q36 : zK (zNew T q36 14 41) q36 = 14 := zNew_K
    have hn_q36 : zN (zNew T q36 14 41) q36 = 41 := zNew_N
    refine z_putQF (k := 12) (i := 25) (j := 1225) (x := (some q36)) (v := .ref q36) (ty := (.array .long)) (ref := "FoldedInHalfModel") (C := RX12) (T := TX12) (N := 56) tyX12 hcf hK_ hw hin12 tyX12_ok nmX12 hL hk rfl (by decide) (by decide) rfl rfl (List.mem_of_getElem? (i := 23) rfl) (fun _ h_ => h_) rfl hnm rfl rfl (by decide +kernel) rfl rfl dX12_init_249 (fun H_ locs_ hw => ?_)
    exact J18 (zro ro 25 q36) h0 (zsQ (zNew T q36 14 41) 1225 (ro 0) (some q36)) (zIv_Q (j := 1225) (o := 0) (t0 := 25) (zIv_new (hv) (by decide +kernel) hq_q36 (by decide)) (by decide +kernel) (by decide) (by decide)) _ _ hw ls hl
  have J16 : ∀ (ro : Nat → Nat), ro 0 = x0 → ∀ (T : zS), zIv ro [(23, 14, 8), (22, 13, 25), (21, 13, 25), (13, 13, 19), (12, 14, 160), (11, 14, 1280), (10, 13, 8), (9, 13, 8), (8, 13, 8), (7, 13, 8), (6, 14, 8), (5, 13, 8), (4, 13, 8), (3, 13, 8), (2, 13, 8), (0, 12, 0)] [(1223, 0, 23), (1222, 0, 22), (1221, 0, 21), (1213, 0, 13), (1212, 0, 12), (1211, 0, 11), (1210, 0, 10), (1209, 0, 9), (1208, 0, 8), (1207, 0, 7), (1206, 0, 6), (1205, 0, 5), (1204, 0, 4), (1203, 0, 3), (1202, 0, 2)] [(1201, 0, (-1)), (1200, 0, 0), (1249, 0, 0), (1254, 0, 0), (1255, 0, 0)] [23, 22, 21, 12, 11, 10, 9, 8, 7, 6, 5, 4, 3, 2] [] [23, 22, 21, 13, 12, 11, 10, 9, 8, 7, 6, 5, 4, 3, 2] T → ∀ (H_ : Heap) (locs_ : List Loc), zPw cD cy A_ s_.heap T H_ locs_ → ∀ ls : Array Slot, lv_has ls 1 [(0, .ref (ro 0))] → W p_ l e_ ({ frames := 1, cells := 38, slots := 69369, locals := 20 } : Room) s_ m_ args_ below_ meth_ c_ H_ locs_ 15 1589 (MQ below_ (va_Qv (fun (S1 : zS) => ∃ r_ : Nat → Nat, r_ 0 = x0 ∧ ShM S1 r_ ∧ FrM S1 r_) (zPost cD cy A_) A_) args_ s_ 38 69369 A_) (F0 m_ 236 ls []) := by
    intro ro h0 T hv H_ locs_ hw ls hl
    have hL : ro 0 ∈ zL T := hv.rl (by decide)
    have hk : zK T (ro 0) = 12 := hv.k (o := 0) (n := 0) (by decide)
    refine lv_aload_n hx hb_ dX12_init_236 rfl (lv_at hl 0 rfl) ?_
    refine lv_bipush (v := 8) hx hb_ dX12_init_237 (by decide) ?_
    refine z_newl (N' := 8) hcf hK_ hw hA (List.mem_of_getElem? (i := 10) rfl) (by decide) (by decide) (by decide) (Nat.le_of_ble_eq_true rfl) (Nat.le_of_ble_eq_true rfl) dX12_init_239 (fun q35 H_ hq_q35 hw => ?_)
    have hne_ro0_q35 : (ro 0) ≠ q35 := fun e_ => hq_q35 (e_ ▸ hL)
    have hk : zK (zNew T q35 14 8) (ro 0) = 12 := (va_up_ne _ _ hne_ro0_q35).trans hk
    have hL : (ro 0) ∈ zL (zNew T q35 14 8) := List.mem_append_left _ hL
    have hL_q35 : q35 ∈ zL (zNew T q35 14 8) := zNew_m
    have hk_q35 : zK (zNew T q35 14 8) q35 = 14 := zNew_K
    have hn_q35 : zN (zNew T q35 14 8) q35 = 8 := zNew_N
    refine z_putQF (k := 12) (i := 24) (j := 1224) (x := (some q35)) (v := .ref q35) (ty := (.array .long)) (ref := "FoldedInHalfModel") (C := RX12) (T := TX12) (N := 56) tyX12 hcf hK_ hw hin12 tyX12_ok nmX12 hL hk rfl (by decide) (by decide) rfl rfl (List.mem_of_getElem? (i := 22) rfl) (fun _ h_ => h_) rfl hnm rfl rfl (by decide +kernel) rfl rfl dX12_init_241 (fun H_ locs_ hw => ?_)
    exact J17 (zro ro 24 q35) h0 (zsQ (zNew T q35 14 8) 1224 (ro 0) (some q35)) (zIv_Q (j := 1224) (o := 0) (t0 := 24) (zIv_new (hv) (by decide +kernel) hq_q35 (by decide)) (by decide +kernel) (by decide) (by decide)) _ _ hw ls hl
  have J15 : ∀ (ro : Nat → Nat), ro 0 = x0 → ∀ (T : zS), zIv ro [(22, 13, 25), (21, 13, 25), (13, 13, 19), (12, 14, 160), (11, 14, 1280), (10, 13, 8), (9, 13, 8), (8, 13, 8), (7, 13, 8), (6, 14, 8), (5, 13, 8), (4, 13, 8), (3, 13, 8), (2, 13, 8), (0, 12, 0)] [(1222, 0, 22), (1221, 0, 21), (1213, 0, 13), (1212, 0, 12), (1211, 0, 11), (1210, 0, 10), (1209, 0, 9), (1208, 0, 8), (1207, 0, 7), (1206, 0, 6), (1205, 0, 5), (1204, 0, 4), (1203, 0, 3), (1202, 0, 2)] [(1201, 0, (-1)), (1200, 0, 0), (1249, 0, 0), (1254, 0, 0), (1255, 0, 0)] [22, 21, 12, 11, 10, 9, 8, 7, 6, 5, 4, 3, 2] [] [22, 21, 13, 12, 11, 10, 9, 8, 7, 6, 5, 4, 3, 2] T → ∀ (H_ : Heap) (locs_ : List Loc), zPw cD cy A_ s_.heap T H_ locs_ → ∀ ls : Array Slot, lv_has ls 1 [(0, .ref (ro 0))] → W p_ l e_ ({ frames := 1, cells := 38, slots := 69369, locals := 20 } : Room) s_ m_ args_ below_ meth_ c_ H_ locs_ 14 1581 (MQ below_ (va_Qv (fun (S1 : zS) => ∃ r_ : Nat → Nat, r_ 0 = x0 ∧ ShM S1 r_ ∧ FrM S1 r_) (zPost cD cy A_) A_) args_ s_ 38 69369 A_) (F0 m_ 228 ls []) := by
    intro ro h0 T hv H_ locs_ hw ls hl
    have hL : ro 0 ∈ zL T := hv.rl (by decide)
    have hk : zK T (ro 0) = 12 := hv.k (o := 0) (n := 0) (by decide)
    refine lv_aload_n hx hb_ dX12_init_228 rfl (lv_at hl 0 rfl) ?_
    refine lv_bipush (v := 8) hx hb_ dX12_init_229 (by decide) ?_
    refine z_newl (N' := 8) hcf hK_ hw hA (List.mem_of_getElem? (i := 10) rfl) (by decide) (by decide) (by decide) (Nat.le_of_ble_eq_true rfl) (Nat.le_of_ble_eq_true rfl) dX12_init_231 (fun q34 H_ hq_q34 hw => ?_)
    have hne_ro0_q34 : (ro 0) ≠ q34 := fun e_ => hq_q34 (e_ ▸ hL)
    have hk : zK (zNew T q34 14 8) (ro 0) = 12 := (va_up_ne _ _ hne_ro0_q34).trans hk
    have hL : (ro 0) ∈ zL (zNew T q34 14 8) := List.mem_append_left _ hL
    have hL_q34 : q34 ∈ zL (zNew T q34 14 8) := zNew_m
    have hk_q34 : zK (zNew T q34 14 8) q34 = 14 := zNew_K
    have hn_q34 : zN (zNew T q34 14 8) q34 = 8 := zNew_N
    refine z_putQF (k := 12) (i := 23) (j := 1223) (x := (some q34)) (v := .ref q34) (ty := (.array .long)) (ref := "FoldedInHalfModel") (C := RX12) (T := TX12) (N := 56) tyX12 hcf hK_ hw hin12 tyX12_ok nmX12 hL hk rfl (by decide) (by decide) rfl rfl (List.mem_of_getElem? (i := 21) rfl) (fun _ h_ => h_) rfl hnm rfl rfl (by decide +kernel) rfl rfl dX12_init_233 (fun H_ locs_ hw => ?_)
    exact J16 (zro ro 23 q34) h0 (zsQ (zNew T q34 14 8) 1223 (ro 0) (some q34)) (zIv_Q (j := 1223) (o := 0) (t0 := 23) (zIv_new (hv) (by decide +kernel) hq_q34 (by decide)) (by decide +kernel) (by decide) (by decide)) _ _ hw ls hl
  have J14 : ∀ (ro : Nat → Nat), ro 0 = x0 → ∀ (T : zS), zIv ro [(21, 13, 25), (13, 13, 19), (12, 14, 160), (11, 14, 1280), (10, 13, 8), (9, 13, 8), (8, 13, 8), (7, 13, 8), (6, 14, 8), (5, 13, 8), (4, 13, 8), (3, 13, 8), (2, 13, 8), (0, 12, 0)] [(1221, 0, 21), (1213, 0, 13), (1212, 0, 12), (1211, 0, 11), (1210, 0, 10), (1209, 0, 9), (1208, 0, 8), (1207, 0, 7), (1206, 0, 6), (1205, 0, 5), (1204, 0, 4), (1203, 0, 3), (1202, 0, 2)] [(1201, 0, (-1)), (1200, 0, 0), (1249, 0, 0), (1254, 0, 0), (1255, 0, 0)] [21, 12, 11, 10, 9, 8, 7, 6, 5, 4, 3, 2] [] [21, 13, 12, 11, 10, 9, 8, 7, 6, 5, 4, 3, 2] T → ∀ (H_ : Heap) (locs_ : List Loc), zPw cD cy A_ s_.heap T H_ locs_ → ∀ ls : Array Slot, lv_has ls 1 [(0, .ref (ro 0))] → W p_ l e_ ({ frames := 1, cells := 38, slots := 69369, locals := 20 } : Room) s_ m_ args_ below_ meth_ c_ H_ locs_ 13 1556 (MQ below_ (va_Qv (fun (S1 : zS) => ∃ r_ : Nat → Nat, r_ 0 = x0 ∧ ShM S1 r_ ∧ FrM S1 r_) (zPost cD cy A_) A_) args_ s_ 38 69369 A_) (F0 m_ 220 ls []) := by
    intro ro h0 T hv H_ locs_ hw ls hl
    have hL : ro 0 ∈ zL T := hv.rl (by decide)
    have hk : zK T (ro 0) = 12 := hv.k (o := 0) (n := 0) (by decide)
    refine lv_aload_n hx hb_ dX12_init_220 rfl (lv_at hl 0 rfl) ?_
    refine lv_bipush (v := 25) hx hb_ dX12_init_221 (by decide) ?_
    refine z_newi (N' := 25) hcf hK_ hw hA (List.mem_of_getElem? (i := 5) rfl) (by decide) (by decide) (by decide) (Nat.le_of_ble_eq_true rfl) (Nat.le_of_ble_eq_true rfl) dX12_init_223 (fun q33 H_ hq_q33 hw => ?_)
    have hne_ro0_q33 : (ro 0) ≠ q33 := fun e_ => hq_q33 (e_ ▸ hL)
    have hk : zK (zNew T q33 13 25) (ro 0) = 12 := (va_up_ne _ _ hne_ro0_q33).trans hk
    have hL : (ro 0) ∈ zL (zNew T q33 13 25) := List.mem_append_left _ hL
    have hL_q33 : q33 ∈ zL (zNew T q33 13 25) := zNew_m
    have hk_q33 : zK (zNew T q33 13 25) q33 = 13 := zNew_K
    have hn_q33 : zN (zNew T q33 13 25) q33 = 25 := zNew_N
    refine z_putQF (k := 12) (i := 22) (j := 1222) (x := (some q33)) (v := .ref q33) (ty := (.array .int)) (ref := "FoldedInHalfModel") (C := RX12) (T := TX12) (N := 56) tyX12 hcf hK_ hw hin12 tyX12_ok nmX12 hL hk rfl (by decide) (by decide) rfl rfl (List.mem_of_getElem? (i := 20) rfl) (fun _ h_ => h_) rfl hnm rfl rfl (by decide +kernel) rfl rfl dX12_init_225 (fun H_ locs_ hw => ?_)
    exact J15 (zro ro 22 q33) h0 (zsQ (zNew T q33 13 25) 1222 (ro 0) (some q33)) (zIv_Q (j := 1222) (o := 0) (t0 := 22) (zIv_new (hv) (by decide +kernel) hq_q33 (by decide)) (by decide +kernel) (by decide) (by decide)) _ _ hw ls hl
  have J13 : ∀ (ro : Nat → Nat), ro 0 = x0 → ∀ (T : zS), zIv ro [(13, 13, 19), (12, 14, 160), (11, 14, 1280), (10, 13, 8), (9, 13, 8), (8, 13, 8), (7, 13, 8), (6, 14, 8), (5, 13, 8), (4, 13, 8), (3, 13, 8), (2, 13, 8), (0, 12, 0)] [(1213, 0, 13), (1212, 0, 12), (1211, 0, 11), (1210, 0, 10), (1209, 0, 9), (1208, 0, 8), (1207, 0, 7), (1206, 0, 6), (1205, 0, 5), (1204, 0, 4), (1203, 0, 3), (1202, 0, 2)] [(1201, 0, (-1)), (1200, 0, 0), (1249, 0, 0), (1254, 0, 0), (1255, 0, 0)] [12, 11, 10, 9, 8, 7, 6, 5, 4, 3, 2] [] [13, 12, 11, 10, 9, 8, 7, 6, 5, 4, 3, 2] T → ∀ (H_ : Heap) (locs_ : List Loc), zPw cD cy A_ s_.heap T H_ locs_ → ∀ ls : Array Slot, lv_has ls 1 [(0, .ref (ro 0))] → W p_ l e_ ({ frames := 1, cells := 38, slots := 69369, locals := 20 } : Room) s_ m_ args_ below_ meth_ c_ H_ locs_ 12 1531 (MQ below_ (va_Qv (fun (S1 : zS) => ∃ r_ : Nat → Nat, r_ 0 = x0 ∧ ShM S1 r_ ∧ FrM S1 r_) (zPost cD cy A_) A_) args_ s_ 38 69369 A_) (F0 m_ 212 ls []) := by
    intro ro h0 T hv H_ locs_ hw ls hl
    have hL : ro 0 ∈ zL T := hv.rl (by decide)
    have hk : zK T (ro 0) = 12 := hv.k (o := 0) (n := 0) (by decide)
    refine lv_aload_n hx hb_ dX12_init_212 rfl (lv_at hl 0 rfl) ?_
    refine lv_bipush (v := 25) hx hb_ dX12_init_213 (by decide) ?_
    refine z_newi (N' := 25) hcf hK_ hw hA (List.mem_of_getElem? (i := 5) rfl) (by decide) (by decide) (by decide) (Nat.le_of_ble_eq_true rfl) (Nat.le_of_ble_eq_true rfl) dX12_init_215 (fun q32 H_ hq_q32 hw => ?_)
    have hne_ro0_q32 : (ro 0) ≠ q32 := fun e_ => hq_q32 (e_ ▸ hL)
    have hk : zK (zNew T q32 13 25) (ro 0) = 12 := (va_up_ne _ _ hne_ro0_q32).trans hk
    have hL : (ro 0) ∈ zL (zNew T q32 13 25) := List.mem_append_left _ hL
    have hL_q32 : q32 ∈ zL (zNew T q32 13 25) := zNew_m
    have hk_q32 : zK (zNew T q32 13 25) q32 = 13 := zNew_K
    have hn_q32 : zN (zNew T q32 13 25) q32 = 25 := zNew_N
    refine z_putQF (k := 12) (i := 21) (j := 1221) (x := (some q32)) (v := .ref q32) (ty := (.array .int)) (ref := "FoldedInHalfModel") (C := RX12) (T := TX12) (N := 56) tyX12 hcf hK_ hw hin12 tyX12_ok nmX12 hL hk rfl (by decide) (by decide) rfl rfl (List.mem_of_getElem? (i := 19) rfl) (fun _ h_ => h_) rfl hnm rfl rfl (by decide +kernel) rfl rfl dX12_init_217 (fun H_ locs_ hw => ?_)
    exact J14 (zro ro 21 q32) h0 (zsQ (zNew T q32 13 25) 1221 (ro 0) (some q32)) (zIv_Q (j := 1221) (o := 0) (t0 := 21) (zIv_new (hv) (by decide +kernel) hq_q32 (by decide)) (by decide +kernel) (by decide) (by decide)) _ _ hw ls hl
  have J12 : ∀ (ro : Nat → Nat), ro 0 = x0 → ∀ (T : zS), zIv ro [(12, 14, 160), (11, 14, 1280), (10, 13, 8), (9, 13, 8), (8, 13, 8), (7, 13, 8), (6, 14, 8), (5, 13, 8), (4, 13, 8), (3, 13, 8), (2, 13, 8), (0, 12, 0)] [(1212, 0, 12), (1211, 0, 11), (1210, 0, 10), (1209, 0, 9), (1208, 0, 8), (1207, 0, 7), (1206, 0, 6), (1205, 0, 5), (1204, 0, 4), (1203, 0, 3), (1202, 0, 2)] [(1201, 0, (-1)), (1200, 0, 0), (1249, 0, 0), (1254, 0, 0), (1255, 0, 0)] [12, 11, 10, 9, 8, 7, 6, 5, 4, 3, 2] [] [12, 11, 10, 9, 8, 7, 6, 5, 4, 3, 2] T → ∀ (H_ : Heap) (locs_ : List Loc), zPw cD cy A_ s_.heap T H_ locs_ → ∀ ls : Array Slot, lv_has ls 1 [(0, .ref (ro 0))] → W p_ l e_ ({ frames := 1, cells := 38, slots := 69369, locals := 20 } : Room) s_ m_ args_ below_ meth_ c_ H_ locs_ 11 1512 (MQ below_ (va_Qv (fun (S1 : zS) => ∃ r_ : Nat → Nat, r_ 0 = x0 ∧ ShM S1 r_ ∧ FrM S1 r_) (zPost cD cy A_) A_) args_ s_ 38 69369 A_) (F0 m_ 99 ls []) := by
    intro ro h0 T hv H_ locs_ hw ls hl
    have hL : ro 0 ∈ zL T := hv.rl (by decide)
    have hk : zK T (ro 0) = 12 := hv.k (o := 0) (n := 0) (by decide)
    refine lv_aload_n hx hb_ dX12_init_99 rfl (lv_at hl 0 rfl) ?_
    refine lv_bipush (v := 19) hx hb_ dX12_init_100 (by decide) ?_
    refine z_newi (N' := 19) hcf hK_ hw hA (List.mem_of_getElem? (i := 5) rfl) (by decide) (by decide) (by decide) (Nat.le_of_ble_eq_true rfl) (Nat.le_of_ble_eq_true rfl) dX12_init_102 (fun q12 H_ hq_q12 hw => ?_)
    have hne_ro0_q12 : (ro 0) ≠ q12 := fun e_ => hq_q12 (e_ ▸ hL)
    have hk : zK (zNew T q12 13 19) (ro 0) = 12 := (va_up_ne _ _ hne_ro0_q12).trans hk
    have hL : (ro 0) ∈ zL (zNew T q12 13 19) := List.mem_append_left _ hL
    have hL_q12 : q12 ∈ zL (zNew T q12 13 19) := zNew_m
    have hk_q12 : zK (zNew T q12 13 19) q12 = 13 := zNew_K
    have hn_q12 : zN (zNew T q12 13 19) q12 = 19 := zNew_N
    refine lv_dup hx hb_ dX12_init_104 rfl ?_
    refine lv_iconst (v := 0) hx hb_ dX12_init_105 (by decide) ?_
    refine lv_bipush (v := 115) hx hb_ dX12_init_106 (by decide) ?_
    refine z_iast (n := 19) hcf hK_ hw hL_q12 hk_q12 hn_q12 (by unfold vp_in; decide) dX12_init_108 (fun H_ locs_ hw => ?_)
    obtain ⟨f13, ef13⟩ : ∃ zz, zz = (upd (zA (zNew T q12 13 19) q12) (0 : Int32).toNatClampNeg 115) := ⟨_, rfl⟩
    rw [← ef13] at hw
    clear ef13
    refine lv_dup hx hb_ dX12_init_109 rfl ?_
    refine lv_iconst (v := 1) hx hb_ dX12_init_110 (by decide) ?_
    refine lv_bipush (v := 116) hx hb_ dX12_init_111 (by decide) ?_
    refine z_iast (n := 19) hcf hK_ hw hL_q12 hk_q12 hn_q12 (by unfold vp_in; decide) dX12_init_113 (fun H_ locs_ hw => ?_)
    obtain ⟨f14, ef14⟩ : ∃ zz, zz = (upd (zA (zsA (zNew T q12 13 19) q12 f13) q12) (1 : Int32).toNatClampNeg 116) := ⟨_, rfl⟩
    rw [← ef14, zsA_zsA] at hw
    clear ef14
    refine lv_dup hx hb_ dX12_init_114 rfl ?_
    refine lv_iconst (v := 2) hx hb_ dX12_init_115 (by decide) ?_
    refine lv_bipush (v := 114) hx hb_ dX12_init_116 (by decide) ?_
    refine z_iast (n := 19) hcf hK_ hw hL_q12 hk_q12 hn_q12 (by unfold vp_in; decide) dX12_init_118 (fun H_ locs_ hw => ?_)
    obtain ⟨f15, ef15⟩ : ∃ zz, zz = (upd (zA (zsA (zNew T q12 13 19) q12 f14) q12) (2 : Int32).toNatClampNeg 114) := ⟨_, rfl⟩
    rw [← ef15, zsA_zsA] at hw
    clear ef15
    refine lv_dup hx hb_ dX12_init_119 rfl ?_
    refine lv_iconst (v := 3) hx hb_ dX12_init_120 (by decide) ?_
    refine lv_bipush (v := 105) hx hb_ dX12_init_121 (by decide) ?_
    refine z_iast (n := 19) hcf hK_ hw hL_q12 hk_q12 hn_q12 (by unfold vp_in; decide) dX12_init_123 (fun H_ locs_ hw => ?_)
    obtain ⟨f16, ef16⟩ : ∃ zz, zz = (upd (zA (zsA (zNew T q12 13 19) q12 f15) q12) (3 : Int32).toNatClampNeg 105) := ⟨_, rfl⟩
    rw [← ef16, zsA_zsA] at hw
    clear ef16
    refine lv_dup hx hb_ dX12_init_124 rfl ?_
    refine lv_iconst (v := 4) hx hb_ dX12_init_125 (by decide) ?_
    refine lv_bipush (v := 112) hx hb_ dX12_init_126 (by decide) ?_
    refine z_iast (n := 19) hcf hK_ hw hL_q12 hk_q12 hn_q12 (by unfold vp_in; decide) dX12_init_128 (fun H_ locs_ hw => ?_)
    obtain ⟨f17, ef17⟩ : ∃ zz, zz = (upd (zA (zsA (zNew T q12 13 19) q12 f16) q12) (4 : Int32).toNatClampNeg 112) := ⟨_, rfl⟩
    rw [← ef17, zsA_zsA] at hw
    clear ef17
    refine lv_dup hx hb_ dX12_init_129 rfl ?_
    refine lv_iconst (v := 5) hx hb_ dX12_init_130 (by decide) ?_
    refine lv_bipush (v := 32) hx hb_ dX12_init_131 (by decide) ?_
    refine z_iast (n := 19) hcf hK_ hw hL_q12 hk_q12 hn_q12 (by unfold vp_in; decide) dX12_init_133 (fun H_ locs_ hw => ?_)
    obtain ⟨f18, ef18⟩ : ∃ zz, zz = (upd (zA (zsA (zNew T q12 13 19) q12 f17) q12) (5 : Int32).toNatClampNeg 32) := ⟨_, rfl⟩
    rw [← ef18, zsA_zsA] at hw
    clear ef18
    refine lv_dup hx hb_ dX12_init_134 rfl ?_
    refine lv_bipush (v := 6) hx hb_ dX12_init_135 (by decide) ?_
    refine lv_iconst (v := 0) hx hb_ dX12_init_137 (by decide) ?_
    refine z_iast (n := 19) hcf hK_ hw hL_q12 hk_q12 hn_q12 (by unfold vp_in; decide) dX12_init_138 (fun H_ locs_ hw => ?_)
    obtain ⟨f19, ef19⟩ : ∃ zz, zz = (upd (zA (zsA (zNew T q12 13 19) q12 f18) q12) (6 : Int32).toNatClampNeg 0) := ⟨_, rfl⟩
    rw [← ef19, zsA_zsA] at hw
    clear ef19
    refine lv_dup hx hb_ dX12_init_139 rfl ?_
    refine lv_bipush (v := 7) hx hb_ dX12_init_140 (by decide) ?_
    refine lv_bipush (v := 116) hx hb_ dX12_init_142 (by decide) ?_
    refine z_iast (n := 19) hcf hK_ hw hL_q12 hk_q12 hn_q12 (by unfold vp_in; decide) dX12_init_144 (fun H_ locs_ hw => ?_)
    obtain ⟨f20, ef20⟩ : ∃ zz, zz = (upd (zA (zsA (zNew T q12 13 19) q12 f19) q12) (7 : Int32).toNatClampNeg 116) := ⟨_, rfl⟩
    rw [← ef20, zsA_zsA] at hw
    clear ef20
    refine lv_dup hx hb_ dX12_init_145 rfl ?_
    refine lv_bipush (v := 8) hx hb_ dX12_init_146 (by decide) ?_
    refine lv_bipush (v := 117) hx hb_ dX12_init_148 (by decide) ?_
    refine z_iast (n := 19) hcf hK_ hw hL_q12 hk_q12 hn_q12 (by unfold vp_in; decide) dX12_init_150 (fun H_ locs_ hw => ?_)
    obtain ⟨f21, ef21⟩ : ∃ zz, zz = (upd (zA (zsA (zNew T q12 13 19) q12 f20) q12) (8 : Int32).toNatClampNeg 117) := ⟨_, rfl⟩
    rw [← ef21, zsA_zsA] at hw
    clear ef21
    refine lv_dup hx hb_ dX12_init_151 rfl ?_
    refine lv_bipush (v := 9) hx hb_ dX12_init_152 (by decide) ?_
    refine lv_bipush (v := 114) hx hb_ dX12_init_154 (by decide) ?_
    refine z_iast (n := 19) hcf hK_ hw hL_q12 hk_q12 hn_q12 (by unfold vp_in; decide) dX12_init_156 (fun H_ locs_ hw => ?_)
    obtain ⟨f22, ef22⟩ : ∃ zz, zz = (upd (zA (zsA (zNew T q12 13 19) q12 f21) q12) (9 : Int32).toNatClampNeg 114) := ⟨_, rfl⟩
    rw [← ef22, zsA_zsA] at hw
    clear ef22
    refine lv_dup hx hb_ dX12_init_157 rfl ?_
    refine lv_bipush (v := 10) hx hb_ dX12_init_158 (by decide) ?_
    refine lv_bipush (v := 110) hx hb_ dX12_init_160 (by decide) ?_
    refine z_iast (n := 19) hcf hK_ hw hL_q12 hk_q12 hn_q12 (by unfold vp_in; decide) dX12_init_162 (fun H_ locs_ hw => ?_)
    obtain ⟨f23, ef23⟩ : ∃ zz, zz = (upd (zA (zsA (zNew T q12 13 19) q12 f22) q12) (10 : Int32).toNatClampNeg 110) := ⟨_, rfl⟩
    rw [← ef23, zsA_zsA] at hw
    clear ef23
    refine lv_dup hx hb_ dX12_init_163 rfl ?_
    refine lv_bipush (v := 11) hx hb_ dX12_init_164 (by decide) ?_
    refine lv_bipush (v := 32) hx hb_ dX12_init_166 (by decide) ?_
    refine z_iast (n := 19) hcf hK_ hw hL_q12 hk_q12 hn_q12 (by unfold vp_in; decide) dX12_init_168 (fun H_ locs_ hw => ?_)
    obtain ⟨f24, ef24⟩ : ∃ zz, zz = (upd (zA (zsA (zNew T q12 13 19) q12 f23) q12) (11 : Int32).toNatClampNeg 32) := ⟨_, rfl⟩
    rw [← ef24, zsA_zsA] at hw
    clear ef24
    refine lv_dup hx hb_ dX12_init_169 rfl ?_
    refine lv_bipush (v := 12) hx hb_ dX12_init_170 (by decide) ?_
    refine lv_iconst (v := 0) hx hb_ dX12_init_172 (by decide) ?_
    refine z_iast (n := 19) hcf hK_ hw hL_q12 hk_q12 hn_q12 (by unfold vp_in; decide) dX12_init_173 (fun H_ locs_ hw => ?_)
    obtain ⟨f25, ef25⟩ : ∃ zz, zz = (upd (zA (zsA (zNew T q12 13 19) q12 f24) q12) (12 : Int32).toNatClampNeg 0) := ⟨_, rfl⟩
    rw [← ef25, zsA_zsA] at hw
    clear ef25
    refine lv_dup hx hb_ dX12_init_174 rfl ?_
    refine lv_bipush (v := 13) hx hb_ dX12_init_175 (by decide) ?_
    refine lv_bipush (v := 108) hx hb_ dX12_init_177 (by decide) ?_
    refine z_iast (n := 19) hcf hK_ hw hL_q12 hk_q12 hn_q12 (by unfold vp_in; decide) dX12_init_179 (fun H_ locs_ hw => ?_)
    obtain ⟨f26, ef26⟩ : ∃ zz, zz = (upd (zA (zsA (zNew T q12 13 19) q12 f25) q12) (13 : Int32).toNatClampNeg 108) := ⟨_, rfl⟩
    rw [← ef26, zsA_zsA] at hw
    clear ef26
    refine lv_dup hx hb_ dX12_init_180 rfl ?_
    refine lv_bipush (v := 14) hx hb_ dX12_init_181 (by decide) ?_
    refine lv_bipush (v := 101) hx hb_ dX12_init_183 (by decide) ?_
    refine z_iast (n := 19) hcf hK_ hw hL_q12 hk_q12 hn_q12 (by unfold vp_in; decide) dX12_init_185 (fun H_ locs_ hw => ?_)
    obtain ⟨f27, ef27⟩ : ∃ zz, zz = (upd (zA (zsA (zNew T q12 13 19) q12 f26) q12) (14 : Int32).toNatClampNeg 101) := ⟨_, rfl⟩
    rw [← ef27, zsA_zsA] at hw
    clear ef27
    refine lv_dup hx hb_ dX12_init_186 rfl ?_
    refine lv_bipush (v := 15) hx hb_ dX12_init_187 (by decide) ?_
    refine lv_bipush (v := 115) hx hb_ dX12_init_189 (by decide) ?_
    refine z_iast (n := 19) hcf hK_ hw hL_q12 hk_q12 hn_q12 (by unfold vp_in; decide) dX12_init_191 (fun H_ locs_ hw => ?_)
    obtain ⟨f28, ef28⟩ : ∃ zz, zz = (upd (zA (zsA (zNew T q12 13 19) q12 f27) q12) (15 : Int32).toNatClampNeg 115) := ⟨_, rfl⟩
    rw [← ef28, zsA_zsA] at hw
    clear ef28
    refine lv_dup hx hb_ dX12_init_192 rfl ?_
    refine lv_bipush (v := 16) hx hb_ dX12_init_193 (by decide) ?_
    refine lv_bipush (v := 115) hx hb_ dX12_init_195 (by decide) ?_
    refine z_iast (n := 19) hcf hK_ hw hL_q12 hk_q12 hn_q12 (by unfold vp_in; decide) dX12_init_197 (fun H_ locs_ hw => ?_)
    obtain ⟨f29, ef29⟩ : ∃ zz, zz = (upd (zA (zsA (zNew T q12 13 19) q12 f28) q12) (16 : Int32).toNatClampNeg 115) := ⟨_, rfl⟩
    rw [← ef29, zsA_zsA] at hw
    clear ef29
    refine lv_dup hx hb_ dX12_init_198 rfl ?_
    refine lv_bipush (v := 17) hx hb_ dX12_init_199 (by decide) ?_
    refine lv_bipush (v := 32) hx hb_ dX12_init_201 (by decide) ?_
    refine z_iast (n := 19) hcf hK_ hw hL_q12 hk_q12 hn_q12 (by unfold vp_in; decide) dX12_init_203 (fun H_ locs_ hw => ?_)
    obtain ⟨f30, ef30⟩ : ∃ zz, zz = (upd (zA (zsA (zNew T q12 13 19) q12 f29) q12) (17 : Int32).toNatClampNeg 32) := ⟨_, rfl⟩
    rw [← ef30, zsA_zsA] at hw
    clear ef30
    refine lv_dup hx hb_ dX12_init_204 rfl ?_
    refine lv_bipush (v := 18) hx hb_ dX12_init_205 (by decide) ?_
    refine lv_iconst (v := 0) hx hb_ dX12_init_207 (by decide) ?_
    refine z_iast (n := 19) hcf hK_ hw hL_q12 hk_q12 hn_q12 (by unfold vp_in; decide) dX12_init_208 (fun H_ locs_ hw => ?_)
    obtain ⟨f31, ef31⟩ : ∃ zz, zz = (upd (zA (zsA (zNew T q12 13 19) q12 f30) q12) (18 : Int32).toNatClampNeg 0) := ⟨_, rfl⟩
    rw [← ef31, zsA_zsA] at hw
    clear ef31
    refine z_putQF (k := 12) (i := 13) (j := 1213) (x := (some q12)) (v := .ref q12) (ty := (.array .int)) (ref := "FoldedInHalfModel") (C := RX12) (T := TX12) (N := 56) tyX12 hcf hK_ hw hin12 tyX12_ok nmX12 hL hk rfl (by decide) (by decide) rfl rfl (List.mem_of_getElem? (i := 18) rfl) (fun _ h_ => h_) rfl hnm rfl rfl (by decide +kernel) rfl rfl dX12_init_209 (fun H_ locs_ hw => ?_)
    exact J13 (zro ro 13 q12) h0 (zsQ (zsA (zNew T q12 13 19) q12 f31) 1213 (ro 0) (some q12)) (zIv_Q (j := 1213) (o := 0) (t0 := 13) (zIv_A (zIv_sub (Z1 := [12, 11, 10, 9, 8, 7, 6, 5, 4, 3, 2]) (P1 := [(1212, 0, 12), (1211, 0, 11), (1210, 0, 10), (1209, 0, 9), (1208, 0, 8), (1207, 0, 7), (1206, 0, 6), (1205, 0, 5), (1204, 0, 4), (1203, 0, 3), (1202, 0, 2)]) (V1 := [(1201, 0, (-1)), (1200, 0, 0), (1249, 0, 0), (1254, 0, 0), (1255, 0, 0)]) (Nn1 := [13, 12, 11, 10, 9, 8, 7, 6, 5, 4, 3, 2]) (zIv_new (hv) (by decide +kernel) hq_q12 (by decide)) (by decide) (by decide) (by decide) (by decide)) (by decide +kernel) (o := 13) (by decide) (by decide)) (by decide +kernel) (by decide) (by decide)) _ _ hw ls hl
  have J11 : ∀ (ro : Nat → Nat), ro 0 = x0 → ∀ (T : zS), zIv ro [(11, 14, 1280), (10, 13, 8), (9, 13, 8), (8, 13, 8), (7, 13, 8), (6, 14, 8), (5, 13, 8), (4, 13, 8), (3, 13, 8), (2, 13, 8), (0, 12, 0)] [(1211, 0, 11), (1210, 0, 10), (1209, 0, 9), (1208, 0, 8), (1207, 0, 7), (1206, 0, 6), (1205, 0, 5), (1204, 0, 4), (1203, 0, 3), (1202, 0, 2)] [(1201, 0, (-1)), (1200, 0, 0), (1249, 0, 0), (1254, 0, 0), (1255, 0, 0)] [11, 10, 9, 8, 7, 6, 5, 4, 3, 2] [] [11, 10, 9, 8, 7, 6, 5, 4, 3, 2] T → ∀ (H_ : Heap) (locs_ : List Loc), zPw cD cy A_ s_.heap T H_ locs_ → ∀ ls : Array Slot, lv_has ls 1 [(0, .ref (ro 0))] → W p_ l e_ ({ frames := 1, cells := 38, slots := 69369, locals := 20 } : Room) s_ m_ args_ below_ meth_ c_ H_ locs_ 10 1352 (MQ below_ (va_Qv (fun (S1 : zS) => ∃ r_ : Nat → Nat, r_ 0 = x0 ∧ ShM S1 r_ ∧ FrM S1 r_) (zPost cD cy A_) A_) args_ s_ 38 69369 A_) (F0 m_ 90 ls []) := by
    intro ro h0 T hv H_ locs_ hw ls hl
    have hL : ro 0 ∈ zL T := hv.rl (by decide)
    have hk : zK T (ro 0) = 12 := hv.k (o := 0) (n := 0) (by decide)
    refine lv_aload_n hx hb_ dX12_init_90 rfl (lv_at hl 0 rfl) ?_
    refine lv_sipush (v := 160) hx hb_ dX12_init_91 (by decide) ?_
    refine z_newl (N' := 160) hcf hK_ hw hA (List.mem_of_getElem? (i := 10) rfl) (by decide) (by decide) (by decide) (Nat.le_of_ble_eq_true rfl) (Nat.le_of_ble_eq_true rfl) dX12_init_94 (fun q11 H_ hq_q11 hw => ?_)
    have hne_ro0_q11 : (ro 0) ≠ q11 := fun e_ => hq_q11 (e_ ▸ hL)
    have hk : zK (zNew T q11 14 160) (ro 0) = 12 := (va_up_ne _ _ hne_ro0_q11).trans hk
    have hL : (ro 0) ∈ zL (zNew T q11 14 160) := List.mem_append_left _ hL
    have hL_q11 : q11 ∈ zL (zNew T q11 14 160) := zNew_m
    have hk_q11 : zK (zNew T q11 14 160) q11 = 14 := zNew_K
    have hn_q11 : zN (zNew T q11 14 160) q11 = 160 := zNew_N
    refine z_putQF (k := 12) (i := 12) (j := 1212) (x := (some q11)) (v := .ref q11) (ty := (.array .long)) (ref := "FoldedInHalfModel") (C := RX12) (T := TX12) (N := 56) tyX12 hcf hK_ hw hin12 tyX12_ok nmX12 hL hk rfl (by decide) (by decide) rfl rfl (List.mem_of_getElem? (i := 17) rfl) (fun _ h_ => h_) rfl hnm rfl rfl (by decide +kernel) rfl rfl dX12_init_96 (fun H_ locs_ hw => ?_)
    exact J12 (zro ro 12 q11) h0 (zsQ (zNew T q11 14 160) 1212 (ro 0) (some q11)) (zIv_Q (j := 1212) (o := 0) (t0 := 12) (zIv_new (hv) (by decide +kernel) hq_q11 (by decide)) (by decide +kernel) (by decide) (by decide)) _ _ hw ls hl
  have J10 : ∀ (ro : Nat → Nat), ro 0 = x0 → ∀ (T : zS), zIv ro [(10, 13, 8), (9, 13, 8), (8, 13, 8), (7, 13, 8), (6, 14, 8), (5, 13, 8), (4, 13, 8), (3, 13, 8), (2, 13, 8), (0, 12, 0)] [(1210, 0, 10), (1209, 0, 9), (1208, 0, 8), (1207, 0, 7), (1206, 0, 6), (1205, 0, 5), (1204, 0, 4), (1203, 0, 3), (1202, 0, 2)] [(1201, 0, (-1)), (1200, 0, 0), (1249, 0, 0), (1254, 0, 0), (1255, 0, 0)] [10, 9, 8, 7, 6, 5, 4, 3, 2] [] [10, 9, 8, 7, 6, 5, 4, 3, 2] T → ∀ (H_ : Heap) (locs_ : List Loc), zPw cD cy A_ s_.heap T H_ locs_ → ∀ ls : Array Slot, lv_has ls 1 [(0, .ref (ro 0))] → W p_ l e_ ({ frames := 1, cells := 38, slots := 69369, locals := 20 } : Room) s_ m_ args_ below_ meth_ c_ H_ locs_ 9 72 (MQ below_ (va_Qv (fun (S1 : zS) => ∃ r_ : Nat → Nat, r_ 0 = x0 ∧ ShM S1 r_ ∧ FrM S1 r_) (zPost cD cy A_) A_) args_ s_ 38 69369 A_) (F0 m_ 81 ls []) := by
    intro ro h0 T hv H_ locs_ hw ls hl
    have hL : ro 0 ∈ zL T := hv.rl (by decide)
    have hk : zK T (ro 0) = 12 := hv.k (o := 0) (n := 0) (by decide)
    refine lv_aload_n hx hb_ dX12_init_81 rfl (lv_at hl 0 rfl) ?_
    refine lv_sipush (v := 1280) hx hb_ dX12_init_82 (by decide) ?_
    refine z_newl (N' := 1280) hcf hK_ hw hA (List.mem_of_getElem? (i := 10) rfl) (by decide) (by decide) (by decide) (Nat.le_of_ble_eq_true rfl) (Nat.le_of_ble_eq_true rfl) dX12_init_85 (fun q10 H_ hq_q10 hw => ?_)
    have hne_ro0_q10 : (ro 0) ≠ q10 := fun e_ => hq_q10 (e_ ▸ hL)
    have hk : zK (zNew T q10 14 1280) (ro 0) = 12 := (va_up_ne _ _ hne_ro0_q10).trans hk
    have hL : (ro 0) ∈ zL (zNew T q10 14 1280) := List.mem_append_left _ hL
    have hL_q10 : q10 ∈ zL (zNew T q10 14 1280) := zNew_m
    have hk_q10 : zK (zNew T q10 14 1280) q10 = 14 := zNew_K
    have hn_q10 : zN (zNew T q10 14 1280) q10 = 1280 := zNew_N
    refine z_putQF (k := 12) (i := 11) (j := 1211) (x := (some q10)) (v := .ref q10) (ty := (.array .long)) (ref := "FoldedInHalfModel") (C := RX12) (T := TX12) (N := 56) tyX12 hcf hK_ hw hin12 tyX12_ok nmX12 hL hk rfl (by decide) (by decide) rfl rfl (List.mem_of_getElem? (i := 16) rfl) (fun _ h_ => h_) rfl hnm rfl rfl (by decide +kernel) rfl rfl dX12_init_87 (fun H_ locs_ hw => ?_)
    exact J11 (zro ro 11 q10) h0 (zsQ (zNew T q10 14 1280) 1211 (ro 0) (some q10)) (zIv_Q (j := 1211) (o := 0) (t0 := 11) (zIv_new (hv) (by decide +kernel) hq_q10 (by decide)) (by decide +kernel) (by decide) (by decide)) _ _ hw ls hl
  have J9 : ∀ (ro : Nat → Nat), ro 0 = x0 → ∀ (T : zS), zIv ro [(9, 13, 8), (8, 13, 8), (7, 13, 8), (6, 14, 8), (5, 13, 8), (4, 13, 8), (3, 13, 8), (2, 13, 8), (0, 12, 0)] [(1209, 0, 9), (1208, 0, 8), (1207, 0, 7), (1206, 0, 6), (1205, 0, 5), (1204, 0, 4), (1203, 0, 3), (1202, 0, 2)] [(1201, 0, (-1)), (1200, 0, 0), (1249, 0, 0), (1254, 0, 0), (1255, 0, 0)] [9, 8, 7, 6, 5, 4, 3, 2] [] [9, 8, 7, 6, 5, 4, 3, 2] T → ∀ (H_ : Heap) (locs_ : List Loc), zPw cD cy A_ s_.heap T H_ locs_ → ∀ ls : Array Slot, lv_has ls 1 [(0, .ref (ro 0))] → W p_ l e_ ({ frames := 1, cells := 38, slots := 69369, locals := 20 } : Room) s_ m_ args_ below_ meth_ c_ H_ locs_ 8 64 (MQ below_ (va_Qv (fun (S1 : zS) => ∃ r_ : Nat → Nat, r_ 0 = x0 ∧ ShM S1 r_ ∧ FrM S1 r_) (zPost cD cy A_) A_) args_ s_ 38 69369 A_) (F0 m_ 73 ls []) := by
    intro ro h0 T hv H_ locs_ hw ls hl
    have hL : ro 0 ∈ zL T := hv.rl (by decide)
    have hk : zK T (ro 0) = 12 := hv.k (o := 0) (n := 0) (by decide)
    refine lv_aload_n hx hb_ dX12_init_73 rfl (lv_at hl 0 rfl) ?_
    refine lv_bipush (v := 8) hx hb_ dX12_init_74 (by decide) ?_
    refine z_newi (N' := 8) hcf hK_ hw hA (List.mem_of_getElem? (i := 5) rfl) (by decide) (by decide) (by decide) (Nat.le_of_ble_eq_true rfl) (Nat.le_of_ble_eq_true rfl) dX12_init_76 (fun q9 H_ hq_q9 hw => ?_)
    have hne_ro0_q9 : (ro 0) ≠ q9 := fun e_ => hq_q9 (e_ ▸ hL)
    have hk : zK (zNew T q9 13 8) (ro 0) = 12 := (va_up_ne _ _ hne_ro0_q9).trans hk
    have hL : (ro 0) ∈ zL (zNew T q9 13 8) := List.mem_append_left _ hL
    have hL_q9 : q9 ∈ zL (zNew T q9 13 8) := zNew_m
    have hk_q9 : zK (zNew T q9 13 8) q9 = 13 := zNew_K
    have hn_q9 : zN (zNew T q9 13 8) q9 = 8 := zNew_N
    refine z_putQF (k := 12) (i := 10) (j := 1210) (x := (some q9)) (v := .ref q9) (ty := (.array .int)) (ref := "FoldedInHalfModel") (C := RX12) (T := TX12) (N := 56) tyX12 hcf hK_ hw hin12 tyX12_ok nmX12 hL hk rfl (by decide) (by decide) rfl rfl (List.mem_of_getElem? (i := 15) rfl) (fun _ h_ => h_) rfl hnm rfl rfl (by decide +kernel) rfl rfl dX12_init_78 (fun H_ locs_ hw => ?_)
    exact J10 (zro ro 10 q9) h0 (zsQ (zNew T q9 13 8) 1210 (ro 0) (some q9)) (zIv_Q (j := 1210) (o := 0) (t0 := 10) (zIv_new (hv) (by decide +kernel) hq_q9 (by decide)) (by decide +kernel) (by decide) (by decide)) _ _ hw ls hl
  have J8 : ∀ (ro : Nat → Nat), ro 0 = x0 → ∀ (T : zS), zIv ro [(8, 13, 8), (7, 13, 8), (6, 14, 8), (5, 13, 8), (4, 13, 8), (3, 13, 8), (2, 13, 8), (0, 12, 0)] [(1208, 0, 8), (1207, 0, 7), (1206, 0, 6), (1205, 0, 5), (1204, 0, 4), (1203, 0, 3), (1202, 0, 2)] [(1201, 0, (-1)), (1200, 0, 0), (1249, 0, 0), (1254, 0, 0), (1255, 0, 0)] [8, 7, 6, 5, 4, 3, 2] [] [8, 7, 6, 5, 4, 3, 2] T → ∀ (H_ : Heap) (locs_ : List Loc), zPw cD cy A_ s_.heap T H_ locs_ → ∀ ls : Array Slot, lv_has ls 1 [(0, .ref (ro 0))] → W p_ l e_ ({ frames := 1, cells := 38, slots := 69369, locals := 20 } : Room) s_ m_ args_ below_ meth_ c_ H_ locs_ 7 56 (MQ below_ (va_Qv (fun (S1 : zS) => ∃ r_ : Nat → Nat, r_ 0 = x0 ∧ ShM S1 r_ ∧ FrM S1 r_) (zPost cD cy A_) A_) args_ s_ 38 69369 A_) (F0 m_ 65 ls []) := by
    intro ro h0 T hv H_ locs_ hw ls hl
    have hL : ro 0 ∈ zL T := hv.rl (by decide)
    have hk : zK T (ro 0) = 12 := hv.k (o := 0) (n := 0) (by decide)
    refine lv_aload_n hx hb_ dX12_init_65 rfl (lv_at hl 0 rfl) ?_
    refine lv_bipush (v := 8) hx hb_ dX12_init_66 (by decide) ?_
    refine z_newi (N' := 8) hcf hK_ hw hA (List.mem_of_getElem? (i := 5) rfl) (by decide) (by decide) (by decide) (Nat.le_of_ble_eq_true rfl) (Nat.le_of_ble_eq_true rfl) dX12_init_68 (fun q8 H_ hq_q8 hw => ?_)
    have hne_ro0_q8 : (ro 0) ≠ q8 := fun e_ => hq_q8 (e_ ▸ hL)
    have hk : zK (zNew T q8 13 8) (ro 0) = 12 := (va_up_ne _ _ hne_ro0_q8).trans hk
    have hL : (ro 0) ∈ zL (zNew T q8 13 8) := List.mem_append_left _ hL
    have hL_q8 : q8 ∈ zL (zNew T q8 13 8) := zNew_m
    have hk_q8 : zK (zNew T q8 13 8) q8 = 13 := zNew_K
    have hn_q8 : zN (zNew T q8 13 8) q8 = 8 := zNew_N
    refine z_putQF (k := 12) (i := 9) (j := 1209) (x := (some q8)) (v := .ref q8) (ty := (.array .int)) (ref := "FoldedInHalfModel") (C := RX12) (T := TX12) (N := 56) tyX12 hcf hK_ hw hin12 tyX12_ok nmX12 hL hk rfl (by decide) (by decide) rfl rfl (List.mem_of_getElem? (i := 14) rfl) (fun _ h_ => h_) rfl hnm rfl rfl (by decide +kernel) rfl rfl dX12_init_70 (fun H_ locs_ hw => ?_)
    exact J9 (zro ro 9 q8) h0 (zsQ (zNew T q8 13 8) 1209 (ro 0) (some q8)) (zIv_Q (j := 1209) (o := 0) (t0 := 9) (zIv_new (hv) (by decide +kernel) hq_q8 (by decide)) (by decide +kernel) (by decide) (by decide)) _ _ hw ls hl
  have J7 : ∀ (ro : Nat → Nat), ro 0 = x0 → ∀ (T : zS), zIv ro [(7, 13, 8), (6, 14, 8), (5, 13, 8), (4, 13, 8), (3, 13, 8), (2, 13, 8), (0, 12, 0)] [(1207, 0, 7), (1206, 0, 6), (1205, 0, 5), (1204, 0, 4), (1203, 0, 3), (1202, 0, 2)] [(1201, 0, (-1)), (1200, 0, 0), (1249, 0, 0), (1254, 0, 0), (1255, 0, 0)] [7, 6, 5, 4, 3, 2] [] [7, 6, 5, 4, 3, 2] T → ∀ (H_ : Heap) (locs_ : List Loc), zPw cD cy A_ s_.heap T H_ locs_ → ∀ ls : Array Slot, lv_has ls 1 [(0, .ref (ro 0))] → W p_ l e_ ({ frames := 1, cells := 38, slots := 69369, locals := 20 } : Room) s_ m_ args_ below_ meth_ c_ H_ locs_ 6 48 (MQ below_ (va_Qv (fun (S1 : zS) => ∃ r_ : Nat → Nat, r_ 0 = x0 ∧ ShM S1 r_ ∧ FrM S1 r_) (zPost cD cy A_) A_) args_ s_ 38 69369 A_) (F0 m_ 57 ls []) := by
    intro ro h0 T hv H_ locs_ hw ls hl
    have hL : ro 0 ∈ zL T := hv.rl (by decide)
    have hk : zK T (ro 0) = 12 := hv.k (o := 0) (n := 0) (by decide)
    refine lv_aload_n hx hb_ dX12_init_57 rfl (lv_at hl 0 rfl) ?_
    refine lv_bipush (v := 8) hx hb_ dX12_init_58 (by decide) ?_
    refine z_newi (N' := 8) hcf hK_ hw hA (List.mem_of_getElem? (i := 5) rfl) (by decide) (by decide) (by decide) (Nat.le_of_ble_eq_true rfl) (Nat.le_of_ble_eq_true rfl) dX12_init_60 (fun q7 H_ hq_q7 hw => ?_)
    have hne_ro0_q7 : (ro 0) ≠ q7 := fun e_ => hq_q7 (e_ ▸ hL)
    have hk : zK (zNew T q7 13 8) (ro 0) = 12 := (va_up_ne _ _ hne_ro0_q7).trans hk
    have hL : (ro 0) ∈ zL (zNew T q7 13 8) := List.mem_append_left _ hL
    have hL_q7 : q7 ∈ zL (zNew T q7 13 8) := zNew_m
    have hk_q7 : zK (zNew T q7 13 8) q7 = 13 := zNew_K
    have hn_q7 : zN (zNew T q7 13 8) q7 = 8 := zNew_N
    refine z_putQF (k := 12) (i := 8) (j := 1208) (x := (some q7)) (v := .ref q7) (ty := (.array .int)) (ref := "FoldedInHalfModel") (C := RX12) (T := TX12) (N := 56) tyX12 hcf hK_ hw hin12 tyX12_ok nmX12 hL hk rfl (by decide) (by decide) rfl rfl (List.mem_of_getElem? (i := 13) rfl) (fun _ h_ => h_) rfl hnm rfl rfl (by decide +kernel) rfl rfl dX12_init_62 (fun H_ locs_ hw => ?_)
    exact J8 (zro ro 8 q7) h0 (zsQ (zNew T q7 13 8) 1208 (ro 0) (some q7)) (zIv_Q (j := 1208) (o := 0) (t0 := 8) (zIv_new (hv) (by decide +kernel) hq_q7 (by decide)) (by decide +kernel) (by decide) (by decide)) _ _ hw ls hl
  have J6 : ∀ (ro : Nat → Nat), ro 0 = x0 → ∀ (T : zS), zIv ro [(6, 14, 8), (5, 13, 8), (4, 13, 8), (3, 13, 8), (2, 13, 8), (0, 12, 0)] [(1206, 0, 6), (1205, 0, 5), (1204, 0, 4), (1203, 0, 3), (1202, 0, 2)] [(1201, 0, (-1)), (1200, 0, 0), (1249, 0, 0), (1254, 0, 0), (1255, 0, 0)] [6, 5, 4, 3, 2] [] [6, 5, 4, 3, 2] T → ∀ (H_ : Heap) (locs_ : List Loc), zPw cD cy A_ s_.heap T H_ locs_ → ∀ ls : Array Slot, lv_has ls 1 [(0, .ref (ro 0))] → W p_ l e_ ({ frames := 1, cells := 38, slots := 69369, locals := 20 } : Room) s_ m_ args_ below_ meth_ c_ H_ locs_ 5 40 (MQ below_ (va_Qv (fun (S1 : zS) => ∃ r_ : Nat → Nat, r_ 0 = x0 ∧ ShM S1 r_ ∧ FrM S1 r_) (zPost cD cy A_) A_) args_ s_ 38 69369 A_) (F0 m_ 49 ls []) := by
    intro ro h0 T hv H_ locs_ hw ls hl
    have hL : ro 0 ∈ zL T := hv.rl (by decide)
    have hk : zK T (ro 0) = 12 := hv.k (o := 0) (n := 0) (by decide)
    refine lv_aload_n hx hb_ dX12_init_49 rfl (lv_at hl 0 rfl) ?_
    refine lv_bipush (v := 8) hx hb_ dX12_init_50 (by decide) ?_
    refine z_newi (N' := 8) hcf hK_ hw hA (List.mem_of_getElem? (i := 5) rfl) (by decide) (by decide) (by decide) (Nat.le_of_ble_eq_true rfl) (Nat.le_of_ble_eq_true rfl) dX12_init_52 (fun q6 H_ hq_q6 hw => ?_)
    have hne_ro0_q6 : (ro 0) ≠ q6 := fun e_ => hq_q6 (e_ ▸ hL)
    have hk : zK (zNew T q6 13 8) (ro 0) = 12 := (va_up_ne _ _ hne_ro0_q6).trans hk
    have hL : (ro 0) ∈ zL (zNew T q6 13 8) := List.mem_append_left _ hL
    have hL_q6 : q6 ∈ zL (zNew T q6 13 8) := zNew_m
    have hk_q6 : zK (zNew T q6 13 8) q6 = 13 := zNew_K
    have hn_q6 : zN (zNew T q6 13 8) q6 = 8 := zNew_N
    refine z_putQF (k := 12) (i := 7) (j := 1207) (x := (some q6)) (v := .ref q6) (ty := (.array .int)) (ref := "FoldedInHalfModel") (C := RX12) (T := TX12) (N := 56) tyX12 hcf hK_ hw hin12 tyX12_ok nmX12 hL hk rfl (by decide) (by decide) rfl rfl (List.mem_of_getElem? (i := 12) rfl) (fun _ h_ => h_) rfl hnm rfl rfl (by decide +kernel) rfl rfl dX12_init_54 (fun H_ locs_ hw => ?_)
    exact J7 (zro ro 7 q6) h0 (zsQ (zNew T q6 13 8) 1207 (ro 0) (some q6)) (zIv_Q (j := 1207) (o := 0) (t0 := 7) (zIv_new (hv) (by decide +kernel) hq_q6 (by decide)) (by decide +kernel) (by decide) (by decide)) _ _ hw ls hl
  have J5 : ∀ (ro : Nat → Nat), ro 0 = x0 → ∀ (T : zS), zIv ro [(5, 13, 8), (4, 13, 8), (3, 13, 8), (2, 13, 8), (0, 12, 0)] [(1205, 0, 5), (1204, 0, 4), (1203, 0, 3), (1202, 0, 2)] [(1201, 0, (-1)), (1200, 0, 0), (1249, 0, 0), (1254, 0, 0), (1255, 0, 0)] [5, 4, 3, 2] [] [5, 4, 3, 2] T → ∀ (H_ : Heap) (locs_ : List Loc), zPw cD cy A_ s_.heap T H_ locs_ → ∀ ls : Array Slot, lv_has ls 1 [(0, .ref (ro 0))] → W p_ l e_ ({ frames := 1, cells := 38, slots := 69369, locals := 20 } : Room) s_ m_ args_ below_ meth_ c_ H_ locs_ 4 32 (MQ below_ (va_Qv (fun (S1 : zS) => ∃ r_ : Nat → Nat, r_ 0 = x0 ∧ ShM S1 r_ ∧ FrM S1 r_) (zPost cD cy A_) A_) args_ s_ 38 69369 A_) (F0 m_ 41 ls []) := by
    intro ro h0 T hv H_ locs_ hw ls hl
    have hL : ro 0 ∈ zL T := hv.rl (by decide)
    have hk : zK T (ro 0) = 12 := hv.k (o := 0) (n := 0) (by decide)
    refine lv_aload_n hx hb_ dX12_init_41 rfl (lv_at hl 0 rfl) ?_
    refine lv_bipush (v := 8) hx hb_ dX12_init_42 (by decide) ?_
    refine z_newl (N' := 8) hcf hK_ hw hA (List.mem_of_getElem? (i := 10) rfl) (by decide) (by decide) (by decide) (Nat.le_of_ble_eq_true rfl) (Nat.le_of_ble_eq_true rfl) dX12_init_44 (fun q5 H_ hq_q5 hw => ?_)
    have hne_ro0_q5 : (ro 0) ≠ q5 := fun e_ => hq_q5 (e_ ▸ hL)
    have hk : zK (zNew T q5 14 8) (ro 0) = 12 := (va_up_ne _ _ hne_ro0_q5).trans hk
    have hL : (ro 0) ∈ zL (zNew T q5 14 8) := List.mem_append_left _ hL
    have hL_q5 : q5 ∈ zL (zNew T q5 14 8) := zNew_m
    have hk_q5 : zK (zNew T q5 14 8) q5 = 14 := zNew_K
    have hn_q5 : zN (zNew T q5 14 8) q5 = 8 := zNew_N
    refine z_putQF (k := 12) (i := 6) (j := 1206) (x := (some q5)) (v := .ref q5) (ty := (.array .long)) (ref := "FoldedInHalfModel") (C := RX12) (T := TX12) (N := 56) tyX12 hcf hK_ hw hin12 tyX12_ok nmX12 hL hk rfl (by decide) (by decide) rfl rfl (List.mem_of_getElem? (i := 11) rfl) (fun _ h_ => h_) rfl hnm rfl rfl (by decide +kernel) rfl rfl dX12_init_46 (fun H_ locs_ hw => ?_)
    exact J6 (zro ro 6 q5) h0 (zsQ (zNew T q5 14 8) 1206 (ro 0) (some q5)) (zIv_Q (j := 1206) (o := 0) (t0 := 6) (zIv_new (hv) (by decide +kernel) hq_q5 (by decide)) (by decide +kernel) (by decide) (by decide)) _ _ hw ls hl
  have J4 : ∀ (ro : Nat → Nat), ro 0 = x0 → ∀ (T : zS), zIv ro [(4, 13, 8), (3, 13, 8), (2, 13, 8), (0, 12, 0)] [(1204, 0, 4), (1203, 0, 3), (1202, 0, 2)] [(1201, 0, (-1)), (1200, 0, 0), (1249, 0, 0), (1254, 0, 0), (1255, 0, 0)] [4, 3, 2] [] [4, 3, 2] T → ∀ (H_ : Heap) (locs_ : List Loc), zPw cD cy A_ s_.heap T H_ locs_ → ∀ ls : Array Slot, lv_has ls 1 [(0, .ref (ro 0))] → W p_ l e_ ({ frames := 1, cells := 38, slots := 69369, locals := 20 } : Room) s_ m_ args_ below_ meth_ c_ H_ locs_ 3 24 (MQ below_ (va_Qv (fun (S1 : zS) => ∃ r_ : Nat → Nat, r_ 0 = x0 ∧ ShM S1 r_ ∧ FrM S1 r_) (zPost cD cy A_) A_) args_ s_ 38 69369 A_) (F0 m_ 33 ls []) := by
    intro ro h0 T hv H_ locs_ hw ls hl
    have hL : ro 0 ∈ zL T := hv.rl (by decide)
    have hk : zK T (ro 0) = 12 := hv.k (o := 0) (n := 0) (by decide)
    refine lv_aload_n hx hb_ dX12_init_33 rfl (lv_at hl 0 rfl) ?_
    refine lv_bipush (v := 8) hx hb_ dX12_init_34 (by decide) ?_
    refine z_newi (N' := 8) hcf hK_ hw hA (List.mem_of_getElem? (i := 5) rfl) (by decide) (by decide) (by decide) (Nat.le_of_ble_eq_true rfl) (Nat.le_of_ble_eq_true rfl) dX12_init_36 (fun q4 H_ hq_q4 hw => ?_)
    have hne_ro0_q4 : (ro 0) ≠ q4 := fun e_ => hq_q4 (e_ ▸ hL)
    have hk : zK (zNew T q4 13 8) (ro 0) = 12 := (va_up_ne _ _ hne_ro0_q4).trans hk
    have hL : (ro 0) ∈ zL (zNew T q4 13 8) := List.mem_append_left _ hL
    have hL_q4 : q4 ∈ zL (zNew T q4 13 8) := zNew_m
    have hk_q4 : zK (zNew T q4 13 8) q4 = 13 := zNew_K
    have hn_q4 : zN (zNew T q4 13 8) q4 = 8 := zNew_N
    refine z_putQF (k := 12) (i := 5) (j := 1205) (x := (some q4)) (v := .ref q4) (ty := (.array .int)) (ref := "FoldedInHalfModel") (C := RX12) (T := TX12) (N := 56) tyX12 hcf hK_ hw hin12 tyX12_ok nmX12 hL hk rfl (by decide) (by decide) rfl rfl (List.mem_of_getElem? (i := 9) rfl) (fun _ h_ => h_) rfl hnm rfl rfl (by decide +kernel) rfl rfl dX12_init_38 (fun H_ locs_ hw => ?_)
    exact J5 (zro ro 5 q4) h0 (zsQ (zNew T q4 13 8) 1205 (ro 0) (some q4)) (zIv_Q (j := 1205) (o := 0) (t0 := 5) (zIv_new (hv) (by decide +kernel) hq_q4 (by decide)) (by decide +kernel) (by decide) (by decide)) _ _ hw ls hl
  have J3 : ∀ (ro : Nat → Nat), ro 0 = x0 → ∀ (T : zS), zIv ro [(3, 13, 8), (2, 13, 8), (0, 12, 0)] [(1203, 0, 3), (1202, 0, 2)] [(1201, 0, (-1)), (1200, 0, 0), (1249, 0, 0), (1254, 0, 0), (1255, 0, 0)] [3, 2] [] [3, 2] T → ∀ (H_ : Heap) (locs_ : List Loc), zPw cD cy A_ s_.heap T H_ locs_ → ∀ ls : Array Slot, lv_has ls 1 [(0, .ref (ro 0))] → W p_ l e_ ({ frames := 1, cells := 38, slots := 69369, locals := 20 } : Room) s_ m_ args_ below_ meth_ c_ H_ locs_ 2 16 (MQ below_ (va_Qv (fun (S1 : zS) => ∃ r_ : Nat → Nat, r_ 0 = x0 ∧ ShM S1 r_ ∧ FrM S1 r_) (zPost cD cy A_) A_) args_ s_ 38 69369 A_) (F0 m_ 25 ls []) := by
    intro ro h0 T hv H_ locs_ hw ls hl
    have hL : ro 0 ∈ zL T := hv.rl (by decide)
    have hk : zK T (ro 0) = 12 := hv.k (o := 0) (n := 0) (by decide)
    refine lv_aload_n hx hb_ dX12_init_25 rfl (lv_at hl 0 rfl) ?_
    refine lv_bipush (v := 8) hx hb_ dX12_init_26 (by decide) ?_
    refine z_newi (N' := 8) hcf hK_ hw hA (List.mem_of_getElem? (i := 5) rfl) (by decide) (by decide) (by decide) (Nat.le_of_ble_eq_true rfl) (Nat.le_of_ble_eq_true rfl) dX12_init_28 (fun q3 H_ hq_q3 hw => ?_)
    have hne_ro0_q3 : (ro 0) ≠ q3 := fun e_ => hq_q3 (e_ ▸ hL)
    have hk : zK (zNew T q3 13 8) (ro 0) = 12 := (va_up_ne _ _ hne_ro0_q3).trans hk
    have hL : (ro 0) ∈ zL (zNew T q3 13 8) := List.mem_append_left _ hL
    have hL_q3 : q3 ∈ zL (zNew T q3 13 8) := zNew_m
    have hk_q3 : zK (zNew T q3 13 8) q3 = 13 := zNew_K
    have hn_q3 : zN (zNew T q3 13 8) q3 = 8 := zNew_N
    refine z_putQF (k := 12) (i := 4) (j := 1204) (x := (some q3)) (v := .ref q3) (ty := (.array .int)) (ref := "FoldedInHalfModel") (C := RX12) (T := TX12) (N := 56) tyX12 hcf hK_ hw hin12 tyX12_ok nmX12 hL hk rfl (by decide) (by decide) rfl rfl (List.mem_of_getElem? (i := 8) rfl) (fun _ h_ => h_) rfl hnm rfl rfl (by decide +kernel) rfl rfl dX12_init_30 (fun H_ locs_ hw => ?_)
    exact J4 (zro ro 4 q3) h0 (zsQ (zNew T q3 13 8) 1204 (ro 0) (some q3)) (zIv_Q (j := 1204) (o := 0) (t0 := 4) (zIv_new (hv) (by decide +kernel) hq_q3 (by decide)) (by decide +kernel) (by decide) (by decide)) _ _ hw ls hl
  have J2 : ∀ (ro : Nat → Nat), ro 0 = x0 → ∀ (T : zS), zIv ro [(2, 13, 8), (0, 12, 0)] [(1202, 0, 2)] [(1201, 0, (-1)), (1200, 0, 0), (1249, 0, 0), (1254, 0, 0), (1255, 0, 0)] [2] [] [2] T → ∀ (H_ : Heap) (locs_ : List Loc), zPw cD cy A_ s_.heap T H_ locs_ → ∀ ls : Array Slot, lv_has ls 1 [(0, .ref (ro 0))] → W p_ l e_ ({ frames := 1, cells := 38, slots := 69369, locals := 20 } : Room) s_ m_ args_ below_ meth_ c_ H_ locs_ 1 8 (MQ below_ (va_Qv (fun (S1 : zS) => ∃ r_ : Nat → Nat, r_ 0 = x0 ∧ ShM S1 r_ ∧ FrM S1 r_) (zPost cD cy A_) A_) args_ s_ 38 69369 A_) (F0 m_ 17 ls []) := by
    intro ro h0 T hv H_ locs_ hw ls hl
    have hL : ro 0 ∈ zL T := hv.rl (by decide)
    have hk : zK T (ro 0) = 12 := hv.k (o := 0) (n := 0) (by decide)
    refine lv_aload_n hx hb_ dX12_init_17 rfl (lv_at hl 0 rfl) ?_
    refine lv_bipush (v := 8) hx hb_ dX12_init_18 (by decide) ?_
    refine z_newi (N' := 8) hcf hK_ hw hA (List.mem_of_getElem? (i := 5) rfl) (by decide) (by decide) (by decide) (Nat.le_of_ble_eq_true rfl) (Nat.le_of_ble_eq_true rfl) dX12_init_20 (fun q2 H_ hq_q2 hw => ?_)
    have hne_ro0_q2 : (ro 0) ≠ q2 := fun e_ => hq_q2 (e_ ▸ hL)
    have hk : zK (zNew T q2 13 8) (ro 0) = 12 := (va_up_ne _ _ hne_ro0_q2).trans hk
    have hL : (ro 0) ∈ zL (zNew T q2 13 8) := List.mem_append_left _ hL
    have hL_q2 : q2 ∈ zL (zNew T q2 13 8) := zNew_m
    have hk_q2 : zK (zNew T q2 13 8) q2 = 13 := zNew_K
    have hn_q2 : zN (zNew T q2 13 8) q2 = 8 := zNew_N
    refine z_putQF (k := 12) (i := 3) (j := 1203) (x := (some q2)) (v := .ref q2) (ty := (.array .int)) (ref := "FoldedInHalfModel") (C := RX12) (T := TX12) (N := 56) tyX12 hcf hK_ hw hin12 tyX12_ok nmX12 hL hk rfl (by decide) (by decide) rfl rfl (List.mem_of_getElem? (i := 7) rfl) (fun _ h_ => h_) rfl hnm rfl rfl (by decide +kernel) rfl rfl dX12_init_22 (fun H_ locs_ hw => ?_)
    exact J3 (zro ro 3 q2) h0 (zsQ (zNew T q2 13 8) 1203 (ro 0) (some q2)) (zIv_Q (j := 1203) (o := 0) (t0 := 3) (zIv_new (hv) (by decide +kernel) hq_q2 (by decide)) (by decide +kernel) (by decide) (by decide)) _ _ hw ls hl
  have J1 : ∀ (ro : Nat → Nat), ro 0 = x0 → ∀ (T : zS), zIv ro [(0, 12, 0)] [] [(1201, 0, (-1)), (1200, 0, 0), (1249, 0, 0), (1254, 0, 0), (1255, 0, 0)] [] [] [] T → ∀ (H_ : Heap) (locs_ : List Loc), zPw cD cy A_ s_.heap T H_ locs_ → ∀ ls : Array Slot, lv_has ls 1 [(0, .ref (ro 0))] → W p_ l e_ ({ frames := 1, cells := 38, slots := 69369, locals := 20 } : Room) s_ m_ args_ below_ meth_ c_ H_ locs_ 0 0 (MQ below_ (va_Qv (fun (S1 : zS) => ∃ r_ : Nat → Nat, r_ 0 = x0 ∧ ShM S1 r_ ∧ FrM S1 r_) (zPost cD cy A_) A_) args_ s_ 38 69369 A_) (F0 m_ 9 ls []) := by
    intro ro h0 T hv H_ locs_ hw ls hl
    have hL : ro 0 ∈ zL T := hv.rl (by decide)
    have hk : zK T (ro 0) = 12 := hv.k (o := 0) (n := 0) (by decide)
    refine lv_aload_n hx hb_ dX12_init_9 rfl (lv_at hl 0 rfl) ?_
    refine lv_bipush (v := 8) hx hb_ dX12_init_10 (by decide) ?_
    refine z_newi (N' := 8) hcf hK_ hw hA (List.mem_of_getElem? (i := 5) rfl) (by decide) (by decide) (by decide) (Nat.le_of_ble_eq_true rfl) (Nat.le_of_ble_eq_true rfl) dX12_init_12 (fun q1 H_ hq_q1 hw => ?_)
    have hne_ro0_q1 : (ro 0) ≠ q1 := fun e_ => hq_q1 (e_ ▸ hL)
    have hk : zK (zNew T q1 13 8) (ro 0) = 12 := (va_up_ne _ _ hne_ro0_q1).trans hk
    have hL : (ro 0) ∈ zL (zNew T q1 13 8) := List.mem_append_left _ hL
    have hL_q1 : q1 ∈ zL (zNew T q1 13 8) := zNew_m
    have hk_q1 : zK (zNew T q1 13 8) q1 = 13 := zNew_K
    have hn_q1 : zN (zNew T q1 13 8) q1 = 8 := zNew_N
    refine z_putQF (k := 12) (i := 2) (j := 1202) (x := (some q1)) (v := .ref q1) (ty := (.array .int)) (ref := "FoldedInHalfModel") (C := RX12) (T := TX12) (N := 56) tyX12 hcf hK_ hw hin12 tyX12_ok nmX12 hL hk rfl (by decide) (by decide) rfl rfl (List.mem_of_getElem? (i := 6) rfl) (fun _ h_ => h_) rfl hnm rfl rfl (by decide +kernel) rfl rfl dX12_init_14 (fun H_ locs_ hw => ?_)
    exact J2 (zro ro 2 q1) h0 (zsQ (zNew T q1 13 8) 1202 (ro 0) (some q1)) (zIv_Q (j := 1202) (o := 0) (t0 := 2) (zIv_new (hv) (by decide +kernel) hq_q1 (by decide)) (by decide +kernel) (by decide) (by decide)) _ _ hw ls hl
  have J0 : ∀ (ro : Nat → Nat), ro 0 = x0 → ∀ (T : zS), zIv ro [(0, 12, 0)] [] [(1200, 0, 0), (1249, 0, 0), (1254, 0, 0), (1255, 0, 0)] [] [] [] T → ∀ (H_ : Heap) (locs_ : List Loc), zPw cD cy A_ s_.heap T H_ locs_ → ∀ ls : Array Slot, lv_has ls 1 [(0, .ref (ro 0))] → W p_ l e_ ({ frames := 1, cells := 38, slots := 69369, locals := 20 } : Room) s_ m_ args_ below_ meth_ c_ H_ locs_ 0 0 (MQ below_ (va_Qv (fun (S1 : zS) => ∃ r_ : Nat → Nat, r_ 0 = x0 ∧ ShM S1 r_ ∧ FrM S1 r_) (zPost cD cy A_) A_) args_ s_ 38 69369 A_) (F0 m_ 0 ls []) := by
    intro ro h0 T hv H_ locs_ hw ls hl
    have hL : ro 0 ∈ zL T := hv.rl (by decide)
    have hk : zK T (ro 0) = 12 := hv.k (o := 0) (n := 0) (by decide)
    refine lv_aload_n hx hb_ dX12_init_0 rfl (lv_at hl 0 rfl) ?_
    refine W.objInit hx hb_ hown (hts (.methodLink RX12 1 objectInit) (by decide +kernel)) (hts (.instanceMethod objectInit) (by decide +kernel)) (hts (.code objectInit ⟨#[0xb1]⟩ 1 none) (by decide +kernel)) rfl (by rw [hml]; exact hl.1) rfl dX12_init_1 (Nat.le_of_ble_eq_true rfl) (Nat.le_of_ble_eq_true rfl) ?_
    refine W.eq (g2 := F0 m_ 4 ls []) rfl ?_
    refine lv_aload_n hx hb_ dX12_init_4 rfl (lv_at hl 0 rfl) ?_
    refine lv_iconst (v := (-1)) hx hb_ dX12_init_5 (by decide) ?_
    refine z_putI (k := 12) (i := 1) (j := 1201) (x := (-1)) (v := .int (-1)) (ty := .int) (ref := "FoldedInHalfModel") (C := RX12) (T := TX12) (N := 56) tyX12 hcf hK_ hw hin12 tyX12_ok nmX12 hL hk rfl (by decide) (by decide) rfl rfl (List.mem_of_getElem? (i := 4) rfl) (fun _ h_ => h_) rfl rfl (by decide +kernel) rfl rfl dX12_init_6 (fun H_ locs_ hw => ?_)
    exact J1 ro h0 (zsI T 1201 (ro 0) (-1)) (zIv_I (j := 1201) (o := 0) (hv) (by decide +kernel) (by decide) (by decide)) _ _ hw ls hl
  exact J0 (fun _ => x0) rfl S_ (zIv_0 hL hk (by decide) (fun t_ ht => (hI0 t_.1).trans ((show ∀ t_, t_ ∈ [(1200, 0, (0 : Int32)), (1249, 0, 0), (1254, 0, 0), (1255, 0, 0)] → (0 : Int32) = t_.2.2 by decide) t_ ht))) _ _ hw ls hl

