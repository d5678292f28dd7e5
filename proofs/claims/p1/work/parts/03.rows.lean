/-! the tables' words of nest mates and casts, which a method's own words don't hold: they ride in every start -/
def z_nw : List Cond := [.methodLinkNest "FoldedInHalf" 42 yX5_init "FoldedInHalf", .fieldLinkNest "FoldedInHalf" 202 "FoldedInHalf$Reader" "draft" "[LFoldedInHalf$Strip;" "FoldedInHalf", .fieldLinkNest "FoldedInHalf" 209 "FoldedInHalf$Reader" "count" "I" "FoldedInHalf", .fieldLinkNest "FoldedInHalf" 219 "FoldedInHalf$Reader" "items" "I" "FoldedInHalf", .fieldLinkNest "FoldedInHalf" 216 "FoldedInHalf$Reader" "fault" "I" "FoldedInHalf", .methodLinkNest "FoldedInHalf" 49 yX3_init "FoldedInHalf", .methodLinkNest "FoldedInHalf" 64 yX7_init "FoldedInHalf", .fieldLinkNest "FoldedInHalf" 123 "FoldedInHalf$Shelf" "cells" "[J" "FoldedInHalf", .fieldLinkNest "FoldedInHalf$Reader" 50 "FoldedInHalf$Shelf" "length" "I" "FoldedInHalf", .fieldLinkNest "FoldedInHalf" 79 "FoldedInHalf$Shelf" "length" "I" "FoldedInHalf", .fieldLinkNest "FoldedInHalf" 72 "FoldedInHalf$Shelf" "sort" "I" "FoldedInHalf", .fieldLinkNest "FoldedInHalf" 69 "FoldedInHalf$Shelf" "shown" "I" "FoldedInHalf", .methodLinkNest "FoldedInHalf" 111 yX7_holdRow "FoldedInHalf", .methodLinkNest "FoldedInHalf" 115 yX7_put "FoldedInHalf", .methodLinkNest "FoldedInHalf" 119 yX7_hasPiece "FoldedInHalf", .methodLinkNest "FoldedInHalf" 133 yX7_at "FoldedInHalf", .methodLinkNest "FoldedInHalf" 141 yX7_holdStrip "FoldedInHalf", .methodLinkNest "FoldedInHalf" 175 yX7_number "FoldedInHalf", .methodLinkNest "FoldedInHalf" 212 yX5_tell "FoldedInHalf", .methodLinkNest "FoldedInHalf$Reader" 59 yX7_number "FoldedInHalf", .methodLinkNest "FoldedInHalf$Reader" 98 yX11_mostFolds "FoldedInHalf", .methodLinkNest "FoldedInHalf$Reader" 105 yX11_make "FoldedInHalf", .methodLinkNest "FoldedInHalf$Strip" 50 yX10_init "FoldedInHalf", .fieldLinkNest "FoldedInHalf$Third" 33 "FoldedInHalf$Walk" "x" "J" "FoldedInHalf", .fieldLinkNest "FoldedInHalf$Strip" 53 "FoldedInHalf$Walk" "x" "J" "FoldedInHalf", .fieldLinkNest "FoldedInHalf" 238 "FoldedInHalf$Walk" "x" "J" "FoldedInHalf", .fieldLinkNest "FoldedInHalf" 242 "FoldedInHalf$Walk" "y" "J" "FoldedInHalf", .fieldLinkNest "FoldedInHalf$Back" 33 "FoldedInHalf$Walk" "way" "I" "FoldedInHalf", .fieldLinkNest "FoldedInHalf$Third" 45 "FoldedInHalf$Walk" "way" "I" "FoldedInHalf", .fieldLinkNest "FoldedInHalf$Strip" 56 "FoldedInHalf$Walk" "way" "I" "FoldedInHalf", .fieldLinkNest "FoldedInHalf" 229 "FoldedInHalf$Walk" "way" "I" "FoldedInHalf", .methodLinkNest "FoldedInHalf$Strip" 59 yX10_spread "FoldedInHalf", .methodLinkNest "FoldedInHalf$Strip" 63 yX10_move "FoldedInHalf", .fieldLinkNest "FoldedInHalf$Walk" 30 "FoldedInHalf" "EAST" "[I" "FoldedInHalf", .fieldLinkNest "FoldedInHalf$Walk" 36 "FoldedInHalf" "NORTH" "[I" "FoldedInHalf", .methodLinkNest "FoldedInHalf$Back" 39 yX10_seeFrom "FoldedInHalf", .methodLinkNest "FoldedInHalf$Cut" 30 yX10_seeFrom "FoldedInHalf", .methodLinkNest "FoldedInHalf$Left" 27 yX10_init "FoldedInHalf", .methodLinkNest "FoldedInHalf$Left" 32 yX10_step "FoldedInHalf", .methodLinkNest "FoldedInHalf$Third" 27 yX10_init "FoldedInHalf", .methodLinkNest "FoldedInHalf$Third" 37 yX10_spread "FoldedInHalf", .methodLinkNest "FoldedInHalf$Third" 41 yX10_move "FoldedInHalf", .methodLinkNest "FoldedInHalf" 260 yX10_init "FoldedInHalf", .methodLinkNest "FoldedInHalf" 263 yX10_isAt "FoldedInHalf", .methodLinkNest "FoldedInHalf" 266 yX10_step "FoldedInHalf", .methodLinkNest "FoldedInHalf" 281 yX10_middleX "FoldedInHalf", .methodLinkNest "FoldedInHalf" 284 yX10_middleY "FoldedInHalf", .methodLinkNest "FoldedInHalf" 341 yX3_clear "FoldedInHalf", .methodLinkNest "FoldedInHalf" 344 yX3_fits "FoldedInHalf", .methodLinkNest "FoldedInHalf" 347 yX3_lay "FoldedInHalf", .methodLinkNest "FoldedInHalf" 350 yX3_countOf "FoldedInHalf", .methodLinkNest "FoldedInHalf" 353 yX3_leafOf "FoldedInHalf", .methodLinkNest "FoldedInHalf$Back" 43 yX11_began "FoldedInHalf", .methodLinkNest "FoldedInHalf$Left" 36 yX11_began "FoldedInHalf", .methodLinkNest "FoldedInHalf$Same" 15 yX11_began "FoldedInHalf", .methodLinkNest "FoldedInHalf$Strip" 66 yX11_began "FoldedInHalf", .methodLinkNest "FoldedInHalf$Cut" 36 yX11_began "FoldedInHalf", .methodLinkNest "FoldedInHalf$Third" 48 yX11_began "FoldedInHalf", .methodLinkNest "FoldedInHalf$Glass" 15 yX11_began "FoldedInHalf", .castable "FoldedInHalf$Same" "FoldedInHalf$Strip", .castable "FoldedInHalf$Third" "FoldedInHalf$Strip", .castable "FoldedInHalf$Cut" "FoldedInHalf$Strip", .castable "FoldedInHalf$Back" "FoldedInHalf$Strip", .castable "FoldedInHalf$Glass" "FoldedInHalf$Strip", .castable "FoldedInHalf$Left" "FoldedInHalf$Strip"]
def zE (U : State) : Prop := (∀ w ∈ z_nw, va_Nw w U) ∧ va_AO "FoldedInHalf$Shelf" U ∧ va_AO "FoldedInHalf$Strip" U
theorem z_nw_tab : ∀ w ∈ z_nw, w.onTables = true := by decide +kernel
theorem zE.same {u U : State} (h : u.vm = U.vm) (z : zE u) : zE U := ⟨fun w hw => va_Nw.same (z_nw_tab w hw) h (z.1 w hw), va_AO.moved (by rw [h]; exact Vm.Alike.refl _) z.2.1, va_AO.moved (by rw [h]; exact Vm.Alike.refl _) z.2.2⟩
theorem zE.warm {s U : State} (hW : s.WarmedH U.vm) (z : zE s) : zE U := by
  refine ⟨?_, va_AO.moved hW.alike z.2.1, va_AO.moved hW.alike z.2.2⟩
  have h := z.1
  unfold z_nw at h ⊢
  simp only [List.forall_mem_cons] at h ⊢
  obtain ⟨h0, h1, h2, h3, h4, h5, h6, h7, h8, h9, h10, h11, h12, h13, h14, h15, h16, h17, h18, h19, h20, h21, h22, h23, h24, h25, h26, h27, h28, h29, h30, h31, h32, h33, h34, h35, h36, h37, h38, h39, h40, h41, h42, h43, h44, h45, h46, h47, h48, h49, h50, h51, h52, h53, h54, h55, h56, h57, h58, h59, h60, h61, h62, h63, h64, -⟩ := h
  exact ⟨va_Nw.warmM hW h0, va_Nw.warmF hW h1, va_Nw.warmF hW h2, va_Nw.warmF hW h3, va_Nw.warmF hW h4, va_Nw.warmM hW h5, va_Nw.warmM hW h6, va_Nw.warmF hW h7, va_Nw.warmF hW h8, va_Nw.warmF hW h9, va_Nw.warmF hW h10, va_Nw.warmF hW h11, va_Nw.warmM hW h12, va_Nw.warmM hW h13, va_Nw.warmM hW h14, va_Nw.warmM hW h15, va_Nw.warmM hW h16, va_Nw.warmM hW h17, va_Nw.warmM hW h18, va_Nw.warmM hW h19, va_Nw.warmM hW h20, va_Nw.warmM hW h21, va_Nw.warmM hW h22, va_Nw.warmF hW h23, va_Nw.warmF hW h24, va_Nw.warmF hW h25, va_Nw.warmF hW h26, va_Nw.warmF hW h27, va_Nw.warmF hW h28, va_Nw.warmF hW h29, va_Nw.warmF hW h30, va_Nw.warmM hW h31, va_Nw.warmM hW h32, va_Nw.warmF hW h33, va_Nw.warmF hW h34, va_Nw.warmM hW h35, va_Nw.warmM hW h36, va_Nw.warmM hW h37, va_Nw.warmM hW h38, va_Nw.warmM hW h39, va_Nw.warmM hW h40, va_Nw.warmM hW h41, va_Nw.warmM hW h42, va_Nw.warmM hW h43, va_Nw.warmM hW h44, va_Nw.warmM hW h45, va_Nw.warmM hW h46, va_Nw.warmM hW h47, va_Nw.warmM hW h48, va_Nw.warmM hW h49, va_Nw.warmM hW h50, va_Nw.warmM hW h51, va_Nw.warmM hW h52, va_Nw.warmM hW h53, va_Nw.warmM hW h54, va_Nw.warmM hW h55, va_Nw.warmM hW h56, va_Nw.warmM hW h57, va_Nw.warmM hW h58, va_Nw.warmC hW h59, va_Nw.warmC hW h60, va_Nw.warmC hW h61, va_Nw.warmC hW h62, va_Nw.warmC hW h63, va_Nw.warmC hW h64, fun _ q => absurd q List.not_mem_nil⟩
theorem nw_M_FoldedInHalf_42 {U : State} (z : zE U) : va_Nw (.methodLinkNest "FoldedInHalf" 42 yX5_init "FoldedInHalf") U := z.1 _ (List.mem_of_getElem? (i := 0) rfl)
theorem nw_F_FoldedInHalf_202 {U : State} (z : zE U) : va_Nw (.fieldLinkNest "FoldedInHalf" 202 "FoldedInHalf$Reader" "draft" "[LFoldedInHalf$Strip;" "FoldedInHalf") U := z.1 _ (List.mem_of_getElem? (i := 1) rfl)
theorem nw_F_FoldedInHalf_209 {U : State} (z : zE U) : va_Nw (.fieldLinkNest "FoldedInHalf" 209 "FoldedInHalf$Reader" "count" "I" "FoldedInHalf") U := z.1 _ (List.mem_of_getElem? (i := 2) rfl)
theorem nw_F_FoldedInHalf_219 {U : State} (z : zE U) : va_Nw (.fieldLinkNest "FoldedInHalf" 219 "FoldedInHalf$Reader" "items" "I" "FoldedInHalf") U := z.1 _ (List.mem_of_getElem? (i := 3) rfl)
theorem nw_F_FoldedInHalf_216 {U : State} (z : zE U) : va_Nw (.fieldLinkNest "FoldedInHalf" 216 "FoldedInHalf$Reader" "fault" "I" "FoldedInHalf") U := z.1 _ (List.mem_of_getElem? (i := 4) rfl)
theorem nw_M_FoldedInHalf_49 {U : State} (z : zE U) : va_Nw (.methodLinkNest "FoldedInHalf" 49 yX3_init "FoldedInHalf") U := z.1 _ (List.mem_of_getElem? (i := 5) rfl)
theorem nw_M_FoldedInHalf_64 {U : State} (z : zE U) : va_Nw (.methodLinkNest "FoldedInHalf" 64 yX7_init "FoldedInHalf") U := z.1 _ (List.mem_of_getElem? (i := 6) rfl)
theorem nw_F_FoldedInHalf_123 {U : State} (z : zE U) : va_Nw (.fieldLinkNest "FoldedInHalf" 123 "FoldedInHalf$Shelf" "cells" "[J" "FoldedInHalf") U := z.1 _ (List.mem_of_getElem? (i := 7) rfl)
theorem nw_F_FoldedInHalf_Reader_50 {U : State} (z : zE U) : va_Nw (.fieldLinkNest "FoldedInHalf$Reader" 50 "FoldedInHalf$Shelf" "length" "I" "FoldedInHalf") U := z.1 _ (List.mem_of_getElem? (i := 8) rfl)
theorem nw_F_FoldedInHalf_79 {U : State} (z : zE U) : va_Nw (.fieldLinkNest "FoldedInHalf" 79 "FoldedInHalf$Shelf" "length" "I" "FoldedInHalf") U := z.1 _ (List.mem_of_getElem? (i := 9) rfl)
theorem nw_F_FoldedInHalf_72 {U : State} (z : zE U) : va_Nw (.fieldLinkNest "FoldedInHalf" 72 "FoldedInHalf$Shelf" "sort" "I" "FoldedInHalf") U := z.1 _ (List.mem_of_getElem? (i := 10) rfl)
theorem nw_F_FoldedInHalf_69 {U : State} (z : zE U) : va_Nw (.fieldLinkNest "FoldedInHalf" 69 "FoldedInHalf$Shelf" "shown" "I" "FoldedInHalf") U := z.1 _ (List.mem_of_getElem? (i := 11) rfl)
theorem nw_M_FoldedInHalf_111 {U : State} (z : zE U) : va_Nw (.methodLinkNest "FoldedInHalf" 111 yX7_holdRow "FoldedInHalf") U := z.1 _ (List.mem_of_getElem? (i := 12) rfl)
theorem nw_M_FoldedInHalf_115 {U : State} (z : zE U) : va_Nw (.methodLinkNest "FoldedInHalf" 115 yX7_put "FoldedInHalf") U := z.1 _ (List.mem_of_getElem? (i := 13) rfl)
theorem nw_M_FoldedInHalf_119 {U : State} (z : zE U) : va_Nw (.methodLinkNest "FoldedInHalf" 119 yX7_hasPiece "FoldedInHalf") U := z.1 _ (List.mem_of_getElem? (i := 14) rfl)
theorem nw_M_FoldedInHalf_133 {U : State} (z : zE U) : va_Nw (.methodLinkNest "FoldedInHalf" 133 yX7_at "FoldedInHalf") U := z.1 _ (List.mem_of_getElem? (i := 15) rfl)
theorem nw_M_FoldedInHalf_141 {U : State} (z : zE U) : va_Nw (.methodLinkNest "FoldedInHalf" 141 yX7_holdStrip "FoldedInHalf") U := z.1 _ (List.mem_of_getElem? (i := 16) rfl)
theorem nw_M_FoldedInHalf_175 {U : State} (z : zE U) : va_Nw (.methodLinkNest "FoldedInHalf" 175 yX7_number "FoldedInHalf") U := z.1 _ (List.mem_of_getElem? (i := 17) rfl)
theorem nw_M_FoldedInHalf_212 {U : State} (z : zE U) : va_Nw (.methodLinkNest "FoldedInHalf" 212 yX5_tell "FoldedInHalf") U := z.1 _ (List.mem_of_getElem? (i := 18) rfl)
theorem nw_M_FoldedInHalf_Reader_59 {U : State} (z : zE U) : va_Nw (.methodLinkNest "FoldedInHalf$Reader" 59 yX7_number "FoldedInHalf") U := z.1 _ (List.mem_of_getElem? (i := 19) rfl)
theorem nw_M_FoldedInHalf_Reader_98 {U : State} (z : zE U) : va_Nw (.methodLinkNest "FoldedInHalf$Reader" 98 yX11_mostFolds "FoldedInHalf") U := z.1 _ (List.mem_of_getElem? (i := 20) rfl)
theorem nw_M_FoldedInHalf_Reader_105 {U : State} (z : zE U) : va_Nw (.methodLinkNest "FoldedInHalf$Reader" 105 yX11_make "FoldedInHalf") U := z.1 _ (List.mem_of_getElem? (i := 21) rfl)
theorem nw_M_FoldedInHalf_Strip_50 {U : State} (z : zE U) : va_Nw (.methodLinkNest "FoldedInHalf$Strip" 50 yX10_init "FoldedInHalf") U := z.1 _ (List.mem_of_getElem? (i := 22) rfl)
theorem nw_F_FoldedInHalf_Third_33 {U : State} (z : zE U) : va_Nw (.fieldLinkNest "FoldedInHalf$Third" 33 "FoldedInHalf$Walk" "x" "J" "FoldedInHalf") U := z.1 _ (List.mem_of_getElem? (i := 23) rfl)
theorem nw_F_FoldedInHalf_Strip_53 {U : State} (z : zE U) : va_Nw (.fieldLinkNest "FoldedInHalf$Strip" 53 "FoldedInHalf$Walk" "x" "J" "FoldedInHalf") U := z.1 _ (List.mem_of_getElem? (i := 24) rfl)
theorem nw_F_FoldedInHalf_238 {U : State} (z : zE U) : va_Nw (.fieldLinkNest "FoldedInHalf" 238 "FoldedInHalf$Walk" "x" "J" "FoldedInHalf") U := z.1 _ (List.mem_of_getElem? (i := 25) rfl)
theorem nw_F_FoldedInHalf_242 {U : State} (z : zE U) : va_Nw (.fieldLinkNest "FoldedInHalf" 242 "FoldedInHalf$Walk" "y" "J" "FoldedInHalf") U := z.1 _ (List.mem_of_getElem? (i := 26) rfl)
theorem nw_F_FoldedInHalf_Back_33 {U : State} (z : zE U) : va_Nw (.fieldLinkNest "FoldedInHalf$Back" 33 "FoldedInHalf$Walk" "way" "I" "FoldedInHalf") U := z.1 _ (List.mem_of_getElem? (i := 27) rfl)
theorem nw_F_FoldedInHalf_Third_45 {U : State} (z : zE U) : va_Nw (.fieldLinkNest "FoldedInHalf$Third" 45 "FoldedInHalf$Walk" "way" "I" "FoldedInHalf") U := z.1 _ (List.mem_of_getElem? (i := 28) rfl)
theorem nw_F_FoldedInHalf_Strip_56 {U : State} (z : zE U) : va_Nw (.fieldLinkNest "FoldedInHalf$Strip" 56 "FoldedInHalf$Walk" "way" "I" "FoldedInHalf") U := z.1 _ (List.mem_of_getElem? (i := 29) rfl)
theorem nw_F_FoldedInHalf_229 {U : State} (z : zE U) : va_Nw (.fieldLinkNest "FoldedInHalf" 229 "FoldedInHalf$Walk" "way" "I" "FoldedInHalf") U := z.1 _ (List.mem_of_getElem? (i := 30) rfl)
theorem nw_M_FoldedInHalf_Strip_59 {U : State} (z : zE U) : va_Nw (.methodLinkNest "FoldedInHalf$Strip" 59 yX10_spread "FoldedInHalf") U := z.1 _ (List.mem_of_getElem? (i := 31) rfl)
theorem nw_M_FoldedInHalf_Strip_63 {U : State} (z : zE U) : va_Nw (.methodLinkNest "FoldedInHalf$Strip" 63 yX10_move "FoldedInHalf") U := z.1 _ (List.mem_of_getElem? (i := 32) rfl)
theorem nw_F_FoldedInHalf_Walk_30 {U : State} (z : zE U) : va_Nw (.fieldLinkNest "FoldedInHalf$Walk" 30 "FoldedInHalf" "EAST" "[I" "FoldedInHalf") U := z.1 _ (List.mem_of_getElem? (i := 33) rfl)
theorem nw_F_FoldedInHalf_Walk_36 {U : State} (z : zE U) : va_Nw (.fieldLinkNest "FoldedInHalf$Walk" 36 "FoldedInHalf" "NORTH" "[I" "FoldedInHalf") U := z.1 _ (List.mem_of_getElem? (i := 34) rfl)
theorem nw_M_FoldedInHalf_Back_39 {U : State} (z : zE U) : va_Nw (.methodLinkNest "FoldedInHalf$Back" 39 yX10_seeFrom "FoldedInHalf") U := z.1 _ (List.mem_of_getElem? (i := 35) rfl)
theorem nw_M_FoldedInHalf_Cut_30 {U : State} (z : zE U) : va_Nw (.methodLinkNest "FoldedInHalf$Cut" 30 yX10_seeFrom "FoldedInHalf") U := z.1 _ (List.mem_of_getElem? (i := 36) rfl)
theorem nw_M_FoldedInHalf_Left_27 {U : State} (z : zE U) : va_Nw (.methodLinkNest "FoldedInHalf$Left" 27 yX10_init "FoldedInHalf") U := z.1 _ (List.mem_of_getElem? (i := 37) rfl)
theorem nw_M_FoldedInHalf_Left_32 {U : State} (z : zE U) : va_Nw (.methodLinkNest "FoldedInHalf$Left" 32 yX10_step "FoldedInHalf") U := z.1 _ (List.mem_of_getElem? (i := 38) rfl)
theorem nw_M_FoldedInHalf_Third_27 {U : State} (z : zE U) : va_Nw (.methodLinkNest "FoldedInHalf$Third" 27 yX10_init "FoldedInHalf") U := z.1 _ (List.mem_of_getElem? (i := 39) rfl)
theorem nw_M_FoldedInHalf_Third_37 {U : State} (z : zE U) : va_Nw (.methodLinkNest "FoldedInHalf$Third" 37 yX10_spread "FoldedInHalf") U := z.1 _ (List.mem_of_getElem? (i := 40) rfl)
theorem nw_M_FoldedInHalf_Third_41 {U : State} (z : zE U) : va_Nw (.methodLinkNest "FoldedInHalf$Third" 41 yX10_move "FoldedInHalf") U := z.1 _ (List.mem_of_getElem? (i := 41) rfl)
theorem nw_M_FoldedInHalf_260 {U : State} (z : zE U) : va_Nw (.methodLinkNest "FoldedInHalf" 260 yX10_init "FoldedInHalf") U := z.1 _ (List.mem_of_getElem? (i := 42) rfl)
theorem nw_M_FoldedInHalf_263 {U : State} (z : zE U) : va_Nw (.methodLinkNest "FoldedInHalf" 263 yX10_isAt "FoldedInHalf") U := z.1 _ (List.mem_of_getElem? (i := 43) rfl)
theorem nw_M_FoldedInHalf_266 {U : State} (z : zE U) : va_Nw (.methodLinkNest "FoldedInHalf" 266 yX10_step "FoldedInHalf") U := z.1 _ (List.mem_of_getElem? (i := 44) rfl)
theorem nw_M_FoldedInHalf_281 {U : State} (z : zE U) : va_Nw (.methodLinkNest "FoldedInHalf" 281 yX10_middleX "FoldedInHalf") U := z.1 _ (List.mem_of_getElem? (i := 45) rfl)
theorem nw_M_FoldedInHalf_284 {U : State} (z : zE U) : va_Nw (.methodLinkNest "FoldedInHalf" 284 yX10_middleY "FoldedInHalf") U := z.1 _ (List.mem_of_getElem? (i := 46) rfl)
theorem nw_M_FoldedInHalf_341 {U : State} (z : zE U) : va_Nw (.methodLinkNest "FoldedInHalf" 341 yX3_clear "FoldedInHalf") U := z.1 _ (List.mem_of_getElem? (i := 47) rfl)
theorem nw_M_FoldedInHalf_344 {U : State} (z : zE U) : va_Nw (.methodLinkNest "FoldedInHalf" 344 yX3_fits "FoldedInHalf") U := z.1 _ (List.mem_of_getElem? (i := 48) rfl)
theorem nw_M_FoldedInHalf_347 {U : State} (z : zE U) : va_Nw (.methodLinkNest "FoldedInHalf" 347 yX3_lay "FoldedInHalf") U := z.1 _ (List.mem_of_getElem? (i := 49) rfl)
theorem nw_M_FoldedInHalf_350 {U : State} (z : zE U) : va_Nw (.methodLinkNest "FoldedInHalf" 350 yX3_countOf "FoldedInHalf") U := z.1 _ (List.mem_of_getElem? (i := 50) rfl)
theorem nw_M_FoldedInHalf_353 {U : State} (z : zE U) : va_Nw (.methodLinkNest "FoldedInHalf" 353 yX3_leafOf "FoldedInHalf") U := z.1 _ (List.mem_of_getElem? (i := 51) rfl)
theorem nw_M_FoldedInHalf_Back_43 {U : State} (z : zE U) : va_Nw (.methodLinkNest "FoldedInHalf$Back" 43 yX11_began "FoldedInHalf") U := z.1 _ (List.mem_of_getElem? (i := 52) rfl)
theorem nw_M_FoldedInHalf_Left_36 {U : State} (z : zE U) : va_Nw (.methodLinkNest "FoldedInHalf$Left" 36 yX11_began "FoldedInHalf") U := z.1 _ (List.mem_of_getElem? (i := 53) rfl)
theorem nw_M_FoldedInHalf_Same_15 {U : State} (z : zE U) : va_Nw (.methodLinkNest "FoldedInHalf$Same" 15 yX11_began "FoldedInHalf") U := z.1 _ (List.mem_of_getElem? (i := 54) rfl)
theorem nw_M_FoldedInHalf_Strip_66 {U : State} (z : zE U) : va_Nw (.methodLinkNest "FoldedInHalf$Strip" 66 yX11_began "FoldedInHalf") U := z.1 _ (List.mem_of_getElem? (i := 55) rfl)
theorem nw_M_FoldedInHalf_Cut_36 {U : State} (z : zE U) : va_Nw (.methodLinkNest "FoldedInHalf$Cut" 36 yX11_began "FoldedInHalf") U := z.1 _ (List.mem_of_getElem? (i := 56) rfl)
theorem nw_M_FoldedInHalf_Third_48 {U : State} (z : zE U) : va_Nw (.methodLinkNest "FoldedInHalf$Third" 48 yX11_began "FoldedInHalf") U := z.1 _ (List.mem_of_getElem? (i := 57) rfl)
theorem nw_M_FoldedInHalf_Glass_15 {U : State} (z : zE U) : va_Nw (.methodLinkNest "FoldedInHalf$Glass" 15 yX11_began "FoldedInHalf") U := z.1 _ (List.mem_of_getElem? (i := 58) rfl)
theorem nw_C_FoldedInHalf_Same_FoldedInHalf_Strip {U : State} (z : zE U) : va_Nw (.castable "FoldedInHalf$Same" "FoldedInHalf$Strip") U := z.1 _ (List.mem_of_getElem? (i := 59) rfl)
theorem nw_C_FoldedInHalf_Third_FoldedInHalf_Strip {U : State} (z : zE U) : va_Nw (.castable "FoldedInHalf$Third" "FoldedInHalf$Strip") U := z.1 _ (List.mem_of_getElem? (i := 60) rfl)
theorem nw_C_FoldedInHalf_Cut_FoldedInHalf_Strip {U : State} (z : zE U) : va_Nw (.castable "FoldedInHalf$Cut" "FoldedInHalf$Strip") U := z.1 _ (List.mem_of_getElem? (i := 61) rfl)
theorem nw_C_FoldedInHalf_Back_FoldedInHalf_Strip {U : State} (z : zE U) : va_Nw (.castable "FoldedInHalf$Back" "FoldedInHalf$Strip") U := z.1 _ (List.mem_of_getElem? (i := 62) rfl)
theorem nw_C_FoldedInHalf_Glass_FoldedInHalf_Strip {U : State} (z : zE U) : va_Nw (.castable "FoldedInHalf$Glass" "FoldedInHalf$Strip") U := z.1 _ (List.mem_of_getElem? (i := 63) rfl)
theorem nw_C_FoldedInHalf_Left_FoldedInHalf_Strip {U : State} (z : zE U) : va_Nw (.castable "FoldedInHalf$Left" "FoldedInHalf$Strip") U := z.1 _ (List.mem_of_getElem? (i := 64) rfl)
theorem zE.tab {args : Array Value} {U : State} (h : ∀ w ∈ tables_1, w.before args U = true) : zE U := by
  refine ⟨?_, va_AO.of (h _ (List.mem_of_getElem? (i := 32) (by decide +kernel))), va_AO.of (h _ (List.mem_of_getElem? (i := 34) (by decide +kernel)))⟩
  unfold z_nw
  simp only [List.forall_mem_cons]
  exact ⟨va_Nw.of rfl (h _ (List.mem_of_getElem? (i := 37) (by decide +kernel))), va_Nw.of rfl (h _ (List.mem_of_getElem? (i := 43) (by decide +kernel))), va_Nw.of rfl (h _ (List.mem_of_getElem? (i := 45) (by decide +kernel))), va_Nw.of rfl (h _ (List.mem_of_getElem? (i := 47) (by decide +kernel))), va_Nw.of rfl (h _ (List.mem_of_getElem? (i := 49) (by decide +kernel))), va_Nw.of rfl (h _ (List.mem_of_getElem? (i := 71) (by decide +kernel))), va_Nw.of rfl (h _ (List.mem_of_getElem? (i := 98) (by decide +kernel))), va_Nw.of rfl (h _ (List.mem_of_getElem? (i := 103) (by decide +kernel))), va_Nw.of rfl (h _ (List.mem_of_getElem? (i := 105) (by decide +kernel))), va_Nw.of rfl (h _ (List.mem_of_getElem? (i := 106) (by decide +kernel))), va_Nw.of rfl (h _ (List.mem_of_getElem? (i := 108) (by decide +kernel))), va_Nw.of rfl (h _ (List.mem_of_getElem? (i := 110) (by decide +kernel))), va_Nw.of rfl (h _ (List.mem_of_getElem? (i := 173) (by decide +kernel))), va_Nw.of rfl (h _ (List.mem_of_getElem? (i := 187) (by decide +kernel))), va_Nw.of rfl (h _ (List.mem_of_getElem? (i := 199) (by decide +kernel))), va_Nw.of rfl (h _ (List.mem_of_getElem? (i := 210) (by decide +kernel))), va_Nw.of rfl (h _ (List.mem_of_getElem? (i := 222) (by decide +kernel))), va_Nw.of rfl (h _ (List.mem_of_getElem? (i := 378) (by decide +kernel))), va_Nw.of rfl (h _ (List.mem_of_getElem? (i := 545) (by decide +kernel))), va_Nw.of rfl (h _ (List.mem_of_getElem? (i := 553) (by decide +kernel))), va_Nw.of rfl (h _ (List.mem_of_getElem? (i := 634) (by decide +kernel))), va_Nw.of rfl (h _ (List.mem_of_getElem? (i := 639) (by decide +kernel))), va_Nw.of rfl (h _ (List.mem_of_getElem? (i := 734) (by decide +kernel))), va_Nw.of rfl (h _ (List.mem_of_getElem? (i := 742) (by decide +kernel))), va_Nw.of rfl (h _ (List.mem_of_getElem? (i := 743) (by decide +kernel))), va_Nw.of rfl (h _ (List.mem_of_getElem? (i := 744) (by decide +kernel))), va_Nw.of rfl (h _ (List.mem_of_getElem? (i := 746) (by decide +kernel))), va_Nw.of rfl (h _ (List.mem_of_getElem? (i := 748) (by decide +kernel))), va_Nw.of rfl (h _ (List.mem_of_getElem? (i := 749) (by decide +kernel))), va_Nw.of rfl (h _ (List.mem_of_getElem? (i := 750) (by decide +kernel))), va_Nw.of rfl (h _ (List.mem_of_getElem? (i := 751) (by decide +kernel))), va_Nw.of rfl (h _ (List.mem_of_getElem? (i := 765) (by decide +kernel))), va_Nw.of rfl (h _ (List.mem_of_getElem? (i := 769) (by decide +kernel))), va_Nw.of rfl (h _ (List.mem_of_getElem? (i := 773) (by decide +kernel))), va_Nw.of rfl (h _ (List.mem_of_getElem? (i := 775) (by decide +kernel))), va_Nw.of rfl (h _ (List.mem_of_getElem? (i := 781) (by decide +kernel))), va_Nw.of rfl (h _ (List.mem_of_getElem? (i := 793) (by decide +kernel))), va_Nw.of rfl (h _ (List.mem_of_getElem? (i := 802) (by decide +kernel))), va_Nw.of rfl (h _ (List.mem_of_getElem? (i := 804) (by decide +kernel))), va_Nw.of rfl (h _ (List.mem_of_getElem? (i := 818) (by decide +kernel))), va_Nw.of rfl (h _ (List.mem_of_getElem? (i := 820) (by decide +kernel))), va_Nw.of rfl (h _ (List.mem_of_getElem? (i := 821) (by decide +kernel))), va_Nw.of rfl (h _ (List.mem_of_getElem? (i := 838) (by decide +kernel))), va_Nw.of rfl (h _ (List.mem_of_getElem? (i := 839) (by decide +kernel))), va_Nw.of rfl (h _ (List.mem_of_getElem? (i := 843) (by decide +kernel))), va_Nw.of rfl (h _ (List.mem_of_getElem? (i := 869) (by decide +kernel))), va_Nw.of rfl (h _ (List.mem_of_getElem? (i := 874) (by decide +kernel))), va_Nw.of rfl (h _ (List.mem_of_getElem? (i := 971) (by decide +kernel))), va_Nw.of rfl (h _ (List.mem_of_getElem? (i := 976) (by decide +kernel))), va_Nw.of rfl (h _ (List.mem_of_getElem? (i := 996) (by decide +kernel))), va_Nw.of rfl (h _ (List.mem_of_getElem? (i := 1004) (by decide +kernel))), va_Nw.of rfl (h _ (List.mem_of_getElem? (i := 1026) (by decide +kernel))), va_Nw.of rfl (h _ (List.mem_of_getElem? (i := 1046) (by decide +kernel))), va_Nw.of rfl (h _ (List.mem_of_getElem? (i := 1058) (by decide +kernel))), va_Nw.of rfl (h _ (List.mem_of_getElem? (i := 1064) (by decide +kernel))), va_Nw.of rfl (h _ (List.mem_of_getElem? (i := 1068) (by decide +kernel))), va_Nw.of rfl (h _ (List.mem_of_getElem? (i := 1076) (by decide +kernel))), va_Nw.of rfl (h _ (List.mem_of_getElem? (i := 1090) (by decide +kernel))), va_Nw.of rfl (h _ (List.mem_of_getElem? (i := 1108) (by decide +kernel))), va_Nw.of rfl (h _ (List.mem_of_getElem? (i := 1685) (by decide +kernel))), va_Nw.of rfl (h _ (List.mem_of_getElem? (i := 1686) (by decide +kernel))), va_Nw.of rfl (h _ (List.mem_of_getElem? (i := 1687) (by decide +kernel))), va_Nw.of rfl (h _ (List.mem_of_getElem? (i := 1688) (by decide +kernel))), va_Nw.of rfl (h _ (List.mem_of_getElem? (i := 1689) (by decide +kernel))), va_Nw.of rfl (h _ (List.mem_of_getElem? (i := 1690) (by decide +kernel))), fun _ q => absurd q List.not_mem_nil⟩
/-! the class ids of the arrays, the tables, the pool on a heap -/
def z_tys (cy : Nat → ClassId) : List (ClassId × FieldType) := [(cy 0, .int), (cy 1, .long), (cy 2, .object "FoldedInHalf$Shelf"), (cy 3, .object "FoldedInHalf$Strip")]
def zKK (cD : va_G) (cy : Nat → ClassId) (s : State) : Prop := va_K cD vwCl (z_tys cy) s
def zPw (cD : va_G) (cy : Nat → ClassId) (A : Nat → Prop) (H0 : Heap) (S : zS) (H : Heap) (locs : List Loc) : Prop := va_P cD vwCl (zW cy S) H ∧ va_D A (zW cy S) ∧ va_S A H0 H locs
def zAd (cy : Nat → ClassId) (S : zS) (sz : Nat) : Nat → Prop := va_A (zW cy S) sz
def zPre (cD : va_G) (cy : Nat → ClassId) (S : zS) (sz : Nat) : State → Prop := fun U => U.heap.size = sz ∧ va_P cD vwCl (zW cy S) U.heap ∧ zKK cD cy U ∧ va_D (fun _ => True) (zW cy S) ∧ zE U
def zPost (cD : va_G) (cy : Nat → ClassId) (A : Nat → Prop) : zS → State → Prop := fun S t => va_P cD vwCl (zW cy S) t.heap ∧ va_D A (zW cy S)
theorem zPre_blind {cD : va_G} {cy : Nat → ClassId} {S : zS} {sz : Nat} {av : List Value} : FrameBlind (va_Pc av (zPre cD cy S sz)) := fun a U g mk q => by
  obtain ⟨q0, q1, q2, q3, q4, q5⟩ := q
  exact ⟨q0, q1, q2, va_K.moved (u := U) (U := U.calling g mk a) (Vm.Alike.refl U.vm) q3, q4, zE.same (u := U) (U := U.calling g mk a) rfl q5⟩
theorem z_ofW {l : Launch} {y : MethodName} {ws ws' : List Cond} {rm : Room} {S : zS} {sz : Nat} {cD : va_G} {cy : Nat → ClassId} {av : List Value} {QQ : (Nat → Prop) → Array Value → State → Outcome → State → Prop} {mc ms : Nat} {cc : ByteArray} {maxL : Nat} {ret : Option FieldType} {own : String} (hy : plainName y.cls = true) (ho : y.cls = own) (hw : ws = Cond.code y cc maxL ret :: ws') (hlen : (lg_sl av).length ≤ maxL)
    (body : ∀ (p : Program) (e : Env) (s : State) (m : MethodId) (args : Array Value) (below : List Frame) (meth : Method) (c : Code) (A : Nat → Prop) (ls : Array Slot), CallFix p m c cc maxL s args ws own → meth.sig.returnType = ret → meth.locks = false → meth.name = y.name → zKK cD cy s → zE s → zPw cD cy A s.heap S s.heap [] → (∀ q, s.heap.size ≤ q → A q) → lv_has ls maxL (lv_args 0 av) → W p l e rm s m args below meth c s.heap [] 0 0 (MQ below (QQ A) args s mc ms A) (F0 m 0 ls [])) :
    Met l y ws rm (va_Pc av (zPre cD cy S sz)) (QQ (zAd cy S sz)) mc ms (zAd cy S sz) := by
  refine Met.ofW (cc := cc) (maxL := maxL) (ret := ret) hy hw ?_
  intro p e s m args below meth c s₁ B hml hv
  obtain ⟨rfl, hsz, hP, hK, hD0, hE⟩ := hv
  have hts := atoms_spec (ws := ws) B.pre
  have hown : s.vm.findClass own = some m.cls := by rw [← ho]; exact findClass_of_methodNamed B.named
  subst hsz
  have hD : va_D (zAd cy S s.heap.size) (zW cy S) := hD0.self (sz := s.heap.size)
  have hA : ∀ q : Nat, s.heap.size ≤ q → zAd cy S s.heap.size q := fun q h => Or.inr h
  have hl := lv_entry av (n := maxL) hlen
  rw [lg_entry_eq]
  exact body p e s m av.toArray below meth c (zAd cy S s.heap.size) _ ⟨B.exec, B.bytes, hml, hown, hts⟩ B.returns B.notSynchronized (name_of_methodNamed B.named B.method).1 hK hE ⟨hP, hD, va_S.rf⟩ hA hl
section ZR
variable {p : Program} {l : Launch} {e : Env} {R : Room} {s : State} {m : MethodId} {args : Array Value} {below : List Frame} {meth : Method} {c : Code} {H : Heap} {locs : List Loc} {cells slots : Nat} {Q : State → Prop}
variable {cc : ByteArray} {pc : Nat} {ls : Array Slot} {rest st0 : List Value} {cD : va_G} {cy : Nat → ClassId} {A : Nat → Prop} {H0 : Heap} {S : zS} {a : Nat}
theorem z_obj (hw : zPw cD cy A H0 S H locs) (hL : a ∈ zL S) {k : Nat} (hk : zK S a = k) (h : k < 13) : ∃ q0 : Nat, (zW cy S)[q0]? = some (a, (Sum.inr (k, z_fl S a (z_ft k) (z_bs k)) : va_E)) ∧ (zW cy S)[q0]? = some (a, zF cy S a) := by
  obtain ⟨q0, hq⟩ := zW_get (cy := cy) hL
  exact ⟨q0, by rw [hq, zF_o hk h], hq⟩
theorem z_recv (hK : zKK cD cy s) (hw : zPw cD cy A H0 S H locs) (hL : a ∈ zL S) {k : Nat} (hk : zK S a = k) (h : k < 13) {q : vw_C} (hc : vwCl[k]? = some q) : ∃ cell : Cell, H[a]? = some cell ∧ cell.vm.isStatics = false ∧ s.vm.findClass q.1 = some cell.cls := by
  obtain ⟨q0, h1, -⟩ := z_obj hw hL hk h
  exact va_recv hK hw.1 hc h1
/-- getfield -/
theorem z_get {maxL : Nat} {Ts : List Cond} {own ref C : String} {T : u_T} {N k index i j t : Nat} {v : Value} (hcf : CallFix p m c cc maxL s args Ts own) (hK : zKK cD cy s) (hw : zPw cD cy A H0 S H locs) (hin : ∀ w ∈ u_ws C T N, w ∈ Ts) (hL : a ∈ zL S) (hk : zK S a = k) (hc : vwCl[k]? = some (C, T, N)) (hi : i < N) (h13 : k < 13) (ht : (z_ft k)[i]? = some t) (hj : z_bs k + i = j) (hv : z_v S a t j = v) (hlink : Cond.fieldLink own index ref (T i).2.1 (T i).2.2.1 ∈ Ts) (hsame : ∀ x, s.fieldFound? (T i).1 (T i).2.1 (T i).2.2.1 = some x → s.fieldFound? ref (T i).2.1 (T i).2.2.1 = some x) (hdg : decode cc pc = .ok (.getfield index, 3))
    (kk : W p l e R s m args below meth c H locs cells slots Q (F0 m (pc + 3) ls (v :: rest))) : W p l e R s m args below meth c H locs cells slots Q (F0 m pc ls (.ref a :: rest)) := by
  obtain ⟨q0, hq, -⟩ := z_obj hw hL hk h13
  obtain ⟨hx, hb, -, hown, hts⟩ := hcf
  exact va_get hx hb hts hin hown hK hw.1 q0 hq hc i hi (hts _ hlink) hsame (by rw [z_fl_get ht, hj, hv]) hdg kk
theorem z_getN {maxL : Nat} {Ts : List Cond} {own ref C host : String} {T : u_T} {N k index i j t : Nat} {v : Value} (hcf : CallFix p m c cc maxL s args Ts own) (hK : zKK cD cy s) (hw : zPw cD cy A H0 S H locs) (hin : ∀ w ∈ u_ws C T N, w ∈ Ts) (hL : a ∈ zL S) (hk : zK S a = k) (hc : vwCl[k]? = some (C, T, N)) (hi : i < N) (h13 : k < 13) (ht : (z_ft k)[i]? = some t) (hj : z_bs k + i = j) (hv : z_v S a t j = v) (hlink : va_Nw (.fieldLinkNest own index ref (T i).2.1 (T i).2.2.1 host) s) (hsame : ∀ x, s.fieldFound? (T i).1 (T i).2.1 (T i).2.2.1 = some x → s.fieldFound? ref (T i).2.1 (T i).2.2.1 = some x) (hdg : decode cc pc = .ok (.getfield index, 3))
    (kk : W p l e R s m args below meth c H locs cells slots Q (F0 m (pc + 3) ls (v :: rest))) : W p l e R s m args below meth c H locs cells slots Q (F0 m pc ls (.ref a :: rest)) := by
  obtain ⟨q0, hq, -⟩ := z_obj hw hL hk h13
  obtain ⟨hx, hb, -, hown, hts⟩ := hcf
  exact va_getN hx hb hts hin hown hK hw.1 q0 hq hc i hi (va_Nw.use rfl hlink) hsame (by rw [z_fl_get ht, hj, hv]) hdg kk
theorem z_putI {maxL : Nat} {Ts : List Cond} {own ref C : String} {T : u_T} {N k index i j : Nat} (ty0 : Nat → FieldType) (hcf : CallFix p m c cc maxL s args Ts own) (hK : zKK cD cy s) (hw : zPw cD cy A H0 S H locs) (hin : ∀ w ∈ u_ws C T N, w ∈ Ts) (hty : ∀ k, k < N → parseFieldDescriptor (T k).2.2.1 = some (ty0 k)) (hnm : ∀ a, a < N → ∀ b, b < N → a ≠ b → (T a).2.1 ≠ (T b).2.1) (hL : a ∈ zL S) (hk : zK S a = k) (hc : vwCl[k]? = some (C, T, N)) (hi : i < N) (h13 : k < 13) (hj : z_bs k + i = j) (ht : (z_ft k)[i]? = some 0) (hlink : Cond.fieldLink own index ref (T i).2.1 (T i).2.2.1 ∈ Ts) (hsame : ∀ x, s.fieldFound? (T i).1 (T i).2.1 (T i).2.2.1 = some x → s.fieldFound? ref (T i).2.1 (T i).2.2.1 = some x) (hfin : (T i).2.2.2 = false) {ty : FieldType} {x : Int32} {v : Value} (hv : .int x = v) (hd : parseFieldDescriptor (T i).2.2.1 = some ty) (hn : narrow ty v = v) (hfit : fits ty v = true) (hdg : decode cc pc = .ok (.putfield index, 3))
    (kk : ∀ (H1 : Heap) (locs1 : List Loc), zPw cD cy A H0 (zsI S j a x) H1 locs1 → W p l e R s m args below meth c H1 locs1 cells slots Q (F0 m (pc + 3) ls rest)) : W p l e R s m args below meth c H locs cells slots Q (F0 m pc ls (v :: .ref a :: rest)) := by
  subst hv
  obtain ⟨q0, hq, hq0⟩ := z_obj hw hL hk h13
  obtain ⟨hx, hb, -, hown, hts⟩ := hcf
  have hlen : i < (z_fl S a (z_ft k) (z_bs k)).length := by rw [z_fl_len]; exact (List.getElem?_eq_some_iff.mp ht).1
  refine va_put hx hb hts hin ty0 hty hnm hown hK hw.1 hw.2.1 hw.2.2 q0 hq hc i hi (hts _ hlink) hsame hfin hd hn hfit hlen hdg fun H1 locs1 hP hD hS => ?_
  have e := zW_set (cy := cy) (S' := zsI S j a x) hw.2.1 hL hq0 rfl (fun b => by rw [← hj]; exact zF_setI hk h13 ht b)
  rw [e] at hP hD
  exact kk H1 locs1 ⟨hP, hD, hS⟩
theorem z_putIF {maxL : Nat} {Ts : List Cond} {own ref C : String} {T : u_T} {N k index i j : Nat} (ty0 : Nat → FieldType) (hcf : CallFix p m c cc maxL s args Ts own) (hK : zKK cD cy s) (hw : zPw cD cy A H0 S H locs) (hin : ∀ w ∈ u_ws C T N, w ∈ Ts) (hty : ∀ k, k < N → parseFieldDescriptor (T k).2.2.1 = some (ty0 k)) (hnm : ∀ a, a < N → ∀ b, b < N → a ≠ b → (T a).2.1 ≠ (T b).2.1) (hL : a ∈ zL S) (hk : zK S a = k) (hc : vwCl[k]? = some (C, T, N)) (hi : i < N) (h13 : k < 13) (hj : z_bs k + i = j) (ht : (z_ft k)[i]? = some 0) (hlink : Cond.fieldLink own index ref (T i).2.1 (T i).2.2.1 ∈ Ts) (hsame : ∀ x, s.fieldFound? (T i).1 (T i).2.1 (T i).2.2.1 = some x → s.fieldFound? ref (T i).2.1 (T i).2.2.1 = some x) (hfin : (T i).2.2.2 = true) (hin2 : meth.name = "<init>") (hdecl : (T i).1 = own) {ty : FieldType} {x : Int32} {v : Value} (hv : .int x = v) (hd : parseFieldDescriptor (T i).2.2.1 = some ty) (hn : narrow ty v = v) (hfit : fits ty v = true) (hdg : decode cc pc = .ok (.putfield index, 3))
    (kk : ∀ (H1 : Heap) (locs1 : List Loc), zPw cD cy A H0 (zsI S j a x) H1 locs1 → W p l e R s m args below meth c H1 locs1 cells slots Q (F0 m (pc + 3) ls rest)) : W p l e R s m args below meth c H locs cells slots Q (F0 m pc ls (v :: .ref a :: rest)) := by
  subst hv
  obtain ⟨q0, hq, hq0⟩ := z_obj hw hL hk h13
  obtain ⟨hx, hb, -, hown, hts⟩ := hcf
  have hlen : i < (z_fl S a (z_ft k) (z_bs k)).length := by rw [z_fl_len]; exact (List.getElem?_eq_some_iff.mp ht).1
  refine va_putF hx hb hts hin ty0 hty hnm hown hK hw.1 hw.2.1 hw.2.2 q0 hq hc i hi (hts _ hlink) hsame hfin hin2 hdecl hd hn hfit hlen hdg fun H1 locs1 hP hD hS => ?_
  have e := zW_set (cy := cy) (S' := zsI S j a x) hw.2.1 hL hq0 rfl (fun b => by rw [← hj]; exact zF_setI hk h13 ht b)
  rw [e] at hP hD
  exact kk H1 locs1 ⟨hP, hD, hS⟩
theorem z_putIN {maxL : Nat} {Ts : List Cond} {own ref C host : String} {T : u_T} {N k index i j : Nat} (ty0 : Nat → FieldType) (hcf : CallFix p m c cc maxL s args Ts own) (hK : zKK cD cy s) (hw : zPw cD cy A H0 S H locs) (hin : ∀ w ∈ u_ws C T N, w ∈ Ts) (hty : ∀ k, k < N → parseFieldDescriptor (T k).2.2.1 = some (ty0 k)) (hnm : ∀ a, a < N → ∀ b, b < N → a ≠ b → (T a).2.1 ≠ (T b).2.1) (hL : a ∈ zL S) (hk : zK S a = k) (hc : vwCl[k]? = some (C, T, N)) (hi : i < N) (h13 : k < 13) (hj : z_bs k + i = j) (ht : (z_ft k)[i]? = some 0) (hlink : va_Nw (.fieldLinkNest own index ref (T i).2.1 (T i).2.2.1 host) s) (hsame : ∀ x, s.fieldFound? (T i).1 (T i).2.1 (T i).2.2.1 = some x → s.fieldFound? ref (T i).2.1 (T i).2.2.1 = some x) (hfin : (T i).2.2.2 = false) {ty : FieldType} {x : Int32} {v : Value} (hv : .int x = v) (hd : parseFieldDescriptor (T i).2.2.1 = some ty) (hn : narrow ty v = v) (hfit : fits ty v = true) (hdg : decode cc pc = .ok (.putfield index, 3))
    (kk : ∀ (H1 : Heap) (locs1 : List Loc), zPw cD cy A H0 (zsI S j a x) H1 locs1 → W p l e R s m args below meth c H1 locs1 cells slots Q (F0 m (pc + 3) ls rest)) : W p l e R s m args below meth c H locs cells slots Q (F0 m pc ls (v :: .ref a :: rest)) := by
  subst hv
  obtain ⟨q0, hq, hq0⟩ := z_obj hw hL hk h13
  obtain ⟨hx, hb, -, hown, hts⟩ := hcf
  have hlen : i < (z_fl S a (z_ft k) (z_bs k)).length := by rw [z_fl_len]; exact (List.getElem?_eq_some_iff.mp ht).1
  refine va_putN hx hb hts hin ty0 hty hnm hown hK hw.1 hw.2.1 hw.2.2 q0 hq hc i hi (va_Nw.use rfl hlink) hsame hfin hd hn hfit hlen hdg fun H1 locs1 hP hD hS => ?_
  have e := zW_set (cy := cy) (S' := zsI S j a x) hw.2.1 hL hq0 rfl (fun b => by rw [← hj]; exact zF_setI hk h13 ht b)
  rw [e] at hP hD
  exact kk H1 locs1 ⟨hP, hD, hS⟩
theorem z_putJ {maxL : Nat} {Ts : List Cond} {own ref C : String} {T : u_T} {N k index i j : Nat} (ty0 : Nat → FieldType) (hcf : CallFix p m c cc maxL s args Ts own) (hK : zKK cD cy s) (hw : zPw cD cy A H0 S H locs) (hin : ∀ w ∈ u_ws C T N, w ∈ Ts) (hty : ∀ k, k < N → parseFieldDescriptor (T k).2.2.1 = some (ty0 k)) (hnm : ∀ a, a < N → ∀ b, b < N → a ≠ b → (T a).2.1 ≠ (T b).2.1) (hL : a ∈ zL S) (hk : zK S a = k) (hc : vwCl[k]? = some (C, T, N)) (hi : i < N) (h13 : k < 13) (hj : z_bs k + i = j) (ht : (z_ft k)[i]? = some 1) (hlink : Cond.fieldLink own index ref (T i).2.1 (T i).2.2.1 ∈ Ts) (hsame : ∀ x, s.fieldFound? (T i).1 (T i).2.1 (T i).2.2.1 = some x → s.fieldFound? ref (T i).2.1 (T i).2.2.1 = some x) (hfin : (T i).2.2.2 = false) {ty : FieldType} {x : Int64} {v : Value} (hv : .long x = v) (hd : parseFieldDescriptor (T i).2.2.1 = some ty) (hn : narrow ty v = v) (hfit : fits ty v = true) (hdg : decode cc pc = .ok (.putfield index, 3))
    (kk : ∀ (H1 : Heap) (locs1 : List Loc), zPw cD cy A H0 (zsJ S j a x) H1 locs1 → W p l e R s m args below meth c H1 locs1 cells slots Q (F0 m (pc + 3) ls rest)) : W p l e R s m args below meth c H locs cells slots Q (F0 m pc ls (v :: .ref a :: rest)) := by
  subst hv
  obtain ⟨q0, hq, hq0⟩ := z_obj hw hL hk h13
  obtain ⟨hx, hb, -, hown, hts⟩ := hcf
  have hlen : i < (z_fl S a (z_ft k) (z_bs k)).length := by rw [z_fl_len]; exact (List.getElem?_eq_some_iff.mp ht).1
  refine va_put hx hb hts hin ty0 hty hnm hown hK hw.1 hw.2.1 hw.2.2 q0 hq hc i hi (hts _ hlink) hsame hfin hd hn hfit hlen hdg fun H1 locs1 hP hD hS => ?_
  have e := zW_set (cy := cy) (S' := zsJ S j a x) hw.2.1 hL hq0 rfl (fun b => by rw [← hj]; exact zF_setJ hk h13 ht b)
  rw [e] at hP hD
  exact kk H1 locs1 ⟨hP, hD, hS⟩
theorem z_putJF {maxL : Nat} {Ts : List Cond} {own ref C : String} {T : u_T} {N k index i j : Nat} (ty0 : Nat → FieldType) (hcf : CallFix p m c cc maxL s args Ts own) (hK : zKK cD cy s) (hw : zPw cD cy A H0 S H locs) (hin : ∀ w ∈ u_ws C T N, w ∈ Ts) (hty : ∀ k, k < N → parseFieldDescriptor (T k).2.2.1 = some (ty0 k)) (hnm : ∀ a, a < N → ∀ b, b < N → a ≠ b → (T a).2.1 ≠ (T b).2.1) (hL : a ∈ zL S) (hk : zK S a = k) (hc : vwCl[k]? = some (C, T, N)) (hi : i < N) (h13 : k < 13) (hj : z_bs k + i = j) (ht : (z_ft k)[i]? = some 1) (hlink : Cond.fieldLink own index ref (T i).2.1 (T i).2.2.1 ∈ Ts) (hsame : ∀ x, s.fieldFound? (T i).1 (T i).2.1 (T i).2.2.1 = some x → s.fieldFound? ref (T i).2.1 (T i).2.2.1 = some x) (hfin : (T i).2.2.2 = true) (hin2 : meth.name = "<init>") (hdecl : (T i).1 = own) {ty : FieldType} {x : Int64} {v : Value} (hv : .long x = v) (hd : parseFieldDescriptor (T i).2.2.1 = some ty) (hn : narrow ty v = v) (hfit : fits ty v = true) (hdg : decode cc pc = .ok (.putfield index, 3))
    (kk : ∀ (H1 : Heap) (locs1 : List Loc), zPw cD cy A H0 (zsJ S j a x) H1 locs1 → W p l e R s m args below meth c H1 locs1 cells slots Q (F0 m (pc + 3) ls rest)) : W p l e R s m args below meth c H locs cells slots Q (F0 m pc ls (v :: .ref a :: rest)) := by
  subst hv
  obtain ⟨q0, hq, hq0⟩ := z_obj hw hL hk h13
  obtain ⟨hx, hb, -, hown, hts⟩ := hcf
  have hlen : i < (z_fl S a (z_ft k) (z_bs k)).length := by rw [z_fl_len]; exact (List.getElem?_eq_some_iff.mp ht).1
  refine va_putF hx hb hts hin ty0 hty hnm hown hK hw.1 hw.2.1 hw.2.2 q0 hq hc i hi (hts _ hlink) hsame hfin hin2 hdecl hd hn hfit hlen hdg fun H1 locs1 hP hD hS => ?_
  have e := zW_set (cy := cy) (S' := zsJ S j a x) hw.2.1 hL hq0 rfl (fun b => by rw [← hj]; exact zF_setJ hk h13 ht b)
  rw [e] at hP hD
  exact kk H1 locs1 ⟨hP, hD, hS⟩
theorem z_putJN {maxL : Nat} {Ts : List Cond} {own ref C host : String} {T : u_T} {N k index i j : Nat} (ty0 : Nat → FieldType) (hcf : CallFix p m c cc maxL s args Ts own) (hK : zKK cD cy s) (hw : zPw cD cy A H0 S H locs) (hin : ∀ w ∈ u_ws C T N, w ∈ Ts) (hty : ∀ k, k < N → parseFieldDescriptor (T k).2.2.1 = some (ty0 k)) (hnm : ∀ a, a < N → ∀ b, b < N → a ≠ b → (T a).2.1 ≠ (T b).2.1) (hL : a ∈ zL S) (hk : zK S a = k) (hc : vwCl[k]? = some (C, T, N)) (hi : i < N) (h13 : k < 13) (hj : z_bs k + i = j) (ht : (z_ft k)[i]? = some 1) (hlink : va_Nw (.fieldLinkNest own index ref (T i).2.1 (T i).2.2.1 host) s) (hsame : ∀ x, s.fieldFound? (T i).1 (T i).2.1 (T i).2.2.1 = some x → s.fieldFound? ref (T i).2.1 (T i).2.2.1 = some x) (hfin : (T i).2.2.2 = false) {ty : FieldType} {x : Int64} {v : Value} (hv : .long x = v) (hd : parseFieldDescriptor (T i).2.2.1 = some ty) (hn : narrow ty v = v) (hfit : fits ty v = true) (hdg : decode cc pc = .ok (.putfield index, 3))
    (kk : ∀ (H1 : Heap) (locs1 : List Loc), zPw cD cy A H0 (zsJ S j a x) H1 locs1 → W p l e R s m args below meth c H1 locs1 cells slots Q (F0 m (pc + 3) ls rest)) : W p l e R s m args below meth c H locs cells slots Q (F0 m pc ls (v :: .ref a :: rest)) := by
  subst hv
  obtain ⟨q0, hq, hq0⟩ := z_obj hw hL hk h13
  obtain ⟨hx, hb, -, hown, hts⟩ := hcf
  have hlen : i < (z_fl S a (z_ft k) (z_bs k)).length := by rw [z_fl_len]; exact (List.getElem?_eq_some_iff.mp ht).1
  refine va_putN hx hb hts hin ty0 hty hnm hown hK hw.1 hw.2.1 hw.2.2 q0 hq hc i hi (va_Nw.use rfl hlink) hsame hfin hd hn hfit hlen hdg fun H1 locs1 hP hD hS => ?_
  have e := zW_set (cy := cy) (S' := zsJ S j a x) hw.2.1 hL hq0 rfl (fun b => by rw [← hj]; exact zF_setJ hk h13 ht b)
  rw [e] at hP hD
  exact kk H1 locs1 ⟨hP, hD, hS⟩
theorem z_putQ {maxL : Nat} {Ts : List Cond} {own ref C : String} {T : u_T} {N k index i j : Nat} (ty0 : Nat → FieldType) (hcf : CallFix p m c cc maxL s args Ts own) (hK : zKK cD cy s) (hw : zPw cD cy A H0 S H locs) (hin : ∀ w ∈ u_ws C T N, w ∈ Ts) (hty : ∀ k, k < N → parseFieldDescriptor (T k).2.2.1 = some (ty0 k)) (hnm : ∀ a, a < N → ∀ b, b < N → a ≠ b → (T a).2.1 ≠ (T b).2.1) (hL : a ∈ zL S) (hk : zK S a = k) (hc : vwCl[k]? = some (C, T, N)) (hi : i < N) (h13 : k < 13) (hj : z_bs k + i = j) (ht : (z_ft k)[i]? = some 2) (hlink : Cond.fieldLink own index ref (T i).2.1 (T i).2.2.1 ∈ Ts) (hsame : ∀ x, s.fieldFound? (T i).1 (T i).2.1 (T i).2.2.1 = some x → s.fieldFound? ref (T i).2.1 (T i).2.2.1 = some x) (hfin : (T i).2.2.2 = false) {ty : FieldType} {x : Option Nat} {v : Value} (hv : va_rf x = v) (hd : parseFieldDescriptor (T i).2.2.1 = some ty) (hn : narrow ty v = v) (hfit : fits ty v = true) (hdg : decode cc pc = .ok (.putfield index, 3))
    (kk : ∀ (H1 : Heap) (locs1 : List Loc), zPw cD cy A H0 (zsQ S j a x) H1 locs1 → W p l e R s m args below meth c H1 locs1 cells slots Q (F0 m (pc + 3) ls rest)) : W p l e R s m args below meth c H locs cells slots Q (F0 m pc ls (v :: .ref a :: rest)) := by
  subst hv
  obtain ⟨q0, hq, hq0⟩ := z_obj hw hL hk h13
  obtain ⟨hx, hb, -, hown, hts⟩ := hcf
  have hlen : i < (z_fl S a (z_ft k) (z_bs k)).length := by rw [z_fl_len]; exact (List.getElem?_eq_some_iff.mp ht).1
  refine va_put hx hb hts hin ty0 hty hnm hown hK hw.1 hw.2.1 hw.2.2 q0 hq hc i hi (hts _ hlink) hsame hfin hd hn hfit hlen hdg fun H1 locs1 hP hD hS => ?_
  have e := zW_set (cy := cy) (S' := zsQ S j a x) hw.2.1 hL hq0 rfl (fun b => by rw [← hj]; exact zF_setQ hk h13 ht b)
  rw [e] at hP hD
  exact kk H1 locs1 ⟨hP, hD, hS⟩
theorem z_putQF {maxL : Nat} {Ts : List Cond} {own ref C : String} {T : u_T} {N k index i j : Nat} (ty0 : Nat → FieldType) (hcf : CallFix p m c cc maxL s args Ts own) (hK : zKK cD cy s) (hw : zPw cD cy A H0 S H locs) (hin : ∀ w ∈ u_ws C T N, w ∈ Ts) (hty : ∀ k, k < N → parseFieldDescriptor (T k).2.2.1 = some (ty0 k)) (hnm : ∀ a, a < N → ∀ b, b < N → a ≠ b → (T a).2.1 ≠ (T b).2.1) (hL : a ∈ zL S) (hk : zK S a = k) (hc : vwCl[k]? = some (C, T, N)) (hi : i < N) (h13 : k < 13) (hj : z_bs k + i = j) (ht : (z_ft k)[i]? = some 2) (hlink : Cond.fieldLink own index ref (T i).2.1 (T i).2.2.1 ∈ Ts) (hsame : ∀ x, s.fieldFound? (T i).1 (T i).2.1 (T i).2.2.1 = some x → s.fieldFound? ref (T i).2.1 (T i).2.2.1 = some x) (hfin : (T i).2.2.2 = true) (hin2 : meth.name = "<init>") (hdecl : (T i).1 = own) {ty : FieldType} {x : Option Nat} {v : Value} (hv : va_rf x = v) (hd : parseFieldDescriptor (T i).2.2.1 = some ty) (hn : narrow ty v = v) (hfit : fits ty v = true) (hdg : decode cc pc = .ok (.putfield index, 3))
    (kk : ∀ (H1 : Heap) (locs1 : List Loc), zPw cD cy A H0 (zsQ S j a x) H1 locs1 → W p l e R s m args below meth c H1 locs1 cells slots Q (F0 m (pc + 3) ls rest)) : W p l e R s m args below meth c H locs cells slots Q (F0 m pc ls (v :: .ref a :: rest)) := by
  subst hv
  obtain ⟨q0, hq, hq0⟩ := z_obj hw hL hk h13
  obtain ⟨hx, hb, -, hown, hts⟩ := hcf
  have hlen : i < (z_fl S a (z_ft k) (z_bs k)).length := by rw [z_fl_len]; exact (List.getElem?_eq_some_iff.mp ht).1
  refine va_putF hx hb hts hin ty0 hty hnm hown hK hw.1 hw.2.1 hw.2.2 q0 hq hc i hi (hts _ hlink) hsame hfin hin2 hdecl hd hn hfit hlen hdg fun H1 locs1 hP hD hS => ?_
  have e := zW_set (cy := cy) (S' := zsQ S j a x) hw.2.1 hL hq0 rfl (fun b => by rw [← hj]; exact zF_setQ hk h13 ht b)
  rw [e] at hP hD
  exact kk H1 locs1 ⟨hP, hD, hS⟩
theorem z_putQN {maxL : Nat} {Ts : List Cond} {own ref C host : String} {T : u_T} {N k index i j : Nat} (ty0 : Nat → FieldType) (hcf : CallFix p m c cc maxL s args Ts own) (hK : zKK cD cy s) (hw : zPw cD cy A H0 S H locs) (hin : ∀ w ∈ u_ws C T N, w ∈ Ts) (hty : ∀ k, k < N → parseFieldDescriptor (T k).2.2.1 = some (ty0 k)) (hnm : ∀ a, a < N → ∀ b, b < N → a ≠ b → (T a).2.1 ≠ (T b).2.1) (hL : a ∈ zL S) (hk : zK S a = k) (hc : vwCl[k]? = some (C, T, N)) (hi : i < N) (h13 : k < 13) (hj : z_bs k + i = j) (ht : (z_ft k)[i]? = some 2) (hlink : va_Nw (.fieldLinkNest own index ref (T i).2.1 (T i).2.2.1 host) s) (hsame : ∀ x, s.fieldFound? (T i).1 (T i).2.1 (T i).2.2.1 = some x → s.fieldFound? ref (T i).2.1 (T i).2.2.1 = some x) (hfin : (T i).2.2.2 = false) {ty : FieldType} {x : Option Nat} {v : Value} (hv : va_rf x = v) (hd : parseFieldDescriptor (T i).2.2.1 = some ty) (hn : narrow ty v = v) (hfit : fits ty v = true) (hdg : decode cc pc = .ok (.putfield index, 3))
    (kk : ∀ (H1 : Heap) (locs1 : List Loc), zPw cD cy A H0 (zsQ S j a x) H1 locs1 → W p l e R s m args below meth c H1 locs1 cells slots Q (F0 m (pc + 3) ls rest)) : W p l e R s m args below meth c H locs cells slots Q (F0 m pc ls (v :: .ref a :: rest)) := by
  subst hv
  obtain ⟨q0, hq, hq0⟩ := z_obj hw hL hk h13
  obtain ⟨hx, hb, -, hown, hts⟩ := hcf
  have hlen : i < (z_fl S a (z_ft k) (z_bs k)).length := by rw [z_fl_len]; exact (List.getElem?_eq_some_iff.mp ht).1
  refine va_putN hx hb hts hin ty0 hty hnm hown hK hw.1 hw.2.1 hw.2.2 q0 hq hc i hi (va_Nw.use rfl hlink) hsame hfin hd hn hfit hlen hdg fun H1 locs1 hP hD hS => ?_
  have e := zW_set (cy := cy) (S' := zsQ S j a x) hw.2.1 hL hq0 rfl (fun b => by rw [← hj]; exact zF_setQ hk h13 ht b)
  rw [e] at hP hD
  exact kk H1 locs1 ⟨hP, hD, hS⟩
/-- arrays -/
theorem z_iald {maxL : Nat} {Ts : List Cond} {own : String} {n : Nat} {i : Int32} (hcf : CallFix p m c cc maxL s args Ts own) (hK : zKK cD cy s) (hw : zPw cD cy A H0 S H locs) (hL : a ∈ zL S) (hk : zK S a = 13) (hn : zN S a = n) (hin : vp_in i n) (hdg : decode cc pc = .ok (.iaload, 1))
    (kk : W p l e R s m args below meth c H locs cells slots Q (F0 m (pc + 1) ls (.int (zA S a i.toNatClampNeg) :: rest))) : W p l e R s m args below meth c H locs cells slots Q (F0 m pc ls (.int i :: .ref a :: rest)) := by
  obtain ⟨q0, hq⟩ := zW_get (cy := cy) hL
  rw [zF_i hk, hn] at hq
  exact va_iald hcf.1 hcf.2.1 hK hw.1 q0 0 hq rfl hin hdg kk
theorem z_lald {maxL : Nat} {Ts : List Cond} {own : String} {n : Nat} {i : Int32} (hcf : CallFix p m c cc maxL s args Ts own) (hK : zKK cD cy s) (hw : zPw cD cy A H0 S H locs) (hL : a ∈ zL S) (hk : zK S a = 14) (hn : zN S a = n) (hin : vp_in i n) (hdg : decode cc pc = .ok (.laload, 1))
    (kk : W p l e R s m args below meth c H locs cells slots Q (F0 m (pc + 1) ls (.long (zB S a i.toNatClampNeg) :: rest))) : W p l e R s m args below meth c H locs cells slots Q (F0 m pc ls (.int i :: .ref a :: rest)) := by
  obtain ⟨q0, hq⟩ := zW_get (cy := cy) hL
  rw [zF_l hk, hn] at hq
  exact va_lald hcf.1 hcf.2.1 hK hw.1 q0 1 hq rfl hin hdg kk
theorem z_pald {maxL : Nat} {Ts : List Cond} {own : String} {n : Nat} {i : Int32} (hcf : CallFix p m c cc maxL s args Ts own) (hK : zKK cD cy s) (hw : zPw cD cy A H0 S H locs) (hL : a ∈ zL S) (hk : zK S a = 15) (hn : zN S a = n) (hin : vp_in i n) {v : Value} (hv : va_rf (zR S a i.toNatClampNeg) = v) (hdg : decode cc pc = .ok (.aaload, 1))
    (kk : W p l e R s m args below meth c H locs cells slots Q (F0 m (pc + 1) ls (v :: rest))) : W p l e R s m args below meth c H locs cells slots Q (F0 m pc ls (.int i :: .ref a :: rest)) := by
  subst hv
  obtain ⟨q0, hq⟩ := zW_get (cy := cy) hL
  rw [zF_p hk, hn] at hq
  exact va_aldq hcf.1 hcf.2.1 hK hw.1 q0 2 hq rfl hin hdg kk
theorem z_qald {maxL : Nat} {Ts : List Cond} {own : String} {n : Nat} {i : Int32} (hcf : CallFix p m c cc maxL s args Ts own) (hK : zKK cD cy s) (hw : zPw cD cy A H0 S H locs) (hL : a ∈ zL S) (hk : zK S a = 16) (hn : zN S a = n) (hin : vp_in i n) {v : Value} (hv : va_rf (zR S a i.toNatClampNeg) = v) (hdg : decode cc pc = .ok (.aaload, 1))
    (kk : W p l e R s m args below meth c H locs cells slots Q (F0 m (pc + 1) ls (v :: rest))) : W p l e R s m args below meth c H locs cells slots Q (F0 m pc ls (.int i :: .ref a :: rest)) := by
  subst hv
  obtain ⟨q0, hq⟩ := zW_get (cy := cy) hL
  rw [zF_q hk, hn] at hq
  exact va_aldq hcf.1 hcf.2.1 hK hw.1 q0 3 hq rfl hin hdg kk
theorem z_iast {maxL : Nat} {Ts : List Cond} {own : String} {n : Nat} {i x : Int32} (hcf : CallFix p m c cc maxL s args Ts own) (hK : zKK cD cy s) (hw : zPw cD cy A H0 S H locs) (hL : a ∈ zL S) (hk : zK S a = 13) (hn : zN S a = n) (hin : vp_in i n) (hdg : decode cc pc = .ok (.iastore, 1))
    (kk : ∀ (H1 : Heap) (locs1 : List Loc), zPw cD cy A H0 (zsA S a (upd (zA S a) i.toNatClampNeg x)) H1 locs1 → W p l e R s m args below meth c H1 locs1 cells slots Q (F0 m (pc + 1) ls rest)) : W p l e R s m args below meth c H locs cells slots Q (F0 m pc ls (.int x :: .int i :: .ref a :: rest)) := by
  obtain ⟨q0, hq0⟩ := zW_get (cy := cy) hL
  have hq := hq0
  subst hn
  rw [zF_i hk] at hq
  refine va_iast hcf.1 hcf.2.1 hK hw.1 hw.2.1 hw.2.2 q0 0 hq rfl hin hdg fun H1 locs1 hP hD hS => ?_
  have e := zW_set (cy := cy) (S' := zsA S a (upd (zA S a) i.toNatClampNeg x)) hw.2.1 hL hq0 rfl (fun b => zF_setA hk b)
  rw [e] at hP hD
  exact kk H1 locs1 ⟨hP, hD, hS⟩
theorem z_last {maxL : Nat} {Ts : List Cond} {own : String} {n : Nat} {i : Int32} {x : Int64} (hcf : CallFix p m c cc maxL s args Ts own) (hK : zKK cD cy s) (hw : zPw cD cy A H0 S H locs) (hL : a ∈ zL S) (hk : zK S a = 14) (hn : zN S a = n) (hin : vp_in i n) (hdg : decode cc pc = .ok (.lastore, 1))
    (kk : ∀ (H1 : Heap) (locs1 : List Loc), zPw cD cy A H0 (zsB S a (vp_updL (zB S a) i.toNatClampNeg x)) H1 locs1 → W p l e R s m args below meth c H1 locs1 cells slots Q (F0 m (pc + 1) ls rest)) : W p l e R s m args below meth c H locs cells slots Q (F0 m pc ls (.long x :: .int i :: .ref a :: rest)) := by
  obtain ⟨q0, hq0⟩ := zW_get (cy := cy) hL
  have hq := hq0
  subst hn
  rw [zF_l hk] at hq
  refine va_last hcf.1 hcf.2.1 hK hw.1 hw.2.1 hw.2.2 q0 1 hq rfl hin hdg fun H1 locs1 hP hD hS => ?_
  have e := zW_set (cy := cy) (S' := zsB S a (vp_updL (zB S a) i.toNatClampNeg x)) hw.2.1 hL hq0 rfl (fun b => zF_setB hk b)
  rw [e] at hP hD
  exact kk H1 locs1 ⟨hP, hD, hS⟩
/-- a Shelf into the array of Shelves -/
theorem z_past {maxL : Nat} {Ts : List Cond} {own : String} {n v : Nat} {i : Int32} (hcf : CallFix p m c cc maxL s args Ts own) (hK : zKK cD cy s) (hw : zPw cD cy A H0 S H locs) (hL : a ∈ zL S) (hk : zK S a = 15) (hn : zN S a = n) (hLv : v ∈ zL S) (hkv : zK S v = 7) (hin : vp_in i n) (hdg : decode cc pc = .ok (.aastore, 1))
    (kk : ∀ (H1 : Heap) (locs1 : List Loc), zPw cD cy A H0 (zsR S a (va_up (zR S a) i.toNatClampNeg (some v))) H1 locs1 → W p l e R s m args below meth c H1 locs1 cells slots Q (F0 m (pc + 1) ls rest)) : W p l e R s m args below meth c H locs cells slots Q (F0 m pc ls (.ref v :: .int i :: .ref a :: rest)) := by
  obtain ⟨q0, hq0⟩ := zW_get (cy := cy) hL
  obtain ⟨qv, hqv, -⟩ := z_obj (cy := cy) hw hLv hkv (by decide)
  have hq := hq0
  subst hn
  rw [zF_p hk] at hq
  refine va_astq (ci := 7) (r := (RX7, TX7, 4)) hcf.1 hcf.2.1 hK hw.1 hw.2.1 hw.2.2 q0 2 qv hq rfl hqv rfl hin hdg fun H1 locs1 hP hD hS => ?_
  have e := zW_set (cy := cy) (S' := zsR S a (va_up (zR S a) i.toNatClampNeg (some v))) hw.2.1 hL hq0 rfl (fun b => zF_setP hk b)
  rw [e] at hP hD
  exact kk H1 locs1 ⟨hP, hD, hS⟩
/-- null into the array of Strips -/
theorem z_qastN {maxL : Nat} {Ts : List Cond} {own : String} {n : Nat} {i : Int32} (hcf : CallFix p m c cc maxL s args Ts own) (hK : zKK cD cy s) (hw : zPw cD cy A H0 S H locs) (hL : a ∈ zL S) (hk : zK S a = 16) (hn : zN S a = n) (hin : vp_in i n) (hdg : decode cc pc = .ok (.aastore, 1))
    (kk : ∀ (H1 : Heap) (locs1 : List Loc), zPw cD cy A H0 (zsR S a (va_up (zR S a) i.toNatClampNeg none)) H1 locs1 → W p l e R s m args below meth c H1 locs1 cells slots Q (F0 m (pc + 1) ls rest)) : W p l e R s m args below meth c H locs cells slots Q (F0 m pc ls (.null :: .int i :: .ref a :: rest)) := by
  obtain ⟨q0, hq0⟩ := zW_get (cy := cy) hL
  have hq := hq0
  subst hn
  rw [zF_q hk] at hq
  refine va_astqN hcf.1 hcf.2.1 hK hw.1 hw.2.1 hw.2.2 q0 3 hq rfl hin hdg fun H1 locs1 hP hD hS => ?_
  have e := zW_set (cy := cy) (S' := zsR S a (va_up (zR S a) i.toNatClampNeg none)) hw.2.1 hL hq0 rfl (fun b => zF_setR hk b)
  rw [e] at hP hD
  exact kk H1 locs1 ⟨hP, hD, hS⟩
theorem z_alen {maxL : Nat} {Ts : List Cond} {own : String} {n : Nat} {v : Int32} (hcf : CallFix p m c cc maxL s args Ts own) (hK : zKK cD cy s) (hw : zPw cD cy A H0 S H locs) (hL : a ∈ zL S) (hk : zK S a = 13 ∨ zK S a = 14 ∨ zK S a = 15 ∨ zK S a = 16) (hn : zN S a = n) (hv : Int32.ofNat n = v) (hdg : decode cc pc = .ok (.arraylength, 1))
    (kk : W p l e R s m args below meth c H locs cells slots Q (F0 m (pc + 1) ls (.int v :: rest))) : W p l e R s m args below meth c H locs cells slots Q (F0 m pc ls (.ref a :: rest)) := by
  obtain ⟨q0, hq⟩ := zW_get (cy := cy) hL
  rcases hk with hk | hk | hk | hk
  · rw [zF_i hk, hn] at hq
    exact va_alen hcf.1 hcf.2.1 hK hw.1 q0 0 hq (ty := .int) rfl hv hdg kk
  · rw [zF_l hk, hn] at hq
    exact va_alen hcf.1 hcf.2.1 hK hw.1 q0 1 hq (ty := .long) rfl hv hdg kk
  · rw [zF_p hk, hn] at hq
    exact va_alen hcf.1 hcf.2.1 hK hw.1 q0 2 hq (ty := .object "FoldedInHalf$Shelf") rfl hv hdg kk
  · rw [zF_q hk, hn] at hq
    exact va_alen hcf.1 hcf.2.1 hK hw.1 q0 3 hq (ty := .object "FoldedInHalf$Strip") rfl hv hdg kk
theorem z_tyI {cA : ClassId} (hK : va_K cD vwCl (z_tys cy ++ [(cA, .int)]) s) : cA = cy 0 := by
  have h1 := (hK.2 0 (cy 0, .int) rfl).2
  have h2 := (hK.2 4 (cA, .int) rfl).2
  exact (Option.some.inj ((show s.vm.findClass _ = some (cy 0) from h1).symm.trans h2)).symm
theorem z_tyL {cA : ClassId} (hK : va_K cD vwCl (z_tys cy ++ [(cA, .long)]) s) : cA = cy 1 := by
  have h1 := (hK.2 1 (cy 1, .long) rfl).2
  have h2 := (hK.2 4 (cA, .long) rfl).2
  exact (Option.some.inj ((show s.vm.findClass _ = some (cy 1) from h1).symm.trans h2)).symm
theorem z_tyP {cA : ClassId} (hK : va_K cD vwCl (z_tys cy ++ [(cA, .object "FoldedInHalf$Shelf")]) s) : cA = cy 2 := by
  obtain ⟨_, _, _, _, _, h1⟩ := (hK.2 2 (cy 2, .object "FoldedInHalf$Shelf") rfl).2
  obtain ⟨_, _, _, _, _, h2⟩ := (hK.2 4 (cA, .object "FoldedInHalf$Shelf") rfl).2
  exact (Option.some.inj (h1.symm.trans h2)).symm
theorem z_tyQ {cA : ClassId} (hK : va_K cD vwCl (z_tys cy ++ [(cA, .object "FoldedInHalf$Strip")]) s) : cA = cy 3 := by
  obtain ⟨_, _, _, _, _, h1⟩ := (hK.2 3 (cy 3, .object "FoldedInHalf$Strip") rfl).2
  obtain ⟨_, _, _, _, _, h2⟩ := (hK.2 4 (cA, .object "FoldedInHalf$Strip") rfl).2
  exact (Option.some.inj (h1.symm.trans h2)).symm
theorem z_newi {maxL N' : Nat} {Ts : List Cond} {own : String} {n : Int32} (hcf : CallFix p m c cc maxL s args Ts own) (hK : zKK cD cy s) (hw : zPw cD cy A H0 S H locs) (hA : ∀ q, H0.size ≤ q → A q) (harr : Cond.arrayClass .int ∈ Ts) (hn : ¬ n < 0) (hN : n.toNatClampNeg = N') (hbytes : N' * 4 ≤ 536870912) (hcells : cells + 1 ≤ R.cells) (hslots : slots + N' ≤ R.slots) (hdg : decode cc pc = .ok (.newarray .int, 2))
    (kk : ∀ (q : Nat) (H1 : Heap), q ∉ zL S → zPw cD cy A H0 (zNew S q 13 N') H1 locs → W p l e R s m args below meth c H1 locs (cells + 1) (slots + N') Q (F0 m (pc + 2) ls (.ref q :: rest))) : W p l e R s m args below meth c H locs cells slots Q (F0 m pc ls (.int n :: rest)) := by
  refine va_newa (atype := .int) (ty := .int) (a0 := (N', .inl (fun _ => 0))) hcf.1 hcf.2.1 (hcf.2.2.2.2 _ harr) rfl hK hw.1 hw.2.1 hw.2.2 hA (fun cA => rfl) hn hN hbytes hcells hslots hdg fun q cA H1 hK1 hP hD hS => ?_
  have hc := z_tyI hK1
  subst hc
  have hq : q ∉ zL S := va_pl_fresh2 (X := []) hD
  have e := zW_push (k := 13) (n := N') hD zF_newi
  rw [e] at hP hD
  exact kk q H1 hq ⟨hP, hD, hS⟩
theorem z_newl {maxL N' : Nat} {Ts : List Cond} {own : String} {n : Int32} (hcf : CallFix p m c cc maxL s args Ts own) (hK : zKK cD cy s) (hw : zPw cD cy A H0 S H locs) (hA : ∀ q, H0.size ≤ q → A q) (harr : Cond.arrayClass .long ∈ Ts) (hn : ¬ n < 0) (hN : n.toNatClampNeg = N') (hbytes : N' * 8 ≤ 536870912) (hcells : cells + 1 ≤ R.cells) (hslots : slots + N' ≤ R.slots) (hdg : decode cc pc = .ok (.newarray .long, 2))
    (kk : ∀ (q : Nat) (H1 : Heap), q ∉ zL S → zPw cD cy A H0 (zNew S q 14 N') H1 locs → W p l e R s m args below meth c H1 locs (cells + 1) (slots + N') Q (F0 m (pc + 2) ls (.ref q :: rest))) : W p l e R s m args below meth c H locs cells slots Q (F0 m pc ls (.int n :: rest)) := by
  refine va_newa (atype := .long) (ty := .long) (a0 := (N', .inr (.inl (fun _ => 0)))) hcf.1 hcf.2.1 (hcf.2.2.2.2 _ harr) rfl hK hw.1 hw.2.1 hw.2.2 hA (fun cA => rfl) hn hN hbytes hcells hslots hdg fun q cA H1 hK1 hP hD hS => ?_
  have hc := z_tyL hK1
  subst hc
  have hq : q ∉ zL S := va_pl_fresh2 (X := []) hD
  have e := zW_push (k := 14) (n := N') hD zF_newl
  rw [e] at hP hD
  exact kk q H1 hq ⟨hP, hD, hS⟩
theorem z_newp {maxL N' index : Nat} {Ts : List Cond} {own : String} {n : Int32} (hcf : CallFix p m c cc maxL s args Ts own) (hK : zKK cD cy s) (hE : zE s) (hw : zPw cD cy A H0 S H locs) (hA : ∀ q, H0.size ≤ q → A q) (hcl : Cond.classLink own index "FoldedInHalf$Shelf" ∈ Ts) (hn : ¬ n < 0) (hN : n.toNatClampNeg = N') (hbytes : N' * 4 ≤ 536870912) (hcells : cells + 1 ≤ R.cells) (hslots : slots + N' ≤ R.slots) (hdg : decode cc pc = .ok (.anewarray index, 3))
    (kk : ∀ (q : Nat) (H1 : Heap), q ∉ zL S → zPw cD cy A H0 (zNew S q 15 N') H1 locs → W p l e R s m args below meth c H1 locs (cells + 1) (slots + N') Q (F0 m (pc + 3) ls (.ref q :: rest))) : W p l e R s m args below meth c H locs cells slots Q (F0 m pc ls (.int n :: rest)) := by
  refine va_newq hcf.1 hcf.2.1 hcf.2.2.2.1 (hcf.2.2.2.2 _ hcl) hE.2.1 hK hw.1 hw.2.1 hw.2.2 hA hn hN hbytes hcells hslots hdg fun q cA H1 hK1 hP hD hS => ?_
  have hc := z_tyP hK1
  subst hc
  have hq : q ∉ zL S := va_pl_fresh2 (X := []) hD
  have e := zW_push (k := 15) (n := N') hD zF_newp
  rw [e] at hP hD
  exact kk q H1 hq ⟨hP, hD, hS⟩
theorem z_newq {maxL N' index : Nat} {Ts : List Cond} {own : String} {n : Int32} (hcf : CallFix p m c cc maxL s args Ts own) (hK : zKK cD cy s) (hE : zE s) (hw : zPw cD cy A H0 S H locs) (hA : ∀ q, H0.size ≤ q → A q) (hcl : Cond.classLink own index "FoldedInHalf$Strip" ∈ Ts) (hn : ¬ n < 0) (hN : n.toNatClampNeg = N') (hbytes : N' * 4 ≤ 536870912) (hcells : cells + 1 ≤ R.cells) (hslots : slots + N' ≤ R.slots) (hdg : decode cc pc = .ok (.anewarray index, 3))
    (kk : ∀ (q : Nat) (H1 : Heap), q ∉ zL S → zPw cD cy A H0 (zNew S q 16 N') H1 locs → W p l e R s m args below meth c H1 locs (cells + 1) (slots + N') Q (F0 m (pc + 3) ls (.ref q :: rest))) : W p l e R s m args below meth c H locs cells slots Q (F0 m pc ls (.int n :: rest)) := by
  refine va_newq hcf.1 hcf.2.1 hcf.2.2.2.1 (hcf.2.2.2.2 _ hcl) hE.2.2 hK hw.1 hw.2.1 hw.2.2 hA hn hN hbytes hcells hslots hdg fun q cA H1 hK1 hP hD hS => ?_
  have hc := z_tyQ hK1
  subst hc
  have hq : q ∉ zL S := va_pl_fresh2 (X := []) hD
  have e := zW_push (k := 16) (n := N') hD zF_newq
  rw [e] at hP hD
  exact kk q H1 hq ⟨hP, hD, hS⟩
/-- new: an object of kind k -/
theorem z_new {maxL k N index : Nat} {Ts : List Cond} {own C : String} {T : u_T} (ty : Nat → FieldType) (hcf : CallFix p m c cc maxL s args Ts own) (hK : zKK cD cy s) (hw : zPw cD cy A H0 S H locs) (hA : ∀ q, H0.size ≤ q → A q) (hin : ∀ w ∈ u_ws C T N, w ∈ Ts) (hty : ∀ k, k < N → parseFieldDescriptor (T k).2.2.1 = some (ty k)) (hcl : Cond.classLink own index C ∈ Ts) (hinst : Cond.instantiable C N ∈ Ts) (hini : Cond.initialized C ∈ Ts) (hc : vwCl[k]? = some (C, T, N)) (h13 : k < 13) (hfs : ∀ j, j < N → defaultValue (ty j) = vp_V ((z_ft k).map z_d) j) (hcells : cells + 1 ≤ R.cells) (hslots : slots + N ≤ R.slots) (hdg : decode cc pc = .ok (.new index, 3))
    (kk : ∀ (q : Nat) (H1 : Heap), q ∉ zL S → zPw cD cy A H0 (zNew S q k 0) H1 locs → W p l e R s m args below meth c H1 locs (cells + 1) (slots + N) Q (F0 m (pc + 3) ls (.ref q :: rest))) : W p l e R s m args below meth c H locs cells slots Q (F0 m pc ls rest) := by
  refine va_new (ci := k) (fs := (z_ft k).map z_d) hcf.1 hcf.2.1 hcf.2.2.2.2 hin ty hty hcf.2.2.2.1 (hcf.2.2.2.2 _ hcl) (hcf.2.2.2.2 _ hinst) (hcf.2.2.2.2 _ hini) hK hw.1 hw.2.1 hw.2.2 hA hc hfs hcells hslots hdg fun q H1 hP hD hS => ?_
  have hq : q ∉ zL S := va_pl_fresh2 (X := []) hD
  have e := zW_push (k := k) (n := 0) hD (zF_newo h13)
  rw [e] at hP hD
  exact kk q H1 hq ⟨hP, hD, hS⟩
/-- what a call gives back -/
theorem z_free (hw : zPw cD cy A H0 S H locs) (hA : ∀ q, H0.size ≤ q → A q) : ∀ q, zAd cy S H.size q → A q := by
  intro q h
  rcases h with ⟨k, e, h⟩ | h
  · exact hw.2.1.2 k (q, e) h
  · exact hA q (Nat.le_trans hw.2.2.1 h)
theorem z_back {S1 : zS} {H1 : Heap} {locs1 : List Loc} (hw : zPw cD cy A H0 S H locs) (hA : ∀ q, H0.size ≤ q → A q) (h1 : va_P cD vwCl (zW cy S1) H1) (h2 : va_D (zAd cy S H.size) (zW cy S1)) (h3 : va_S A H0 H1 locs1) : zPw cD cy A H0 S1 H1 locs1 :=
  ⟨h1, h2.weaken (fun k q _ h => z_free hw hA q.1 h), h3⟩
theorem z_ki {post : Int32 → zS → Prop} {mc ms : Nat} {av : Array Value} (hw : zPw cD cy A H0 S H locs) (hA : ∀ q, H0.size ≤ q → A q) (hr : va_Run p l e R s m args below meth c H locs cells slots mc ms (F0 m pc ls st0) rest (va_Qi post (zPost cD cy (zAd cy S H.size)) (zAd cy S H.size) av) (zAd cy S H.size))
    (kk : ∀ (r : Int32) (S1 : zS) (H1 : Heap) (locs1 : List Loc), post r S1 → zPw cD cy A H0 S1 H1 locs1 → W p l e R s m args below meth c H1 locs1 (cells + mc) (slots + ms) Q (F0 m (pc + 3) ls (.int r :: rest))) : W p l e R s m args below meth c H locs cells slots Q (F0 m pc ls st0) :=
  va_calli hr hw.2.2 (fun q _ h => z_free hw hA q h) (z_free hw hA) fun r u t H1 locs1 ht _ hp hB _ _ hS => kk r u H1 locs1 hp (z_back hw hA (by rw [← ht]; exact hB.1) hB.2 hS)
theorem z_kl {post : Int64 → zS → Prop} {mc ms : Nat} {av : Array Value} (hw : zPw cD cy A H0 S H locs) (hA : ∀ q, H0.size ≤ q → A q) (hr : va_Run p l e R s m args below meth c H locs cells slots mc ms (F0 m pc ls st0) rest (va_Ql post (zPost cD cy (zAd cy S H.size)) (zAd cy S H.size) av) (zAd cy S H.size))
    (kk : ∀ (r : Int64) (S1 : zS) (H1 : Heap) (locs1 : List Loc), post r S1 → zPw cD cy A H0 S1 H1 locs1 → W p l e R s m args below meth c H1 locs1 (cells + mc) (slots + ms) Q (F0 m (pc + 3) ls (.long r :: rest))) : W p l e R s m args below meth c H locs cells slots Q (F0 m pc ls st0) :=
  va_calll hr hw.2.2 (fun q _ h => z_free hw hA q h) (z_free hw hA) fun r u t H1 locs1 ht _ hp hB _ _ hS => kk r u H1 locs1 hp (z_back hw hA (by rw [← ht]; exact hB.1) hB.2 hS)
theorem z_kv {post : zS → Prop} {mc ms : Nat} {av : Array Value} (hw : zPw cD cy A H0 S H locs) (hA : ∀ q, H0.size ≤ q → A q) (hr : va_Run p l e R s m args below meth c H locs cells slots mc ms (F0 m pc ls st0) rest (va_Qv post (zPost cD cy (zAd cy S H.size)) (zAd cy S H.size) av) (zAd cy S H.size))
    (kk : ∀ (S1 : zS) (H1 : Heap) (locs1 : List Loc), post S1 → zPw cD cy A H0 S1 H1 locs1 → W p l e R s m args below meth c H1 locs1 (cells + mc) (slots + ms) Q (F0 m (pc + 3) ls rest)) : W p l e R s m args below meth c H locs cells slots Q (F0 m pc ls st0) :=
  va_callv hr hw.2.2 (fun q _ h => z_free hw hA q h) (z_free hw hA) fun u t H1 locs1 ht _ hp hB _ _ hS => kk u H1 locs1 hp (z_back hw hA (by rw [← ht]; exact hB.1) hB.2 hS)
theorem z_kq {post : Option Nat → zS → Prop} {mc ms : Nat} {av : Array Value} (hw : zPw cD cy A H0 S H locs) (hA : ∀ q, H0.size ≤ q → A q) (hr : va_Run p l e R s m args below meth c H locs cells slots mc ms (F0 m pc ls st0) rest (va_Qq post (zPost cD cy (zAd cy S H.size)) (zAd cy S H.size) av) (zAd cy S H.size))
    (kk : ∀ (r : Option Nat) (S1 : zS) (H1 : Heap) (locs1 : List Loc), post r S1 → zPw cD cy A H0 S1 H1 locs1 → W p l e R s m args below meth c H1 locs1 (cells + mc) (slots + ms) Q (F0 m (pc + 3) ls (va_rf r :: rest))) : W p l e R s m args below meth c H locs cells slots Q (F0 m pc ls st0) :=
  va_callq hr hw.2.2 (fun q _ h => z_free hw hA q h) (z_free hw hA) fun r u t H1 locs1 ht _ hp hB _ _ hS => kk r u H1 locs1 hp (z_back hw hA (by rw [← ht]; exact hB.1) hB.2 hS)
/-- what a call asks of the world -/
theorem z_preV {k b : Nat} {As : List Value} {C : String} {T : u_T} {N : Nat} (hK : zKK cD cy s) (hE : zE s) (hw : zPw cD cy A H0 S H locs) (hL : b ∈ zL S) (hk : zK S b = k) (h13 : k < 13) (hc : vwCl[k]? = some (C, T, N)) : PreV s H C b (va_Pc (Value.ref b :: As) (zPre cD cy S H.size)) As :=
  ⟨zPre_blind, z_recv hK hw hL hk h13 hc, fun U hU hW => ⟨rfl, by rw [hU], by rw [hU]; exact hw.1, va_K.moved hW.alike hK, hw.2.1.weaken (fun _ _ _ _ => trivial), zE.warm hW hE⟩⟩
theorem z_preS {As : List Value} (hK : zKK cD cy s) (hE : zE s) (hw : zPw cD cy A H0 S H locs) : PreS s H (va_Pc As (zPre cD cy S H.size)) As :=
  ⟨zPre_blind, fun U hU hW => ⟨rfl, by rw [hU], by rw [hU]; exact hw.1, va_K.moved hW.alike hK, hw.2.1.weaken (fun _ _ _ _ => trivial), zE.warm hW hE⟩⟩
/-- the ends -/
theorem z_iret {post : Int32 → zS → Prop} {maxL : Nat} {Ts : List Cond} {own : String} {v : Int32} {ty : FieldType} (hcf : CallFix p m c cc maxL s args Ts own) (hr : meth.sig.returnType = some ty) (hn : narrow ty (.int v) = .int v) (hlk : meth.locks = false) (hw : zPw cD cy A s.heap S H locs) (hp : post v S) (hdg : decode cc pc = .ok (.ireturn, 1)) : W p l e R s m args below meth c H locs cells slots (MQ below (va_Qi post (zPost cD cy A) A) args s cells slots A) (F0 m pc ls [.int v]) :=
  W.zret hcf.1 hcf.2.1 hr hn (fun t ht hW => ⟨⟨v, S, rfl, hp, by rw [ht]; exact hw.1, hw.2.1⟩, hw.2.2.F ht⟩) hw.2.2.2.2 hdg hlk
theorem z_lret {post : Int64 → zS → Prop} {maxL : Nat} {Ts : List Cond} {own : String} {v : Int64} (hcf : CallFix p m c cc maxL s args Ts own) (hr : meth.sig.returnType = some .long) (hlk : meth.locks = false) (hw : zPw cD cy A s.heap S H locs) (hp : post v S) (hdg : decode cc pc = .ok (.lreturn, 1)) : W p l e R s m args below meth c H locs cells slots (MQ below (va_Ql post (zPost cD cy A) A) args s cells slots A) (F0 m pc ls [.long v]) :=
  W.lret hcf.1 hcf.2.1 hr (fun t ht hW => ⟨⟨v, S, rfl, hp, by rw [ht]; exact hw.1, hw.2.1⟩, hw.2.2.F ht⟩) hw.2.2.2.2 hdg hlk
theorem z_vret {post : zS → Prop} {maxL : Nat} {Ts : List Cond} {own : String} (hcf : CallFix p m c cc maxL s args Ts own) (hr : meth.sig.returnType = none) (hlk : meth.locks = false) (hw : zPw cD cy A s.heap S H locs) (hp : post S) (hdg : decode cc pc = .ok (.return_, 1)) : W p l e R s m args below meth c H locs cells slots (MQ below (va_Qv post (zPost cD cy A) A) args s cells slots A) (F0 m pc ls []) :=
  W.vret hcf.1 hcf.2.1 hr (fun t ht hW => ⟨⟨S, rfl, hp, by rw [ht]; exact hw.1, hw.2.1⟩, hw.2.2.F ht⟩) hw.2.2.2.2 hdg hlk
theorem z_aret {post : Option Nat → zS → Prop} {maxL : Nat} {Ts : List Cond} {own n : String} {v : Option Nat} (hcf : CallFix p m c cc maxL s args Ts own) (hr : meth.sig.returnType = some (.object n)) (hlk : meth.locks = false) (hw : zPw cD cy A s.heap S H locs) (hp : post v S) (hdg : decode cc pc = .ok (.areturn, 1)) : W p l e R s m args below meth c H locs cells slots (MQ below (va_Qq post (zPost cD cy A) A) args s cells slots A) (F0 m pc ls [va_rf v]) :=
  W.aret hcf.1 hcf.2.1 hr (Or.inl ⟨n, rfl⟩) (va_rf_or v) (fun t ht hW => ⟨⟨v, S, rfl, hp, by rw [ht]; exact hw.1, hw.2.1⟩, hw.2.2.F ht⟩) hw.2.2.2.2 hdg hlk
theorem z_lc_eq (hcx : p.tables.exec = Jvm.exec) (hb : c.code = cc) {x y : Int64} {off : Int} {tgt : Nat} (hdg : decode cc pc = .ok (.lcmp, 1)) (hdg2 : decode cc (pc + 1) = .ok (.ifCond .eq off, 3)) (ht : ((pc + 1 : Nat) : Int) + off = (tgt : Int)) (kt : x = y → W p l e R s m args below meth c H locs cells slots Q (F0 m tgt ls rest)) (kf : ¬ (x = y) → W p l e R s m args below meth c H locs cells slots Q (F0 m (pc + 1 + 3) ls rest)) : W p l e R s m args below meth c H locs cells slots Q (F0 m pc ls (.long y :: .long x :: rest)) :=
  W.lcmp hcx hb hdg (lv_if_eq hcx hb hdg2 ht (fun h => (kt ((lg_cmp_eq x y).mp h))) (fun h => (kf (fun q => h ((lg_cmp_eq x y).mpr q)))))
theorem z_lc_ne (hcx : p.tables.exec = Jvm.exec) (hb : c.code = cc) {x y : Int64} {off : Int} {tgt : Nat} (hdg : decode cc pc = .ok (.lcmp, 1)) (hdg2 : decode cc (pc + 1) = .ok (.ifCond .ne off, 3)) (ht : ((pc + 1 : Nat) : Int) + off = (tgt : Int)) (kt : ¬ x = y → W p l e R s m args below meth c H locs cells slots Q (F0 m tgt ls rest)) (kf : x = y → W p l e R s m args below meth c H locs cells slots Q (F0 m (pc + 1 + 3) ls rest)) : W p l e R s m args below meth c H locs cells slots Q (F0 m pc ls (.long y :: .long x :: rest)) :=
  W.lcmp hcx hb hdg (lv_if_ne hcx hb hdg2 ht (fun h => (kt (fun q => h ((lg_cmp_eq x y).mpr q)))) (fun h => (kf ((lg_cmp_eq x y).mp h))))
theorem z_lc_lt (hcx : p.tables.exec = Jvm.exec) (hb : c.code = cc) {x y : Int64} {off : Int} {tgt : Nat} (hdg : decode cc pc = .ok (.lcmp, 1)) (hdg2 : decode cc (pc + 1) = .ok (.ifCond .lt off, 3)) (ht : ((pc + 1 : Nat) : Int) + off = (tgt : Int)) (kt : x < y → W p l e R s m args below meth c H locs cells slots Q (F0 m tgt ls rest)) (kf : ¬ (x < y) → W p l e R s m args below meth c H locs cells slots Q (F0 m (pc + 1 + 3) ls rest)) : W p l e R s m args below meth c H locs cells slots Q (F0 m pc ls (.long y :: .long x :: rest)) :=
  W.lcmp hcx hb hdg (lv_if_lt hcx hb hdg2 ht (fun h => (kt ((lg_cmp_lt x y).mp h))) (fun h => (kf (fun q => h ((lg_cmp_lt x y).mpr q)))))
theorem z_lc_ge (hcx : p.tables.exec = Jvm.exec) (hb : c.code = cc) {x y : Int64} {off : Int} {tgt : Nat} (hdg : decode cc pc = .ok (.lcmp, 1)) (hdg2 : decode cc (pc + 1) = .ok (.ifCond .ge off, 3)) (ht : ((pc + 1 : Nat) : Int) + off = (tgt : Int)) (kt : y ≤ x → W p l e R s m args below meth c H locs cells slots Q (F0 m tgt ls rest)) (kf : ¬ (y ≤ x) → W p l e R s m args below meth c H locs cells slots Q (F0 m (pc + 1 + 3) ls rest)) : W p l e R s m args below meth c H locs cells slots Q (F0 m pc ls (.long y :: .long x :: rest)) :=
  W.lcmp hcx hb hdg (lv_if_ge hcx hb hdg2 ht (fun h => (kt ((lg_cmp_ge x y).mp h))) (fun h => (kf (fun q => h ((lg_cmp_ge x y).mpr q)))))
theorem z_lc_gt (hcx : p.tables.exec = Jvm.exec) (hb : c.code = cc) {x y : Int64} {off : Int} {tgt : Nat} (hdg : decode cc pc = .ok (.lcmp, 1)) (hdg2 : decode cc (pc + 1) = .ok (.ifCond .gt off, 3)) (ht : ((pc + 1 : Nat) : Int) + off = (tgt : Int)) (kt : y < x → W p l e R s m args below meth c H locs cells slots Q (F0 m tgt ls rest)) (kf : ¬ (y < x) → W p l e R s m args below meth c H locs cells slots Q (F0 m (pc + 1 + 3) ls rest)) : W p l e R s m args below meth c H locs cells slots Q (F0 m pc ls (.long y :: .long x :: rest)) :=
  W.lcmp hcx hb hdg (lv_if_gt hcx hb hdg2 ht (fun h => (kt ((lg_cmp_gt x y).mp h))) (fun h => (kf (fun q => h ((lg_cmp_gt x y).mpr q)))))
theorem z_lc_le (hcx : p.tables.exec = Jvm.exec) (hb : c.code = cc) {x y : Int64} {off : Int} {tgt : Nat} (hdg : decode cc pc = .ok (.lcmp, 1)) (hdg2 : decode cc (pc + 1) = .ok (.ifCond .le off, 3)) (ht : ((pc + 1 : Nat) : Int) + off = (tgt : Int)) (kt : x ≤ y → W p l e R s m args below meth c H locs cells slots Q (F0 m tgt ls rest)) (kf : ¬ (x ≤ y) → W p l e R s m args below meth c H locs cells slots Q (F0 m (pc + 1 + 3) ls rest)) : W p l e R s m args below meth c H locs cells slots Q (F0 m pc ls (.long y :: .long x :: rest)) :=
  W.lcmp hcx hb hdg (lv_if_le hcx hb hdg2 ht (fun h => (kt ((lg_cmp_le x y).mp h))) (fun h => (kf (fun q => h ((lg_cmp_le x y).mpr q)))))
end ZR
