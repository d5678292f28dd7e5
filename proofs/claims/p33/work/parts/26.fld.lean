/-! the rules of fields, constants, statics, texts, from the tables' words -/
section FLD
variable {own ref C host : String} {T : u_T} {N k idx i : Nat}
theorem sf_of {xs : Nat → Nat} {cD : va_G} {cy : Nat → ClassId} {A : Nat → Prop} {p : Program} {s : State} {m : MethodId} {args : Array Value} {c : Code} {cc : ByteArray} {nL : Nat} {Ts : List Cond} {nm d : String} (hM : MX xs cD cy A p s m args c cc nL Ts own) (h : ref = C ∨ Cond.sameField ref C nm d ∈ TB) : ∀ x, s.fieldFound? C nm d = some x → s.fieldFound? ref nm d = some x := by
  rcases h with rfl | h
  · exact fun _ h => h
  · exact fun x hx => u_same (hM.1.2.2.2.2 _ (hM.2.1 _ h)) x hx
theorem rg_F (hin : ∀ w ∈ u_ws C T N, w ∈ TB) (hc : vwCl[k]? = some (C, T, N)) (hi : i < N) (h13 : k < 13) (hl : Cond.fieldLink own idx ref (T i).2.1 (T i).2.2.1 ∈ TB) (hs : ref = (T i).1 ∨ Cond.sameField ref (T i).1 (T i).2.1 (T i).2.2.1 ∈ TB) : RGet own idx k i := by
  intro p l e R s m args below meth c H locs cells slots Q xs cD cy A cc nL Ts S a pc ls rest t hM hw hL hk hd ht kk
  exact z_get hM.1 hM.2.2.1 hw (fun w h => hM.2.1 w (hin w h)) hL hk hc hi h13 ht rfl rfl (hM.2.1 _ hl) (sf_of hM hs) hd kk
theorem rg_N (hin : ∀ w ∈ u_ws C T N, w ∈ TB) (hc : vwCl[k]? = some (C, T, N)) (hi : i < N) (h13 : k < 13) (hl : Cond.fieldLinkNest own idx ref (T i).2.1 (T i).2.2.1 host ∈ tables_1) (hs : ref = (T i).1 ∨ Cond.sameField ref (T i).1 (T i).2.1 (T i).2.2.1 ∈ TB) : RGet own idx k i := by
  intro p l e R s m args below meth c H locs cells slots Q xs cD cy A cc nL Ts S a pc ls rest t hM hw hL hk hd ht kk
  exact z_getN hM.1 hM.2.2.1 hw (fun w h => hM.2.1 w (hin w h)) hL hk hc hi h13 ht rfl rfl (zE.nw hM.2.2.2.1 hl rfl) (sf_of hM hs) hd kk
/-- what a field of a type keeps -/
def okI (bl : Bool) (ty : FieldType) : Prop := ∀ x : Int32, (bl = true → 0 ≤ x.toInt ∧ x.toInt ≤ 1) → narrow ty (.int x) = .int x ∧ fits ty (.int x) = true
def okQ (ty : FieldType) : Prop := ∀ x : Option Nat, narrow ty (va_rf x) = va_rf x ∧ fits ty (va_rf x) = true
theorem okI_int {bl : Bool} : okI bl .int := fun x _ => ⟨rfl, rfl⟩
theorem okI_bool : okI true .boolean := fun x h => by
  obtain ⟨h1, h2⟩ := h rfl
  have : x = 0 ∨ x = 1 := by
    rcases Int.lt_or_le 0 x.toInt with q | q
    · exact Or.inr (Int32.toInt_inj.mp (by show x.toInt = 1; omega))
    · exact Or.inl (Int32.toInt_inj.mp (by show x.toInt = 0; omega))
  rcases this with rfl | rfl <;> exact ⟨rfl, rfl⟩
theorem okQ_obj {n : String} : okQ (.object n) := fun x => by cases x <;> exact ⟨rfl, rfl⟩
theorem okQ_arr {t : FieldType} : okQ (.array t) := fun x => by cases x <;> exact ⟨rfl, rfl⟩
variable {ty : Nat → FieldType}
theorem rp_I {bl : Bool} (hin : ∀ w ∈ u_ws C T N, w ∈ TB) (hty : ∀ k, k < N → parseFieldDescriptor (T k).2.2.1 = some (ty k)) (hnm : ∀ a, a < N → ∀ b, b < N → a ≠ b → (T a).2.1 ≠ (T b).2.1) (hc : vwCl[k]? = some (C, T, N)) (hi : i < N) (h13 : k < 13) (ht : (z_ft k)[i]? = some 0) (hl : Cond.fieldLink own idx ref (T i).2.1 (T i).2.2.1 ∈ TB) (hs : ref = (T i).1 ∨ Cond.sameField ref (T i).1 (T i).2.1 (T i).2.2.1 ∈ TB) (hf : (T i).2.2.2 = false) (ho : okI bl (ty i)) : RPut own idx k i bl false := by
  unfold RPut
  rw [ht]
  intro p l e R s m args below meth c H locs cells slots Q xs cD cy A cc nL Ts S a pc ls rest x hM _ hb hw hL hk hd kk
  exact z_putI ty hM.1 hM.2.2.1 hw (fun w h => hM.2.1 w (hin w h)) hty hnm hL hk hc hi h13 rfl ht (hM.2.1 _ hl) (sf_of hM hs) hf rfl (hty i hi) (ho x hb).1 (ho x hb).2 hd kk
theorem rp_IF {bl : Bool} (hin : ∀ w ∈ u_ws C T N, w ∈ TB) (hty : ∀ k, k < N → parseFieldDescriptor (T k).2.2.1 = some (ty k)) (hnm : ∀ a, a < N → ∀ b, b < N → a ≠ b → (T a).2.1 ≠ (T b).2.1) (hc : vwCl[k]? = some (C, T, N)) (hi : i < N) (h13 : k < 13) (ht : (z_ft k)[i]? = some 0) (hl : Cond.fieldLink own idx ref (T i).2.1 (T i).2.2.1 ∈ TB) (hs : ref = (T i).1 ∨ Cond.sameField ref (T i).1 (T i).2.1 (T i).2.2.1 ∈ TB) (hf : (T i).2.2.2 = true) (hw0 : (T i).1 = own) (ho : okI bl (ty i)) : RPut own idx k i bl true := by
  unfold RPut
  rw [ht]
  intro p l e R s m args below meth c H locs cells slots Q xs cD cy A cc nL Ts S a pc ls rest x hM hm hb hw hL hk hd kk
  exact z_putIF ty hM.1 hM.2.2.1 hw (fun w h => hM.2.1 w (hin w h)) hty hnm hL hk hc hi h13 rfl ht (hM.2.1 _ hl) (sf_of hM hs) hf (hm rfl) hw0 rfl (hty i hi) (ho x hb).1 (ho x hb).2 hd kk
theorem rp_IN {bl : Bool} (hin : ∀ w ∈ u_ws C T N, w ∈ TB) (hty : ∀ k, k < N → parseFieldDescriptor (T k).2.2.1 = some (ty k)) (hnm : ∀ a, a < N → ∀ b, b < N → a ≠ b → (T a).2.1 ≠ (T b).2.1) (hc : vwCl[k]? = some (C, T, N)) (hi : i < N) (h13 : k < 13) (ht : (z_ft k)[i]? = some 0) (hl : Cond.fieldLinkNest own idx ref (T i).2.1 (T i).2.2.1 host ∈ tables_1) (hs : ref = (T i).1 ∨ Cond.sameField ref (T i).1 (T i).2.1 (T i).2.2.1 ∈ TB) (hf : (T i).2.2.2 = false) (ho : okI bl (ty i)) : RPut own idx k i bl false := by
  unfold RPut
  rw [ht]
  intro p l e R s m args below meth c H locs cells slots Q xs cD cy A cc nL Ts S a pc ls rest x hM _ hb hw hL hk hd kk
  exact z_putIN ty hM.1 hM.2.2.1 hw (fun w h => hM.2.1 w (hin w h)) hty hnm hL hk hc hi h13 rfl ht (zE.nw hM.2.2.2.1 hl rfl) (sf_of hM hs) hf rfl (hty i hi) (ho x hb).1 (ho x hb).2 hd kk
theorem rp_J {bl : Bool} (hin : ∀ w ∈ u_ws C T N, w ∈ TB) (hty : ∀ k, k < N → parseFieldDescriptor (T k).2.2.1 = some (ty k)) (hnm : ∀ a, a < N → ∀ b, b < N → a ≠ b → (T a).2.1 ≠ (T b).2.1) (hc : vwCl[k]? = some (C, T, N)) (hi : i < N) (h13 : k < 13) (ht : (z_ft k)[i]? = some 1) (hl : Cond.fieldLink own idx ref (T i).2.1 (T i).2.2.1 ∈ TB) (hs : ref = (T i).1 ∨ Cond.sameField ref (T i).1 (T i).2.1 (T i).2.2.1 ∈ TB) (hf : (T i).2.2.2 = false) (ho : ty i = .long) : RPut own idx k i bl false := by
  unfold RPut
  rw [ht]
  intro p l e R s m args below meth c H locs cells slots Q xs cD cy A cc nL Ts S a pc ls rest x hM _ hw hL hk hd kk
  exact z_putJ ty hM.1 hM.2.2.1 hw (fun w h => hM.2.1 w (hin w h)) hty hnm hL hk hc hi h13 rfl ht (hM.2.1 _ hl) (sf_of hM hs) hf rfl (ho ▸ hty i hi) rfl rfl hd kk
theorem rp_JF {bl : Bool} (hin : ∀ w ∈ u_ws C T N, w ∈ TB) (hty : ∀ k, k < N → parseFieldDescriptor (T k).2.2.1 = some (ty k)) (hnm : ∀ a, a < N → ∀ b, b < N → a ≠ b → (T a).2.1 ≠ (T b).2.1) (hc : vwCl[k]? = some (C, T, N)) (hi : i < N) (h13 : k < 13) (ht : (z_ft k)[i]? = some 1) (hl : Cond.fieldLink own idx ref (T i).2.1 (T i).2.2.1 ∈ TB) (hs : ref = (T i).1 ∨ Cond.sameField ref (T i).1 (T i).2.1 (T i).2.2.1 ∈ TB) (hf : (T i).2.2.2 = true) (hw0 : (T i).1 = own) (ho : ty i = .long) : RPut own idx k i bl true := by
  unfold RPut
  rw [ht]
  intro p l e R s m args below meth c H locs cells slots Q xs cD cy A cc nL Ts S a pc ls rest x hM hm hw hL hk hd kk
  exact z_putJF ty hM.1 hM.2.2.1 hw (fun w h => hM.2.1 w (hin w h)) hty hnm hL hk hc hi h13 rfl ht (hM.2.1 _ hl) (sf_of hM hs) hf (hm rfl) hw0 rfl (ho ▸ hty i hi) rfl rfl hd kk
theorem rp_JN {bl : Bool} (hin : ∀ w ∈ u_ws C T N, w ∈ TB) (hty : ∀ k, k < N → parseFieldDescriptor (T k).2.2.1 = some (ty k)) (hnm : ∀ a, a < N → ∀ b, b < N → a ≠ b → (T a).2.1 ≠ (T b).2.1) (hc : vwCl[k]? = some (C, T, N)) (hi : i < N) (h13 : k < 13) (ht : (z_ft k)[i]? = some 1) (hl : Cond.fieldLinkNest own idx ref (T i).2.1 (T i).2.2.1 host ∈ tables_1) (hs : ref = (T i).1 ∨ Cond.sameField ref (T i).1 (T i).2.1 (T i).2.2.1 ∈ TB) (hf : (T i).2.2.2 = false) (ho : ty i = .long) : RPut own idx k i bl false := by
  unfold RPut
  rw [ht]
  intro p l e R s m args below meth c H locs cells slots Q xs cD cy A cc nL Ts S a pc ls rest x hM _ hw hL hk hd kk
  exact z_putJN ty hM.1 hM.2.2.1 hw (fun w h => hM.2.1 w (hin w h)) hty hnm hL hk hc hi h13 rfl ht (zE.nw hM.2.2.2.1 hl rfl) (sf_of hM hs) hf rfl (ho ▸ hty i hi) rfl rfl hd kk
theorem rp_Q {bl : Bool} (hin : ∀ w ∈ u_ws C T N, w ∈ TB) (hty : ∀ k, k < N → parseFieldDescriptor (T k).2.2.1 = some (ty k)) (hnm : ∀ a, a < N → ∀ b, b < N → a ≠ b → (T a).2.1 ≠ (T b).2.1) (hc : vwCl[k]? = some (C, T, N)) (hi : i < N) (h13 : k < 13) (ht : (z_ft k)[i]? = some 2) (hl : Cond.fieldLink own idx ref (T i).2.1 (T i).2.2.1 ∈ TB) (hs : ref = (T i).1 ∨ Cond.sameField ref (T i).1 (T i).2.1 (T i).2.2.1 ∈ TB) (hf : (T i).2.2.2 = false) (ho : okQ (ty i)) : RPut own idx k i bl false := by
  unfold RPut
  rw [ht]
  intro p l e R s m args below meth c H locs cells slots Q xs cD cy A cc nL Ts S a pc ls rest x hM _ hw hL hk hd kk
  exact z_putQ ty hM.1 hM.2.2.1 hw (fun w h => hM.2.1 w (hin w h)) hty hnm hL hk hc hi h13 rfl ht (hM.2.1 _ hl) (sf_of hM hs) hf rfl (hty i hi) (ho x).1 (ho x).2 hd kk
theorem rp_QF {bl : Bool} (hin : ∀ w ∈ u_ws C T N, w ∈ TB) (hty : ∀ k, k < N → parseFieldDescriptor (T k).2.2.1 = some (ty k)) (hnm : ∀ a, a < N → ∀ b, b < N → a ≠ b → (T a).2.1 ≠ (T b).2.1) (hc : vwCl[k]? = some (C, T, N)) (hi : i < N) (h13 : k < 13) (ht : (z_ft k)[i]? = some 2) (hl : Cond.fieldLink own idx ref (T i).2.1 (T i).2.2.1 ∈ TB) (hs : ref = (T i).1 ∨ Cond.sameField ref (T i).1 (T i).2.1 (T i).2.2.1 ∈ TB) (hf : (T i).2.2.2 = true) (hw0 : (T i).1 = own) (ho : okQ (ty i)) : RPut own idx k i bl true := by
  unfold RPut
  rw [ht]
  intro p l e R s m args below meth c H locs cells slots Q xs cD cy A cc nL Ts S a pc ls rest x hM hm hw hL hk hd kk
  exact z_putQF ty hM.1 hM.2.2.1 hw (fun w h => hM.2.1 w (hin w h)) hty hnm hL hk hc hi h13 rfl ht (hM.2.1 _ hl) (sf_of hM hs) hf (hm rfl) hw0 rfl (hty i hi) (ho x).1 (ho x).2 hd kk
theorem rp_QN {bl : Bool} (hin : ∀ w ∈ u_ws C T N, w ∈ TB) (hty : ∀ k, k < N → parseFieldDescriptor (T k).2.2.1 = some (ty k)) (hnm : ∀ a, a < N → ∀ b, b < N → a ≠ b → (T a).2.1 ≠ (T b).2.1) (hc : vwCl[k]? = some (C, T, N)) (hi : i < N) (h13 : k < 13) (ht : (z_ft k)[i]? = some 2) (hl : Cond.fieldLinkNest own idx ref (T i).2.1 (T i).2.2.1 host ∈ tables_1) (hs : ref = (T i).1 ∨ Cond.sameField ref (T i).1 (T i).2.1 (T i).2.2.1 ∈ TB) (hf : (T i).2.2.2 = false) (ho : okQ (ty i)) : RPut own idx k i bl false := by
  unfold RPut
  rw [ht]
  intro p l e R s m args below meth c H locs cells slots Q xs cD cy A cc nL Ts S a pc ls rest x hM _ hw hL hk hd kk
  exact z_putQN ty hM.1 hM.2.2.1 hw (fun w h => hM.2.1 w (hin w h)) hty hnm hL hk hc hi h13 rfl ht (zE.nw hM.2.2.2.1 hl rfl) (sf_of hM hs) hf rfl (hty i hi) (ho x).1 (ho x).2 hd kk
theorem rn_K (hin : ∀ w ∈ u_ws C T N, w ∈ TB) (hty : ∀ k, k < N → parseFieldDescriptor (T k).2.2.1 = some (ty k)) (hc : vwCl[k]? = some (C, T, N)) (h13 : k < 13) (m1 : Cond.classLink own idx C ∈ TB) (m2 : Cond.instantiable C N ∈ TB) (m3 : Cond.initialized C ∈ TB) (hfs : ∀ j, j < N → defaultValue (ty j) = vp_V ((z_ft k).map z_d) j) : RNew own idx k N := by
  intro p l e R s m args below meth c H locs cells slots Q xs cD cy A cc nL Ts S pc ls rest hM hw hd h1 h2 kk
  exact z_new ty hM.1 hM.2.2.1 hw hM.2.2.2.2.2 (fun w h => hM.2.1 w (hin w h)) hty (hM.2.1 _ m1) (hM.2.1 _ m2) (hM.2.1 _ m3) hc h13 hfs h1 h2 hd kk
theorem rk_I {v : Int} {w : Int32} (e : Int32.ofInt v = w) (m1 : Cond.constant own idx w ∈ TB) : RCst own (.ldc idx) 2 (fun _ => .int (Int32.ofInt v)) ∧ RCst own (.ldc_w idx) 3 (fun _ => .int (Int32.ofInt v)) := by
  subst e
  refine ⟨?_, ?_⟩
  · intro p l e R s m args below meth c H locs cells slots Q xs cD cy A cc nL Ts S pc ls rest hM hw hd kk
    exact lv_ldc hM.1.1 hM.1.2.1 hM.1.2.2.2.1 (hM.1.2.2.2.2 _ (hM.2.1 _ m1)) hd kk
  · intro p l e R s m args below meth c H locs cells slots Q xs cD cy A cc nL Ts S pc ls rest hM hw hd kk
    exact lv_ldcw hM.1.1 hM.1.2.1 hM.1.2.2.2.1 (hM.1.2.2.2.2 _ (hM.2.1 _ m1)) hd kk
theorem rk_J {v : Int} {w : Int64} (e : Int64.ofInt v = w) (m1 : Cond.constantLong own idx w ∈ TB) : RCst own (.ldc2_w idx) 3 (fun _ => .long (Int64.ofInt v)) := by
  subst e
  intro p l e R s m args below meth c H locs cells slots Q xs cD cy A cc nL Ts S pc ls rest hM hw hd kk
  exact lv_ldc2 hM.1.1 hM.1.2.1 hM.1.2.2.2.1 (hM.1.2.2.2.2 _ (hM.2.1 _ m1)) hd kk
theorem rs_E (m1 : Cond.fieldLink own idx ref "EAST" "[I" ∈ TB) (hr : ref = "FoldedInHalf") : RCst own (.getstatic idx) 3 (fun xs => svX xs (.inl 0)) := by
  subst hr
  intro p l e R s m args below meth c H locs cells slots Q xs cD cy A cc nL Ts S pc ls rest hM hw hd kk
  exact va_gets hM.1.1 hM.1.2.1 hM.2.2.2.2.1.1 hw.2.2 hM.1.2.2.2.1 (hM.1.2.2.2.2 _ (hM.2.1 _ m1)) (fun _ h => h) hd kk
theorem rs_N (m1 : Cond.fieldLink own idx ref "NORTH" "[I" ∈ TB) (hr : ref = "FoldedInHalf") : RCst own (.getstatic idx) 3 (fun xs => svX xs (.inl 1)) := by
  subst hr
  intro p l e R s m args below meth c H locs cells slots Q xs cD cy A cc nL Ts S pc ls rest hM hw hd kk
  exact va_gets hM.1.1 hM.1.2.1 hM.2.2.2.2.1.2.2.1 hw.2.2 hM.1.2.2.2.1 (hM.1.2.2.2.2 _ (hM.2.1 _ m1)) (fun _ h => h) hd kk
theorem rs_EN {host : String} (m1 : Cond.fieldLinkNest own idx ref "EAST" "[I" host ∈ tables_1) (hr : ref = "FoldedInHalf") : RCst own (.getstatic idx) 3 (fun xs => svX xs (.inl 0)) := by
  subst hr
  intro p l e R s m args below meth c H locs cells slots Q xs cD cy A cc nL Ts S pc ls rest hM hw hd kk
  exact va_getsN hM.1.1 hM.1.2.1 hM.2.2.2.2.1.1 hw.2.2 hM.1.2.2.2.1 (va_Nw.use rfl (zE.nw hM.2.2.2.1 m1 rfl)) (fun _ h => h) hd kk
theorem rs_NN {host : String} (m1 : Cond.fieldLinkNest own idx ref "NORTH" "[I" host ∈ tables_1) (hr : ref = "FoldedInHalf") : RCst own (.getstatic idx) 3 (fun xs => svX xs (.inl 1)) := by
  subst hr
  intro p l e R s m args below meth c H locs cells slots Q xs cD cy A cc nL Ts S pc ls rest hM hw hd kk
  exact va_getsN hM.1.1 hM.1.2.1 hM.2.2.2.2.1.2.2.1 hw.2.2 hM.1.2.2.2.1 (va_Nw.use rfl (zE.nw hM.2.2.2.1 m1 rfl)) (fun _ h => h) hd kk
theorem rs_C (m1 : Cond.fieldLink own idx ref "COMPACT_STRINGS" "Z" ∈ TB) (hr : ref = "java/lang/String") : RCst own (.getstatic idx) 3 (fun xs => svX xs (.inr 1)) := by
  subst hr
  intro p l e R s m args below meth c H locs cells slots Q xs cD cy A cc nL Ts S pc ls rest hM hw hd kk
  exact va_gets hM.1.1 hM.1.2.1 hM.2.2.2.2.1.2.2.2.2.1 hw.2.2 hM.1.2.2.2.1 (hM.1.2.2.2.2 _ (hM.2.1 _ m1)) (fun _ h => h) hd kk
/-- the texts: k is 2, 3 or 4 -/
theorem rt_T {j : Nat} (h : z_cp j = idx) (hj : j < 3) (ho : own = "FoldedInHalf$Reader") : RCst own (.ldc idx) 2 (fun xs => .ref (xs (2 + j))) := by
  subst h; subst ho
  intro p l e R s m args below meth c H locs cells slots Q xs cD cy A cc nL Ts S pc ls rest hM hw hd kk
  exact va_ldcS hM.1.1 hM.1.2.1 hM.1.2.2.2.1 (hM.2.2.2.2.1.2.2.2.2.2.2.2 j hj) hd kk
theorem rx_V {j : Nat} (hj : j < 3) (m1 : Cond.fieldLink own idx "java/lang/String" "value" "[B" ∈ TB) : RSpG own idx (2 + j) (.inl (5 + j)) := by
  intro p l e R s m args below meth c H locs cells slots Q xs cD cy A cc nL Ts S pc ls rest hM hw hd kk
  exact vk_getf hM.1.1 hM.1.2.1 ((hM.2.2.2.2.1.2.2.2.2.2.2.1).1 j hj).2.2.1 hw.2.2 hM.1.2.2.2.1 (hM.1.2.2.2.2 _ (hM.2.1 _ m1)) (fun _ h => h) hd kk
theorem rx_C {j : Nat} (hj : j < 3) (m1 : Cond.fieldLink own idx "java/lang/String" "coder" "B" ∈ TB) : RSpG own idx (2 + j) (.inr 0) := by
  intro p l e R s m args below meth c H locs cells slots Q xs cD cy A cc nL Ts S pc ls rest hM hw hd kk
  exact vk_getf hM.1.1 hM.1.2.1 ((hM.2.2.2.2.1.2.2.2.2.2.2.1).1 j hj).2.1 hw.2.2 hM.1.2.2.2.1 (hM.1.2.2.2.2 _ (hM.2.1 _ m1)) (fun _ h => h) hd kk
end FLD
