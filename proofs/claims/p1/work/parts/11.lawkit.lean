/-! two pools on one heap: the class's and the model's -/
def zS0 : zS := ([], fun _ => 0, fun _ => 0, fun _ _ => 0, fun _ _ => 0, fun _ _ => none, fun _ _ => 0, fun _ _ => 0, fun _ _ => none)
def zP2 (cD : va_G) (cy : Nat → ClassId) (A : Nat → Prop) (H0 : Heap) (S1 S2 : zS) (H : Heap) (locs : List Loc) : Prop := va_P cD vwCl (zW cy S1 ++ zW cy S2) H ∧ va_D A (zW cy S1 ++ zW cy S2) ∧ va_S A H0 H locs
section Z2
variable {cD : va_G} {cy : Nat → ClassId} {A : Nat → Prop} {H0 H : Heap} {S1 S2 : zS} {locs : List Loc}
theorem z2_gl {w1 w2 : va_W} {k : Nat} {q : Nat × va_E} (h : w1[k]? = some q) : (w1 ++ w2)[k]? = some q := by rw [List.getElem?_append_left (List.getElem?_eq_some_iff.mp h).1]; exact h
theorem z2_gr {w1 w2 : va_W} {k : Nat} {q : Nat × va_E} (h : w2[k]? = some q) : (w1 ++ w2)[w1.length + k]? = some q := by rw [List.getElem?_append_right (by omega), Nat.add_sub_cancel_left]; exact h
theorem zP2.l (h : zP2 cD cy A H0 S1 S2 H locs) : zPw cD cy A H0 S1 H locs := ⟨fun k q hk => h.1 k q (z2_gl hk), ⟨fun i j p q hi hj e => h.2.1.1 i j p q (z2_gl hi) (z2_gl hj) e, fun k q hk => h.2.1.2 k q (z2_gl hk)⟩, h.2.2⟩
theorem zP2.r (h : zP2 cD cy A H0 S1 S2 H locs) : zPw cD cy A H0 S2 H locs := ⟨fun k q hk => h.1 _ q (z2_gr hk), ⟨fun i j p q hi hj e => by have := h.2.1.1 _ _ p q (z2_gr hi) (z2_gr hj) e; omega, fun k q hk => h.2.1.2 _ q (z2_gr hk)⟩, h.2.2⟩
theorem z2_dis (h : zP2 cD cy A H0 S1 S2 H locs) {i j : Nat} {p q : Nat × va_E} (hi : (zW cy S1)[i]? = some p) (hj : (zW cy S2)[j]? = some q) : p.1 ≠ q.1 := fun e => by
  have h1 := h.2.1.1 _ _ p q (z2_gl hi) (z2_gr hj) e
  have h2 := (List.getElem?_eq_some_iff.mp hi).1
  omega
theorem zP2_j1 (h : zP2 cD cy A H0 S1 S2 H locs) (hA : ∀ q, H0.size ≤ q → A q) {S3 : zS} {H1 : Heap} {locs1 : List Loc} (hk : ∀ q, q < H.size → ¬ zAd cy S1 H.size q → H1[q]? = H[q]?) (hP : va_P cD vwCl (zW cy S3) H1) (hD : va_D (zAd cy S1 H.size) (zW cy S3)) (hS : va_S A H0 H1 locs1) : zP2 cD cy A H0 S3 S2 H1 locs1 := by
  have ap : ∀ (k : Nat) (q : Nat × va_E), (zW cy S2)[k]? = some q → q.1 < H.size ∧ ¬ zAd cy S1 H.size q.1 := by
    intro k q hq
    have hl := (h.r.1 k q hq).lt
    refine ⟨hl, fun z => ?_⟩
    rcases z with ⟨k2, e, z⟩ | z
    · exact z2_dis h z hq rfl
    · omega
  refine ⟨va_P.app hP (h.r.1.kept fun k q hq => hk q.1 (ap k q hq).1 (ap k q hq).2), va_D.app (hD.weaken fun k q _ z => z_free h.l hA q.1 z) h.r.2.1 fun i j p q hi hj e => (ap j q hj).2 (by rw [← e]; exact hD.2 i p hi), hS⟩
theorem zP2_j2 (h : zP2 cD cy A H0 S1 S2 H locs) (hA : ∀ q, H0.size ≤ q → A q) {S3 : zS} {H1 : Heap} {locs1 : List Loc} (hk : ∀ q, q < H.size → ¬ zAd cy S2 H.size q → H1[q]? = H[q]?) (hP : va_P cD vwCl (zW cy S3) H1) (hD : va_D (zAd cy S2 H.size) (zW cy S3)) (hS : va_S A H0 H1 locs1) : zP2 cD cy A H0 S1 S3 H1 locs1 := by
  have ap : ∀ (k : Nat) (q : Nat × va_E), (zW cy S1)[k]? = some q → q.1 < H.size ∧ ¬ zAd cy S2 H.size q.1 := by
    intro k q hq
    have hl := (h.l.1 k q hq).lt
    refine ⟨hl, fun z => ?_⟩
    rcases z with ⟨k2, e, z⟩ | z
    · exact z2_dis h hq z rfl
    · omega
  refine ⟨va_P.app (h.l.1.kept fun k q hq => hk q.1 (ap k q hq).1 (ap k q hq).2) hP, va_D.app h.l.2.1 (hD.weaken fun k q _ z => z_free h.r hA q.1 z) fun i j p q hi hj e => (ap i p hi).2 (by rw [e]; exact hD.2 j q hj), hS⟩
theorem zP2_of (h : zPw cD cy A H0 S1 H locs) : zP2 cD cy A H0 S1 zS0 H locs := by
  have e : zW cy S1 ++ zW cy zS0 = zW cy S1 := by show _ ++ [] = _; exact List.append_nil _
  exact ⟨by rw [e]; exact h.1, by rw [e]; exact h.2.1, h.2.2⟩
theorem zPw_0 (cD : va_G) (cy : Nat → ClassId) (A : Nat → Prop) (H0 : Heap) : zPw cD cy A H0 zS0 H0 [] := ⟨fun k q h => by simp [zW, zS0, zL, va_pl] at h, ⟨fun i j p q h => by simp [zW, zS0, zL, va_pl] at h, fun k q h => by simp [zW, zS0, zL, va_pl] at h⟩, va_S.rf⟩
variable {p : Program} {l : Launch} {e : Env} {R : Room} {s : State} {m : MethodId} {args : Array Value} {below : List Frame} {meth : Method} {c : Code} {cells slots : Nat} {Q : State → Prop} {cc : ByteArray} {pc : Nat} {ls : Array Slot} {rest st0 : List Value}
theorem z2_k1i {post : Int32 → zS → Prop} {mc ms : Nat} {av : Array Value} (hw : zP2 cD cy A H0 S1 S2 H locs) (hA : ∀ q, H0.size ≤ q → A q) (hr : va_Run p l e R s m args below meth c H locs cells slots mc ms (F0 m pc ls st0) rest (va_Qi post (zPost cD cy (zAd cy S1 H.size)) (zAd cy S1 H.size) av) (zAd cy S1 H.size))
    (kk : ∀ (r : Int32) (S3 : zS) (H1 : Heap) (locs1 : List Loc), post r S3 → zP2 cD cy A H0 S3 S2 H1 locs1 → W p l e R s m args below meth c H1 locs1 (cells + mc) (slots + ms) Q (F0 m (pc + 3) ls (.int r :: rest))) : W p l e R s m args below meth c H locs cells slots Q (F0 m pc ls st0) :=
  va_calli hr hw.2.2 (fun q _ h => z_free hw.l hA q h) (z_free hw.l hA) fun r u t H1 locs1 ht _ hp hB _ hk hS => kk r u H1 locs1 hp (zP2_j1 hw hA hk (by rw [← ht]; exact hB.1) hB.2 hS)
theorem z2_k1l {post : Int64 → zS → Prop} {mc ms : Nat} {av : Array Value} (hw : zP2 cD cy A H0 S1 S2 H locs) (hA : ∀ q, H0.size ≤ q → A q) (hr : va_Run p l e R s m args below meth c H locs cells slots mc ms (F0 m pc ls st0) rest (va_Ql post (zPost cD cy (zAd cy S1 H.size)) (zAd cy S1 H.size) av) (zAd cy S1 H.size))
    (kk : ∀ (r : Int64) (S3 : zS) (H1 : Heap) (locs1 : List Loc), post r S3 → zP2 cD cy A H0 S3 S2 H1 locs1 → W p l e R s m args below meth c H1 locs1 (cells + mc) (slots + ms) Q (F0 m (pc + 3) ls (.long r :: rest))) : W p l e R s m args below meth c H locs cells slots Q (F0 m pc ls st0) :=
  va_calll hr hw.2.2 (fun q _ h => z_free hw.l hA q h) (z_free hw.l hA) fun r u t H1 locs1 ht _ hp hB _ hk hS => kk r u H1 locs1 hp (zP2_j1 hw hA hk (by rw [← ht]; exact hB.1) hB.2 hS)
theorem z2_k2i {post : Int32 → zS → Prop} {mc ms : Nat} {av : Array Value} (hw : zP2 cD cy A H0 S1 S2 H locs) (hA : ∀ q, H0.size ≤ q → A q) (hr : va_Run p l e R s m args below meth c H locs cells slots mc ms (F0 m pc ls st0) rest (va_Qi post (zPost cD cy (zAd cy S2 H.size)) (zAd cy S2 H.size) av) (zAd cy S2 H.size))
    (kk : ∀ (r : Int32) (S3 : zS) (H1 : Heap) (locs1 : List Loc), post r S3 → zP2 cD cy A H0 S1 S3 H1 locs1 → W p l e R s m args below meth c H1 locs1 (cells + mc) (slots + ms) Q (F0 m (pc + 3) ls (.int r :: rest))) : W p l e R s m args below meth c H locs cells slots Q (F0 m pc ls st0) :=
  va_calli hr hw.2.2 (fun q _ h => z_free hw.r hA q h) (z_free hw.r hA) fun r u t H1 locs1 ht _ hp hB _ hk hS => kk r u H1 locs1 hp (zP2_j2 hw hA hk (by rw [← ht]; exact hB.1) hB.2 hS)
theorem z2_k2l {post : Int64 → zS → Prop} {mc ms : Nat} {av : Array Value} (hw : zP2 cD cy A H0 S1 S2 H locs) (hA : ∀ q, H0.size ≤ q → A q) (hr : va_Run p l e R s m args below meth c H locs cells slots mc ms (F0 m pc ls st0) rest (va_Ql post (zPost cD cy (zAd cy S2 H.size)) (zAd cy S2 H.size) av) (zAd cy S2 H.size))
    (kk : ∀ (r : Int64) (S3 : zS) (H1 : Heap) (locs1 : List Loc), post r S3 → zP2 cD cy A H0 S1 S3 H1 locs1 → W p l e R s m args below meth c H1 locs1 (cells + mc) (slots + ms) Q (F0 m (pc + 3) ls (.long r :: rest))) : W p l e R s m args below meth c H locs cells slots Q (F0 m pc ls st0) :=
  va_calll hr hw.2.2 (fun q _ h => z_free hw.r hA q h) (z_free hw.r hA) fun r u t H1 locs1 ht _ hp hB _ hk hS => kk r u H1 locs1 hp (zP2_j2 hw hA hk (by rw [← ht]; exact hB.1) hB.2 hS)
theorem z2_k2v {post : zS → Prop} {mc ms : Nat} {av : Array Value} (hw : zP2 cD cy A H0 S1 S2 H locs) (hA : ∀ q, H0.size ≤ q → A q) (hr : va_Run p l e R s m args below meth c H locs cells slots mc ms (F0 m pc ls st0) rest (va_Qv post (zPost cD cy (zAd cy S2 H.size)) (zAd cy S2 H.size) av) (zAd cy S2 H.size))
    (kk : ∀ (S3 : zS) (H1 : Heap) (locs1 : List Loc), post S3 → zP2 cD cy A H0 S1 S3 H1 locs1 → W p l e R s m args below meth c H1 locs1 (cells + mc) (slots + ms) Q (F0 m (pc + 3) ls rest)) : W p l e R s m args below meth c H locs cells slots Q (F0 m pc ls st0) :=
  va_callv hr hw.2.2 (fun q _ h => z_free hw.r hA q h) (z_free hw.r hA) fun u t H1 locs1 ht _ hp hB _ hk hS => kk u H1 locs1 hp (zP2_j2 hw hA hk (by rw [← ht]; exact hB.1) hB.2 hS)
/-- new: an object of kind k into the second pool -/
theorem z2_new {maxL k N index : Nat} {Ts : List Cond} {own C : String} {T : u_T} (ty : Nat → FieldType) (hcf : CallFix p m c cc maxL s args Ts own) (hK : zKK cD cy s) (hw : zP2 cD cy A H0 S1 S2 H locs) (hA : ∀ q, H0.size ≤ q → A q) (hin : ∀ w ∈ u_ws C T N, w ∈ Ts) (hty : ∀ k, k < N → parseFieldDescriptor (T k).2.2.1 = some (ty k)) (hcl : Cond.classLink own index C ∈ Ts) (hinst : Cond.instantiable C N ∈ Ts) (hini : Cond.initialized C ∈ Ts) (hc : vwCl[k]? = some (C, T, N)) (h13 : k < 13) (hfs : ∀ j, j < N → defaultValue (ty j) = vp_V ((z_ft k).map z_d) j) (hcells : cells + 1 ≤ R.cells) (hslots : slots + N ≤ R.slots) (hdg : decode cc pc = .ok (.new index, 3))
    (kk : ∀ (q : Nat) (H1 : Heap), zP2 cD cy A H0 S1 (zNew S2 q k 0) H1 locs → W p l e R s m args below meth c H1 locs (cells + 1) (slots + N) Q (F0 m (pc + 3) ls (.ref q :: rest))) : W p l e R s m args below meth c H locs cells slots Q (F0 m pc ls rest) := by
  refine va_new (ci := k) (fs := (z_ft k).map z_d) hcf.1 hcf.2.1 hcf.2.2.2.2 hin ty hty hcf.2.2.2.1 (hcf.2.2.2.2 _ hcl) (hcf.2.2.2.2 _ hinst) (hcf.2.2.2.2 _ hini) hK hw.1 hw.2.1 hw.2.2 hA hc hfs hcells hslots hdg fun q H1 hP hD hS => ?_
  have hD2 : va_D A (zW cy S2 ++ [(q, .inr (k, (z_ft k).map z_d))]) := by
    rw [List.append_assoc] at hD
    exact ⟨fun i j x y hi hj e => by have := hD.1 _ _ x y (z2_gr hi) (z2_gr hj) e; omega, fun i x hi => hD.2 _ x (z2_gr hi)⟩
  have e := zW_push (k := k) (n := 0) hD2 (zF_newo h13)
  rw [List.append_assoc, e] at hP hD
  exact kk q H1 ⟨hP, hD, hS⟩
end Z2
theorem z_arr {args : Array Value} {s : State} {ty : FieldType} (h : (Cond.arrayClass ty).before args s = true) (ho : ∀ C, ty ≠ .object C) : ∃ cA, ArrOfT s cA ty ∧ va_RA s cA ty := by
  obtain ⟨cA, kA, comp, h1, h2, h3⟩ := Cond.arrayClass_spec h
  exact ⟨cA, fun n z => ⟨fun k q => (by cases q), kA, h2, comp, h3⟩, by cases ty <;> first | exact h1 | exact absurd rfl (ho _)⟩
theorem z_arrO {s : State} {C : String} (h : va_AO C s) : ∃ cA, ArrOfT s cA (.object C) ∧ va_RA s cA (.object C) := by
  obtain ⟨comp, c, k, h1, h2, h3, h4, h5⟩ := Cond.arrayOver_spec h
  exact ⟨c, fun n z => ⟨fun k q => (by cases q), k, h3, comp, h4⟩, k, comp, h3, h4, h1, h5⟩
theorem z_start {args : Array Value} {s : State} (hts : ∀ w ∈ lw_tbl, w.before args s = true) : ∃ (cD : va_G) (cy : Nat → ClassId), zKK cD cy s := by
  have hE : zE s := zE.tab (fun w h => hts w (List.mem_append_right _ h))
  obtain ⟨c0, i0, h0⟩ := u_known (C := RX0) (T := TX0) (N := 4) (n := 4) hts inX0 (hts (.instantiable RX0 4) (List.mem_of_getElem? (i := 542) (by decide +kernel)))
  obtain ⟨c1, i1, h1⟩ := u_known (C := RX1) (T := TX1) (N := 4) (n := 4) hts inX1 (hts (.instantiable RX1 4) (List.mem_of_getElem? (i := 532) (by decide +kernel)))
  obtain ⟨c2, i2, h2⟩ := u_known (C := RX2) (T := TX2) (N := 4) (n := 4) hts inX2 (hts (.instantiable RX2 4) (List.mem_of_getElem? (i := 552) (by decide +kernel)))
  obtain ⟨c3, i3, h3⟩ := u_known (C := RX3) (T := TX3) (N := 7) (n := 7) hts inX3 (hts (.instantiable RX3 7) (List.mem_of_getElem? (i := 168) (by decide +kernel)))
  obtain ⟨c4, i4, h4⟩ := u_known (C := RX4) (T := TX4) (N := 4) (n := 4) hts inX4 (hts (.instantiable RX4 4) (List.mem_of_getElem? (i := 562) (by decide +kernel)))
  obtain ⟨c5, i5, h5⟩ := u_known (C := RX5) (T := TX5) (N := 7) (n := 7) hts inX5 (hts (.instantiable RX5 7) (List.mem_of_getElem? (i := 134) (by decide +kernel)))
  obtain ⟨c6, i6, h6⟩ := u_known (C := RX6) (T := TX6) (N := 4) (n := 4) hts inX6 (hts (.instantiable RX6 4) (List.mem_of_getElem? (i := 484) (by decide +kernel)))
  obtain ⟨c7, i7, h7⟩ := u_known (C := RX7) (T := TX7) (N := 4) (n := 4) hts inX7 (hts (.instantiable RX7 4) (List.mem_of_getElem? (i := 195) (by decide +kernel)))
  obtain ⟨c8, i8, h8⟩ := u_known (C := RX8) (T := TX8) (N := 4) (n := 4) hts inX8 (hts (.instantiable RX8 4) (List.mem_of_getElem? (i := 571) (by decide +kernel)))
  obtain ⟨c9, i9, h9⟩ := u_known (C := RX9) (T := TX9) (N := 4) (n := 4) hts inX9 (hts (.instantiable RX9 4) (List.mem_of_getElem? (i := 521) (by decide +kernel)))
  obtain ⟨c10, i10, h10⟩ := u_known (C := RX10) (T := TX10) (N := 6) (n := 6) hts inX10 (hts (.instantiable RX10 6) (List.mem_of_getElem? (i := 831) (by decide +kernel)))
  obtain ⟨c11, i11, h11⟩ := u_known (C := RX11) (T := TX11) (N := 13) (n := 13) hts inX11 (hts (.instantiable RX11 13) (List.mem_of_getElem? (i := 122) (by decide +kernel)))
  obtain ⟨c12, i12, h12⟩ := u_known (C := RX12) (T := TX12) (N := 56) (n := 56) hts inX12 (hts (.instantiable RX12 56) (List.mem_of_getElem? (i := 1228) (by decide +kernel)))
  obtain ⟨a0, ha0⟩ := z_arr (ty := .int) (hts (.arrayClass .int) (List.mem_of_getElem? (i := 166) (by decide +kernel))) (fun C q => by cases q)
  obtain ⟨a1, ha1⟩ := z_arr (ty := .long) (hts (.arrayClass .long) (List.mem_of_getElem? (i := 218) (by decide +kernel))) (fun C q => by cases q)
  obtain ⟨a2, ha2⟩ := z_arrO hE.2.1
  obtain ⟨a3, ha3⟩ := z_arrO hE.2.2
  refine ⟨(fun k => [c0, c1, c2, c3, c4, c5, c6, c7, c8, c9, c10, c11, c12].getD k 0, fun k => (match k with | 0 => i0 | 1 => i1 | 2 => i2 | 3 => i3 | 4 => i4 | 5 => i5 | 6 => i6 | 7 => i7 | 8 => i8 | 9 => i9 | 10 => i10 | 11 => i11 | _ => i12)), fun k => [a0, a1, a2, a3].getD k 0, ?_, ?_⟩
  · intro k q hq
    match k, hq with
    | 0, hq => cases hq; exact h0
    | 1, hq => cases hq; exact h1
    | 2, hq => cases hq; exact h2
    | 3, hq => cases hq; exact h3
    | 4, hq => cases hq; exact h4
    | 5, hq => cases hq; exact h5
    | 6, hq => cases hq; exact h6
    | 7, hq => cases hq; exact h7
    | 8, hq => cases hq; exact h8
    | 9, hq => cases hq; exact h9
    | 10, hq => cases hq; exact h10
    | 11, hq => cases hq; exact h11
    | 12, hq => cases hq; exact h12
    | k + 13, hq => simp [vwCl] at hq
  · intro k q hq
    match k, hq with
    | 0, hq => cases hq; exact ha0
    | 1, hq => cases hq; exact ha1
    | 2, hq => cases hq; exact ha2
    | 3, hq => cases hq; exact ha3
    | k + 4, hq => simp [z_tys] at hq
