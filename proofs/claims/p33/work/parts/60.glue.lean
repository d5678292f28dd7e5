/-! the empty pool; the classes; the script; the end -/
theorem zPw_0 (cD : va_G) (cy : Nat → ClassId) (A : Nat → Prop) (H0 : Heap) : zPw cD cy A H0 zS0 H0 [] := ⟨fun k q h => by simp [zW, zS0, zL, va_pl] at h, ⟨fun i j p q h => by simp [zW, zS0, zL, va_pl] at h, fun k q h => by simp [zW, zS0, zL, va_pl] at h⟩, va_S.rf⟩
theorem cs_0 (r : Nat → Nat) : CS r [] zS0 := ⟨rfl, fun i j h => by simp at h, fun i o h => by simp at h, fun i o h => by simp at h⟩
theorem z_arr {args : Array Value} {s : State} {ty : FieldType} (h : (Cond.arrayClass ty).before args s = true) (ho : ∀ C, ty ≠ .object C) : ∃ cA, ArrOfT s cA ty ∧ va_RA s cA ty := by
  obtain ⟨cA, kA, comp, h1, h2, h3⟩ := Cond.arrayClass_spec h
  exact ⟨cA, fun n z => ⟨fun k q => (by cases q), kA, h2, comp, h3⟩, by cases ty <;> first | exact h1 | exact absurd rfl (ho _)⟩
theorem z_arrO {s : State} {C : String} (h : va_AO C s) : ∃ cA, ArrOfT s cA (.object C) ∧ va_RA s cA (.object C) := by
  obtain ⟨comp, c, k, h1, h2, h3, h4, h5⟩ := Cond.arrayOver_spec h
  exact ⟨c, fun n z => ⟨fun k q => (by cases q), k, h3, comp, h4⟩, k, comp, h3, h4, h1, h5⟩
theorem tb_tbl {args : Array Value} {s : State} (hts : ∀ w ∈ lw_tbl, w.before args s = true) : ∀ w ∈ TB, w.before args s = true := fun w h => hts w (List.mem_filter.mp h).1
theorem z_start {args : Array Value} {s : State} (hts0 : ∀ w ∈ lw_tbl, w.before args s = true) : ∃ (cD : va_G) (cy : Nat → ClassId), zKK cD cy s := by
  have hE : zE s := zE.tab (fun w h => hts0 w (List.mem_append_right _ h))
  have hts := tb_tbl hts0
  obtain ⟨c0, i0, h0⟩ := u_known (C := RX0) (T := TX0) (N := 4) (n := 4) hts uX0 (hts _ (tb_2 204 rfl rfl))
  obtain ⟨c1, i1, h1⟩ := u_known (C := RX1) (T := TX1) (N := 4) (n := 4) hts uX1 (hts _ (tb_2 194 rfl rfl))
  obtain ⟨c2, i2, h2⟩ := u_known (C := RX2) (T := TX2) (N := 4) (n := 4) hts uX2 (hts _ (tb_2 214 rfl rfl))
  obtain ⟨c3, i3, h3⟩ := u_known (C := RX3) (T := TX3) (N := 7) (n := 7) hts uX3 (hts _ (tb_1 70 rfl rfl))
  obtain ⟨c4, i4, h4⟩ := u_known (C := RX4) (T := TX4) (N := 4) (n := 4) hts uX4 (hts _ (tb_2 224 rfl rfl))
  obtain ⟨c5, i5, h5⟩ := u_known (C := RX5) (T := TX5) (N := 7) (n := 7) hts uX5 (hts _ (tb_1 36 rfl rfl))
  obtain ⟨c6, i6, h6⟩ := u_known (C := RX6) (T := TX6) (N := 4) (n := 4) hts uX6 (hts _ (tb_2 146 rfl rfl))
  obtain ⟨c7, i7, h7⟩ := u_known (C := RX7) (T := TX7) (N := 4) (n := 4) hts uX7 (hts _ (tb_1 97 rfl rfl))
  obtain ⟨c8, i8, h8⟩ := u_known (C := RX8) (T := TX8) (N := 4) (n := 4) hts uX8 (hts _ (tb_2 233 rfl rfl))
  obtain ⟨c9, i9, h9⟩ := u_known (C := RX9) (T := TX9) (N := 4) (n := 4) hts uX9 (hts _ (tb_2 183 rfl rfl))
  obtain ⟨c10, i10, h10⟩ := u_known (C := RX10) (T := TX10) (N := 6) (n := 6) hts uX10 (hts _ (tb_4 13 rfl rfl))
  obtain ⟨c11, i11, h11⟩ := u_known (C := RX11) (T := TX11) (N := 13) (n := 13) hts uX11 (hts _ (tb_1 24 rfl rfl))
  obtain ⟨c12, i12, h12⟩ := u_known (C := RX12) (T := TX12) (N := 56) (n := 56) hts uX12 (hts _ (tb_5 170 rfl rfl))
  obtain ⟨a0, ha0⟩ := z_arr (ty := .int) (hts _ (tb_1 68 rfl rfl)) (fun C q => by cases q)
  obtain ⟨a1, ha1⟩ := z_arr (ty := .long) (hts _ (tb_1 120 rfl rfl)) (fun C q => by cases q)
  obtain ⟨a2, ha2⟩ := z_arrO hE.2.1
  obtain ⟨a3, ha3⟩ := z_arrO hE.2.2
  refine ⟨(fun k => [c0, c1, c2, c3, c4, c5, c6, c7, c8, c9, c10, c11, c12].getD k 0, fun k => (match k with | 0 => i0 | 1 => i1 | 2 => i2 | 3 => i3 | 4 => i4 | 5 => i5 | 6 => i6 | 7 => i7 | 8 => i8 | 9 => i9 | 10 => i10 | 11 => i11 | _ => i12)), fun k => [a0, a1, a2, a3].getD k 0, ?_, ?_⟩
  · intro k q hq
    match k, hq with
    | 0, hq => cases hq; exact h0
    | 1, hq => cases hq; exact h1
    | 2, hq => cases hq; exact h2
    | 3, hq => cases hq; exact h3
    | 4, hq => cases hq; exact h4
    | 5, hq => cases hq; exact h5
    | 6, hq => cases hq; exact h6
    | 7, hq => cases hq; exact h7
    | 8, hq => cases hq; exact h8
    | 9, hq => cases hq; exact h9
    | 10, hq => cases hq; exact h10
    | 11, hq => cases hq; exact h11
    | 12, hq => cases hq; exact h12
    | k + 13, hq => simp [vwCl] at hq
  · intro k q hq
    match k, hq with
    | 0, hq => cases hq; exact ha0
    | 1, hq => cases hq; exact ha1
    | 2, hq => cases hq; exact ha2
    | 3, hq => cases hq; exact ha3
    | k + 4, hq => simp [z_tys] at hq
theorem rscr_L {C : zS → Int → Int} {xs : Nat → Nat} {cD : va_G} {cy : Nat → ClassId} {p : Program} {l : Launch} {e : Env} {R : Room} {s : State} {m : MethodId} {args : Array Value} {below : List Frame} {meth : Method} {c : Code} {cc : ByteArray} {b L : Nat} {zs : Nat → Int32} (hx : p.tables.exec = Jvm.exec) (hb : c.code = cc) (hX : va_X b L zs s s.heap) (hbl : b < s.heap.size) (x9 : xs 9 = b) (hL : L ≤ 3584) (N : Int) (Qc : State → Prop) : RScr (ghN C (ngL (L : Int) (fun j => (zs j).toInt) N)) xs cD cy (fun q => s.heap.size ≤ q) p l e R s m args below meth c Qc cc := by
  intro H locs cells slots pc ls rest S hw
  have hbA : ¬ (fun q : Nat => s.heap.size ≤ q) b := Nat.not_le.mpr hbl
  have g1 : ghN C (ngL (L : Int) (fun j => (zs j).toInt) N) zS0 (-1) = (L : Int) := by
    unfold ghN ngL
    rw [if_pos (by omega), if_pos rfl]
  rw [x9]
  refine ⟨fun hd kk => ?_, fun hd ix h0 h1 kk => ?_⟩
  · rw [g1] at kk
    exact va_slen hx hb hX hbl hbA hw.2.2 hd kk
  · rw [g1] at h1
    have e1 : (Int32.ofInt ix).toInt = ix := i32_of (by rw [k32l_eq, k32h_eq]; omega)
    have e2 : (Int32.ofInt ix).toNatClampNeg = ix.toNat := by show (Int32.ofInt ix).toInt.toNat = _; rw [e1]
    refine va_sld hx hb hX hbl hbA hw.2.2 (i := Int32.ofInt ix) (vp_in_iff.mpr ⟨by omega, by omega⟩) hd (kk _ ?_)
    unfold ghN ngL
    rw [if_pos (by omega), if_neg (by omega), if_neg (by omega), if_pos (by omega), e2]
    show _ = (zs (-1000 - (-1000 - ix)).toNat).toInt
    rw [show -1000 - (-1000 - ix) = ix by omega]
