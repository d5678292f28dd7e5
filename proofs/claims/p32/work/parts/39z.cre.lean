/-! by hand: how many creases a strip has -/
theorem zq2 : ∀ i : Nat, i ≤ 40 → (i : Int) + 1 ≤ 2 ^ i := by decide +kernel
theorem zq3 : ∀ i : Nat, i ≤ 25 → (i : Int) + 1 ≤ 3 ^ i := by decide +kernel
def zWf (k f : Int) : Int := (match k with | 2 => (3 : Int) | _ => 2) ^ f.toNat - 1
def zKf (k p f : Int) : Int := if k = 3 ∨ k = 4 then Int.tmod p (zWf k f) else 0
def sgW (I1 I2 r : Itv) (off : Int) : Sg := ([(.ofNat 0, .ofNat 7), I1, I2], [.inr (.inr (.inr (.inl 0))), .inl (.ofNat 0, [(0, .ofNat 1)])], [(15, [(.ofNat 0, [(0, .ofNat 1)])]), (17, [(.ofNat 0, [(0, .ofNat 1)])])], [(false, [17])], [], [], (0, 0), none, [([r], [], [.inr (.inl (.ofNat 0, [(3, .ofNat 1)]))], [(.ofNat 0, [(2, .negSucc 0), (3, .ofNat 1)])], [(2, [(off, [(2, .ofNat 1)])], (.ofNat 1, [(3, .ofNat 1)]))])])
section CRE
variable {ad xs : Nat → Nat} {cD : va_G} {cy : Nat → ClassId} {l : Launch} {neg0 : Int → Int} {S : zS} {ρ : Nat → Nat} {g : Nat → Int} {sz : Nat}
theorem coup_kf (h : CoupX zT ad S g []) {t : Nat} (ht : t < 8) : (0 ≤ RGv zT ad S 12 t ∧ RGv zT ad S 12 t ≤ 1 ∧ 0 ≤ RGv zT ad S 14 t ∧ RGv zT ad S 14 t ≤ 40) ∨ (RGv zT ad S 12 t = 2 ∧ 1 ≤ RGv zT ad S 14 t ∧ RGv zT ad S 14 t ≤ 25) ∨ (3 ≤ RGv zT ad S 12 t ∧ RGv zT ad S 12 t ≤ 6 ∧ 1 ≤ RGv zT ad S 14 t ∧ RGv zT ad S 14 t ≤ 40) := by
  obtain ⟨o, ho, hc⟩ := h 0 _ rfl t ht (fun d hd => by cases hd)
  have ho : o ∈ ([[(.ofNat 0, .ofNat 0), (.ofNat 0, .ofNat 40)], [(.ofNat 1, .ofNat 1), (.ofNat 1, .ofNat 40)], [(.ofNat 2, .ofNat 2), (.ofNat 1, .ofNat 25)], [(.ofNat 3, .ofNat 6), (.ofNat 1, .ofNat 40)]] : List (List Itv)) := ho
  have a := hc 0 (12, 0)
  have b := hc 1 (14, 0)
  simp only [Nat.zero_add] at a b
  rcases List.mem_cons.mp ho with q | ho
  · subst q
    have a : (0 : Int) ≤ _ ∧ _ ≤ (0 : Int) := a _ rfl rfl
    have b : (0 : Int) ≤ _ ∧ _ ≤ (40 : Int) := b _ rfl rfl
    omega
  rcases List.mem_cons.mp ho with q | ho
  · subst q
    have a : (1 : Int) ≤ _ ∧ _ ≤ (1 : Int) := a _ rfl rfl
    have b : (1 : Int) ≤ _ ∧ _ ≤ (40 : Int) := b _ rfl rfl
    omega
  rcases List.mem_cons.mp ho with q | ho
  · subst q
    have a : (2 : Int) ≤ _ ∧ _ ≤ (2 : Int) := a _ rfl rfl
    have b : (1 : Int) ≤ _ ∧ _ ≤ (25 : Int) := b _ rfl rfl
    omega
  · have q := List.mem_singleton.mp ho
    subst q
    have a : (3 : Int) ≤ _ ∧ _ ≤ (6 : Int) := a _ rfl rfl
    have b : (1 : Int) ≤ _ ∧ _ ≤ (40 : Int) := b _ rfl rfl
    omega
theorem whole_core {I1 I2 r : Itv} {off : Int} {w : Int} {t : Nat} (hcon : Con zT ad (ghN (zC ad) neg0) (zXI ad) xs cD cy l yX12_whole cX12_whole 2 ((some .long)) 1 25 (sgW I1 I2 r off) []) (hW : Wld zT ad (zXI ad) S ρ) (hC : CoupX zT ad S g []) (ht : t < 8)
    (h1 : I1.1 ≤ RGv zT ad S 12 t ∧ RGv zT ad S 12 t ≤ I1.2) (h2 : I2.1 ≤ RGv zT ad S 14 t ∧ RGv zT ad S 14 t ≤ I2.2) (hg : ∀ S', ghN (zC ad) neg0 S' (((off + (1 * RGv zT ad S 14 t + 0)).toNat : Nat) : Int) = w + 1) :
    ∃ Post : Option Value → zS → (Nat → Nat) → Prop, Met l yX12_whole (Cond.code yX12_whole cX12_whole 2 (some .long) :: TB) { frames := 1, cells := 0, slots := 0, locals := 25 } (va_Pc [.ref (ad 17), .int (Int32.ofInt t)] (zPre xs cD cy S sz)) (QX cD cy Post (zAd cy S sz)) 0 0 (zAd cy S sz) ∧ ∀ rv S' ρ', Post rv S' ρ' → (Wld zT ad (zXI ad) S' ρ' ∧ Fr zT ad [] S ρ S' ρ') ∧ rv = some (.long (Int64.ofInt w)) := by
  have c17 := ty_cel hW.1 (r := 17) (by decide +kernel) rfl
  have key := hcon (fun j => if j = 0 then (t : Int) else if j = 1 then RGv zT ad S 12 t else RGv zT ad S 14 t) (fun _ => some (ad 17)) S ρ sz ⟨fun i hi => ?_, fun i q hq => ?_, fun q => absurd rfl q, (fun f hf => absurd hf List.not_mem_nil), fun j q hq => ?_, hW, fun gi G hG t ht _ => hC gi G hG t ht (fun d hd => by cases hd)⟩
  · have e : γK (fun j => if j = 0 then (t : Int) else if j = 1 then RGv zT ad S 12 t else RGv zT ad S 14 t) (fun _ => some (ad 17)) xs (sA (sgW I1 I2 r off)) = [.ref (ad 17), .int (Int32.ofInt t)] := by
      show [va_rf (some (ad 17)), .int (Int32.ofInt (ev _ (lsy 0)))] = _
      rw [ev_lsy]; rfl
    rw [e] at key
    refine ⟨_, key, fun rv S' ρ' hp => ?_⟩
    obtain ⟨q1, q2, q3, o, ho, g2, τ2, q4, q5, q6⟩ := hp
    have ho := List.mem_singleton.mp ho
    subst ho
    obtain ⟨u1, u2, u3, u4, u5⟩ := q6
    refine ⟨⟨q1, q3⟩, ?_⟩
    have u3 : rv.toList = [.long (Int64.ofInt (ev g2 (lsy 3)))] := u3
    rw [ev_lsy] at u3
    have m := (u5 _ List.mem_cons_self).1
    have m : ghN (zC ad) neg0 S' (((off + (1 * g2 2 + 0)).toNat : Nat) : Int) = 1 + (1 * g2 3 + 0) := m
    have e2 : g2 2 = RGv zT ad S 14 t := q4 2 (show 2 < 3 by decide)
    rw [e2, hg S'] at m
    have e3 : g2 3 = w := by omega
    rw [e3] at u3
    cases rv with
    | none => cases u3
    | some v => cases u3; rfl
  · have hi : i < 3 := hi
    match i, hi with
    | 0, _ =>
      show (0 : Int) ≤ (t : Int) ∧ (t : Int) ≤ 7
      omega
    | 1, _ => exact h1
    | 2, _ => exact h2
  · match i, hq with
    | 0, hq => cases hq; exact ⟨c17.1, by rw [c17.2.1]; exact List.mem_cons_self⟩
  · match j, hq with
    | 0, hq =>
      cases hq
      refine ⟨?_, fun reg hr => by cases List.mem_singleton.mp hr; decide +kernel⟩
      show RGv zT ad S 12 (ev _ (lsy 0)) = RGv zT ad S 12 t
      rw [ev_lsy]; rfl
    | 1, hq =>
      cases hq
      refine ⟨?_, fun reg hr => by cases List.mem_singleton.mp hr; decide +kernel⟩
      show RGv zT ad S 14 (ev _ (lsy 0)) = RGv zT ad S 14 t
      rw [ev_lsy]; rfl
theorem gh_2 {f : Int} (h0 : 0 ≤ f) (h1 : f ≤ 40) {S' : zS} : ghN (zC ad) neg0 S' ((((2000 : Int) + (1 * f + 0)).toNat : Nat) : Int) = 2 ^ f.toNat := by
  have e : (((((2000 : Int) + (1 * f + 0)).toNat : Nat) : Int)) = 2000 + f := by omega
  rw [e]
  unfold ghN zC
  rw [if_neg (by omega), if_neg (by omega), if_pos (by omega), show (2000 + f - 2000 : Int) = f by omega]
theorem gh_3 {f : Int} (h0 : 0 ≤ f) (h1 : f ≤ 25) {S' : zS} : ghN (zC ad) neg0 S' ((((3000 : Int) + (1 * f + 0)).toNat : Nat) : Int) = 3 ^ f.toNat := by
  have e : (((((3000 : Int) + (1 * f + 0)).toNat : Nat) : Int)) = 3000 + f := by omega
  rw [e]
  unfold ghN zC
  rw [if_neg (by omega), if_neg (by omega), if_neg (by omega), if_neg (by omega), if_pos (by omega), show (3000 + f - 3000 : Int) = f by omega]
theorem zWf_2 {f : Int} : zWf 2 f = 3 ^ f.toNat - 1 := rfl
theorem zWf_n {k f : Int} (h : k ≠ 2) : zWf k f = 2 ^ f.toNat - 1 := by
  unfold zWf
  split
  · exact absurd rfl h
  · rfl
theorem met_whole {t : Nat} (hb0 : bndN neg0) (hW : Wld zT ad (zXI ad) S ρ) (hC : CoupX zT ad S g []) (ht : t < 8) :
    ∃ Post : Option Value → zS → (Nat → Nat) → Prop, Met l yX12_whole (Cond.code yX12_whole cX12_whole 2 (some .long) :: TB) { frames := 1, cells := 0, slots := 0, locals := 25 } (va_Pc [.ref (ad 17), .int (Int32.ofInt t)] (zPre xs cD cy S sz)) (QX cD cy Post (zAd cy S sz)) 0 0 (zAd cy S sz) ∧ ∀ rv S' ρ', Post rv S' ρ' → (Wld zT ad (zXI ad) S' ρ' ∧ Fr zT ad [] S ρ S' ρ') ∧ rv = some (.long (Int64.ofInt (zWf (RGv zT ad S 12 t) (RGv zT ad S 14 t)))) := by
  rcases coup_kf hC ht with ⟨a, b, c, d⟩ | ⟨a, b, c⟩ | ⟨a, b, c, d⟩
  · refine whole_core (I1 := (.ofNat 0, .ofNat 1)) (I2 := (.ofNat 0, .ofNat 40)) (off := .ofNat 2000) (cn_X12_whole_1 (neg0 := neg0) hb0) hW hC ht ⟨a, b⟩ ⟨c, d⟩ (fun S' => ?_)
    rw [zWf_n (by omega)]
    exact (gh_2 c d).trans (by omega)
  · refine whole_core (I1 := (.ofNat 2, .ofNat 2)) (I2 := (.ofNat 0, .ofNat 25)) (off := .ofNat 3000) (cn_X12_whole_0 (neg0 := neg0) hb0) hW hC ht ⟨Int.le_of_eq a.symm, Int.le_of_eq a⟩ ⟨by show (0 : Int) ≤ _; omega, c⟩ (fun S' => ?_)
    rw [a, zWf_2]
    exact (gh_3 (by omega) c).trans (by omega)
  · refine whole_core (I1 := (.ofNat 3, .ofNat 6)) (I2 := (.ofNat 0, .ofNat 40)) (off := .ofNat 2000) (cn_X12_whole_2 (neg0 := neg0) hb0) hW hC ht ⟨a, b⟩ ⟨by show (0 : Int) ≤ _; omega, d⟩ (fun S' => ?_)
    rw [zWf_n (by omega)]
    exact (gh_2 (by omega) d).trans (by omega)
theorem w_rng {t : Nat} (hC : CoupX zT ad S g []) (ht : t < 8) : RGv zT ad S 14 t ≤ zWf (RGv zT ad S 12 t) (RGv zT ad S 14 t) ∧ zWf (RGv zT ad S 12 t) (RGv zT ad S 14 t) ≤ 1099511627775 ∧ (RGv zT ad S 14 t = 0 → zWf (RGv zT ad S 12 t) (RGv zT ad S 14 t) = 0) := by
  have n2 : ∀ f : Int, 0 ≤ f → f ≤ 40 → f + 1 ≤ 2 ^ f.toNat ∧ (2 : Int) ^ f.toNat ≤ 1099511627776 := fun f h0 h1 => by
    have a := zq2 f.toNat (by omega)
    have b := zp2 f.toNat (by omega)
    have e : (f.toNat : Int) = f := by omega
    rw [e] at a
    exact ⟨a, b.2⟩
  have n3 : ∀ f : Int, 0 ≤ f → f ≤ 25 → f + 1 ≤ 3 ^ f.toNat ∧ (3 : Int) ^ f.toNat ≤ 847288609443 := fun f h0 h1 => by
    have a := zq3 f.toNat (by omega)
    have b := zp3 f.toNat (by omega)
    have e : (f.toNat : Int) = f := by omega
    rw [e] at a
    exact ⟨a, b.2⟩
  rcases coup_kf hC ht with ⟨a, b, c, d⟩ | ⟨a, b, c⟩ | ⟨a, b, c, d⟩
  · rw [zWf_n (by omega)]
    have := n2 _ c d
    refine ⟨by omega, by omega, fun q => ?_⟩
    rw [q]; rfl
  · rw [a, zWf_2]
    have := n3 _ (by omega : (0 : Int) ≤ RGv zT ad S 14 t) c
    exact ⟨by omega, by omega, fun q => by omega⟩
  · rw [zWf_n (by omega)]
    have := n2 _ (by omega : (0 : Int) ≤ RGv zT ad S 14 t) d
    exact ⟨by omega, by omega, fun q => by omega⟩
theorem fld_k (h : Typed zT ad S ρ) : z_v S (ad 17) 2 (z_bs 12 + 3) = .ref (ad 19) := by
  show va_rf (zQ S (z_bs 12 + 3) (ad 17)) = _
  rw [ty_fld h (r := 17) (f := 3) (r2 := 19) (by decide +kernel) rfl (by decide) rfl (by decide +kernel)]; rfl
theorem fld_p (h : Typed zT ad S ρ) : z_v S (ad 17) 2 (z_bs 12 + 4) = .ref (ad 20) := by
  show va_rf (zQ S (z_bs 12 + 4) (ad 17)) = _
  rw [ty_fld h (r := 17) (f := 4) (r2 := 20) (by decide +kernel) rfl (by decide) rfl (by decide +kernel)]; rfl
theorem vin_8 {i : Nat} (h : i < 8) : vp_in (Int32.ofInt (i : Int)) 8 ∧ (Int32.ofInt (i : Int)).toNatClampNeg = i := by
  have vi : (Int32.ofInt (i : Int)).toInt = (i : Int) := i32_of (by rw [k32l_eq, k32h_eq]; omega)
  exact ⟨vp_in_iff.mpr ⟨by omega, by omega⟩, by show (Int32.ofInt (i : Int)).toInt.toNat = i; rw [vi]; omega⟩
def PZ (ad : Nat → Nat) (S : zS) (ρ : Nat → Nat) (v : Int) : Option Value → zS → (Nat → Nat) → Prop := fun rv S' ρ' => (Wld zT ad (zXI ad) S' ρ' ∧ Fr zT ad [] S ρ S' ρ') ∧ rv = some (.long (Int64.ofInt v))
theorem met_cut {t : Nat} (hb0 : bndN neg0) (hW : Wld zT ad (zXI ad) S ρ) (hC : CoupX zT ad S g []) (ht : t < 8) :
    Met l yX12_cutOf (Cond.code yX12_cutOf cX12_cutOf 2 (some .long) :: TB) { frames := 2, cells := 0, slots := 0, locals := 46 } (va_Pc [.ref (ad 17), .int (Int32.ofInt t)] (zPre xs cD cy S sz)) (QX cD cy (PZ ad S ρ (zKf (RGv zT ad S 12 t) (RGv zT ad S 13 t) (RGv zT ad S 14 t))) (zAd cy S sz)) 0 0 (zAd cy S sz) := by
  refine z_ofW (QQ := QX cD cy (PZ ad S ρ (zKf (RGv zT ad S 12 t) (RGv zT ad S 13 t) (RGv zT ad S 14 t)))) (own := RX12) (by decide +kernel) rfl rfl (Nat.le_of_ble_eq_true rfl) ?_
  intro p e s m args below meth c A ls hcf hr hlk hnm hK hE hZ hw hA hl
  have hM : MX xs cD cy A p s m args c cX12_cutOf 2 (Cond.code yX12_cutOf cX12_cutOf 2 (some .long) :: TB) RX12 := ⟨hcf, fun w hw => List.mem_cons_of_mem _ hw, hK, hE, hZ, hA⟩
  have hx := hcf.1
  have hb := hcf.2.1
  have hl : lv_has ls 2 [(0, .ref (ad 17)), (1, .int (Int32.ofInt t))] := hl
  have c17 := ty_cel hW.1 (r := 17) (by decide +kernel) rfl
  have c19 := ty_cel hW.1 (r := 19) (by decide +kernel) rfl
  have c20 := ty_cel hW.1 (r := 20) (by decide +kernel) rfl
  have vin := vin_8 ht
  have ek : RGv zT ad S 12 t = (zA S (ad 19) t).toInt := by
    show (zA S (ad 19) (Int.toNat (t : Int))).toInt = _
    rw [Int.toNat_natCast]
  have ep : RGv zT ad S 13 t = (zA S (ad 20) t).toInt := by
    show (zA S (ad 20) (Int.toNat (t : Int))).toInt = _
    rw [Int.toNat_natCast]
  have fin : ∀ (v : Int) (S1 : zS) (ρ1 : Nat → Nat) (H1 : Heap) (locs1 : List Loc), PZ ad S ρ v (some (.long (Int64.ofInt v))) S1 ρ1 → v = zKf (RGv zT ad S 12 t) (RGv zT ad S 13 t) (RGv zT ad S 14 t) → zPw cD cy A s.heap S1 H1 locs1 → W p l e { frames := 2, cells := 0, slots := 0, locals := 46 } s m args below meth c H1 locs1 0 0 (MQ below (QX cD cy (PZ ad S ρ (zKf (RGv zT ad S 12 t) (RGv zT ad S 13 t) (RGv zT ad S 14 t))) A) args s 0 0 A) (F0 m 37 ls [.long (Int64.ofInt v)]) := by
    intro v S1 ρ1 H1 locs1 hp hv hw1
    subst hv
    exact W.lret hx hb hr (fun t ht hW => ⟨⟨some (.long _), S1, ρ1, rfl, hp, by rw [ht]; exact hw1.1, hw1.2.1⟩, hw1.2.2.F ht⟩) hw1.2.2.2.2 (by decide +kernel) hlk
  have path : (RGv zT ad S 12 t = 3 ∨ RGv zT ad S 12 t = 4) → W p l e { frames := 2, cells := 0, slots := 0, locals := 46 } s m args below meth c s.heap [] 0 0 (MQ below (QX cD cy (PZ ad S ρ (zKf (RGv zT ad S 12 t) (RGv zT ad S 13 t) (RGv zT ad S 14 t))) A) args s 0 0 A) (F0 m 20 ls []) := by
    intro hk
    refine lv_aload_n (k := 0) (i := 0) hx hb (by decide +kernel) rfl (lv_at hl 0 rfl) ?_
    refine gf_RX12_20_12 p l e _ s m args below meth c s.heap [] _ _ _ xs cD cy A cX12_cutOf 2 _ S (ad 17) 21 ls [] 2 hM hw c17.1 c17.2.2.1 (by decide +kernel) rfl ?_
    rw [fld_p hW.1]
    refine lv_iload_n (k := 1) (i := 1) hx hb (by decide +kernel) rfl (lv_at hl 1 rfl) ?_
    refine z_iald hM.1 hM.2.2.1 hw c20.1 c20.2.2.1 (c20.2.2.2.1 (by decide)) vin.1 (by decide +kernel) ?_
    rw [vin.2]
    refine lv_i2l hx hb (by decide +kernel) rfl ?_
    refine lv_aload_n (k := 0) (i := 0) hx hb (by decide +kernel) rfl (lv_at hl 0 rfl) ?_
    refine lv_iload_n (k := 1) (i := 1) hx hb (by decide +kernel) rfl (lv_at hl 1 rfl) ?_
    obtain ⟨Post, hmet, hpost⟩ := met_whole (xs := xs) (cD := cD) (cy := cy) (l := l) (sz := s.heap.size) hb0 hW hC ht
    have hrun := rl_RX12_2_226_12 p l e { frames := 2, cells := 0, slots := 0, locals := 46 } s m args below meth c s.heap [] 0 0 xs cD cy A cX12_cutOf 2 _ S 29 ls [.long (zA S (ad 20) t).toInt64] [.ref (ad 17), .int (Int32.ofInt t)] _ _ 0 0 _ hM hw rfl (Or.inr (Or.inl ⟨by decide, _, _, rfl, c17.1, c17.2.2.1⟩)) hmet rfl rfl (Nat.le_of_ble_eq_true rfl) (Nat.le_of_ble_eq_true rfl) (show (2 : Nat) ≤ 8 by decide) (by decide +kernel) ⟨Nat.le_refl _, Nat.le_refl _⟩ hl.1
    refine z_call hw hA hrun (fun rv S1 ρ1 H1 locs1 hp hw1 => ?_)
    obtain ⟨⟨q1, q2⟩, q3⟩ := hpost _ _ _ hp
    subst q3
    have wr := w_rng hC ht
    have f1 : 1 ≤ RGv zT ad S 14 t := by
      rcases coup_kf hC ht with h | h | h <;> omega
    generalize hw0 : zWf (RGv zT ad S 12 t) (RGv zT ad S 14 t) = w at wr hp hpost
    have vw : (Int64.ofInt w).toInt = w := i64_of (by rw [k64l_eq, k64h_eq]; omega)
    have ne : ¬ Int64.ofInt w = 0 := fun q => by
      rw [q] at vw
      have : (0 : Int64).toInt = 0 := rfl
      omega
    refine lv_lrem hx hb (by decide +kernel) ne ?_
    rw [rem64]
    have ev : (zA S (ad 20) t).toInt64 % Int64.ofInt w = Int64.ofInt (Int.tmod (RGv zT ad S 13 t) w) := by
      have h1 : ((zA S (ad 20) t).toInt64 % Int64.ofInt w).toInt = Int.tmod (RGv zT ad S 13 t) w := by
        rw [Int64.toInt_mod, vw, Int32.toInt_toInt64, ep]
      rw [← h1, Int64.ofInt_toInt]
    rw [ev]
    refine lv_goto (off := 4) (tgt := 37) hx hb (by decide +kernel) (by decide) ?_
    refine fin _ S1 ρ1 H1 locs1 ⟨⟨q1, q2⟩, rfl⟩ ?_ hw1
    unfold zKf
    rw [if_pos hk, hw0]
  refine lv_aload_n (k := 0) (i := 0) hx hb (by decide +kernel) rfl (lv_at hl 0 rfl) ?_
  refine gf_RX12_17_12 p l e _ s m args below meth c s.heap [] _ _ _ xs cD cy A cX12_cutOf 2 _ S (ad 17) 1 ls [] 2 hM hw c17.1 c17.2.2.1 (by decide +kernel) rfl ?_
  rw [fld_k hW.1]
  refine lv_iload_n (k := 1) (i := 1) hx hb (by decide +kernel) rfl (lv_at hl 1 rfl) ?_
  refine z_iald hM.1 hM.2.2.1 hw c19.1 c19.2.2.1 (c19.2.2.2.1 (by decide)) vin.1 (by decide +kernel) ?_
  rw [vin.2]
  refine lv_iconst (n := 3) (v := 3) hx hb (by decide +kernel) (by decide) ?_
  refine lv_icmp_eq (off := 13) (tgt := 20) hx hb (by decide +kernel) (by decide) (fun q => path (Or.inl (by rw [ek, q]; decide))) (fun n3 => ?_)
  refine lv_aload_n (k := 0) (i := 0) hx hb (by decide +kernel) rfl (lv_at hl 0 rfl) ?_
  refine gf_RX12_17_12 p l e _ s m args below meth c s.heap [] _ _ _ xs cD cy A cX12_cutOf 2 _ S (ad 17) 11 ls [] 2 hM hw c17.1 c17.2.2.1 (by decide +kernel) rfl ?_
  rw [fld_k hW.1]
  refine lv_iload_n (k := 1) (i := 1) hx hb (by decide +kernel) rfl (lv_at hl 1 rfl) ?_
  refine z_iald hM.1 hM.2.2.1 hw c19.1 c19.2.2.1 (c19.2.2.2.1 (by decide)) vin.1 (by decide +kernel) ?_
  rw [vin.2]
  refine lv_iconst (n := 4) (v := 4) hx hb (by decide +kernel) (by decide) ?_
  refine lv_icmp_ne (off := 19) (tgt := 36) hx hb (by decide +kernel) (by decide) (fun n4 => ?_) (fun q => path (Or.inr (by rw [ek, q]; decide)))
  refine lv_lconst (n := 0) (v := 0) hx hb (by decide +kernel) (by decide) ?_
  refine fin 0 S ρ s.heap [] ⟨⟨hW, Fr.refl⟩, rfl⟩ ?_ hw
  unfold zKf
  rw [if_neg (fun q => ?_)]
  rw [ek] at q
  rcases q with q | q
  · exact n3 (Int32.toInt_inj.mp q)
  · exact n4 (Int32.toInt_inj.mp q)
theorem zCr_eq {k p f : Int} : zCr k p f = zWf k f - zKf k p f := by
  show (if k = 3 ∨ k = 4 then zWf k f - Int.tmod p (zWf k f) else zWf k f) = _
  unfold zKf
  split
  · rfl
  · omega
theorem met_cre {t : Nat} {Q : Option Value → zS → (Nat → Nat) → Prop} (hb0 : bndN neg0) (hW : Wld zT ad (zXI ad) S ρ) (hC : CoupX zT ad S g []) (ht : t < 8)
    (hQ : ∀ (S1 : zS) (ρ1 : Nat → Nat), Wld zT ad (zXI ad) S1 ρ1 → Fr zT ad [] S ρ S1 ρ1 → Q (some (.long (Int64.ofInt (zCr (RGv zT ad S 12 t) (RGv zT ad S 13 t) (RGv zT ad S 14 t))))) S1 ρ1) :
    Met l yX12_creasesOf (Cond.code yX12_creasesOf cX12_creasesOf 2 (some .long) :: TB) { frames := 3, cells := 0, slots := 0, locals := 200 } (va_Pc [.ref (ad 17), .int (Int32.ofInt t)] (zPre xs cD cy S sz)) (QX cD cy Q (zAd cy S sz)) 0 0 (zAd cy S sz) := by
  refine z_ofW (QQ := QX cD cy Q) (own := RX12) (by decide +kernel) rfl rfl (Nat.le_of_ble_eq_true rfl) ?_
  intro p e s m args below meth c A ls hcf hr hlk hnm hK hE hZ hw hA hl
  have hM : MX xs cD cy A p s m args c cX12_creasesOf 2 (Cond.code yX12_creasesOf cX12_creasesOf 2 (some .long) :: TB) RX12 := ⟨hcf, fun w hw => List.mem_cons_of_mem _ hw, hK, hE, hZ, hA⟩
  have hx := hcf.1
  have hb := hcf.2.1
  have hl : lv_has ls 2 [(0, .ref (ad 17)), (1, .int (Int32.ofInt t))] := hl
  have c17 := ty_cel hW.1 (r := 17) (by decide +kernel) rfl
  have hT := zT_ok (ad := ad) hb0
  refine lv_aload_n (k := 0) (i := 0) hx hb (by decide +kernel) rfl (lv_at hl 0 rfl) ?_
  refine lv_iload_n (k := 1) (i := 1) hx hb (by decide +kernel) rfl (lv_at hl 1 rfl) ?_
  obtain ⟨Post, hmet, hpost⟩ := met_whole (xs := xs) (cD := cD) (cy := cy) (l := l) (sz := s.heap.size) hb0 hW hC ht
  have hrun := rl_RX12_2_226_12 p l e { frames := 3, cells := 0, slots := 0, locals := 200 } s m args below meth c s.heap [] 0 0 xs cD cy A cX12_creasesOf 2 _ S 2 ls [] [.ref (ad 17), .int (Int32.ofInt t)] _ _ 0 0 _ hM hw rfl (Or.inr (Or.inl ⟨by decide, _, _, rfl, c17.1, c17.2.2.1⟩)) hmet rfl rfl (Nat.le_of_ble_eq_true rfl) (Nat.le_of_ble_eq_true rfl) (show (0 : Nat) ≤ 8 by decide) (by decide +kernel) ⟨Nat.le_refl _, Nat.le_refl _⟩ hl.1
  refine z_call hw hA hrun (fun rv S1 ρ1 H1 locs1 hp hw1 => ?_)
  obtain ⟨⟨q1, q2⟩, q3⟩ := hpost _ _ _ hp
  subst q3
  have r1 : ∀ reg, reg < (tRG zT).length → ∀ i, RGv zT ad S1 reg i = RGv zT ad S reg i := fun reg hr i => q2.2 reg hr List.not_mem_nil i
  have hC1 : CoupX zT ad S1 g [] := hC.fr hT q2 (fun gi G hG c hc => List.not_mem_nil)
  have c171 := ty_cel q1.1 (r := 17) (by decide +kernel) rfl
  refine lv_aload_n (k := 0) (i := 0) hx hb (by decide +kernel) rfl (lv_at hl 0 rfl) ?_
  refine lv_iload_n (k := 1) (i := 1) hx hb (by decide +kernel) rfl (lv_at hl 1 rfl) ?_
  have hmet2 := met_cut (xs := xs) (cD := cD) (cy := cy) (l := l) (sz := H1.size) hb0 q1 hC1 ht
  rw [r1 12 (by decide +kernel), r1 13 (by decide +kernel), r1 14 (by decide +kernel)] at hmet2
  have hrun2 := rl_RX12_2_149_12 p l e { frames := 3, cells := 0, slots := 0, locals := 200 } s m args below meth c H1 locs1 0 0 xs cD cy A cX12_creasesOf 2 _ S1 7 ls [.long (Int64.ofInt (zWf (RGv zT ad S 12 t) (RGv zT ad S 14 t)))] [.ref (ad 17), .int (Int32.ofInt t)] _ _ 0 0 _ hM hw1 rfl (Or.inr (Or.inl ⟨by decide, _, _, rfl, c171.1, c171.2.2.1⟩)) hmet2 rfl rfl (Nat.le_of_ble_eq_true rfl) (Nat.le_of_ble_eq_true rfl) (show (2 : Nat) ≤ 8 by decide) (by decide +kernel) ⟨Nat.le_refl _, Nat.le_refl _⟩ hl.1
  refine z_call hw1 hA hrun2 (fun rv S2 ρ2 H2 locs2 hp2 hw2 => ?_)
  obtain ⟨⟨q4, q5⟩, q6⟩ := hp2
  subst q6
  refine lv_lsub hx hb (by decide +kernel) ?_
  rw [← Int64.ofInt_sub, ← zCr_eq]
  have fF : Fr zT ad [] S ρ S2 ρ2 := q2.trans q5
  exact W.lret hx hb hr (fun t ht hW => ⟨⟨some (.long _), S2, ρ2, rfl, hQ S2 ρ2 q4 fF, by rw [ht]; exact hw2.1, hw2.2.1⟩, hw2.2.2.F ht⟩) hw2.2.2.2.2 (by decide +kernel) hlk
theorem zC_r {t : Nat} (hW : Wld zT ad (zXI ad) S ρ) (hC : CoupX zT ad S g []) (ht : t < 8) (hgh : ghN (zC ad) neg0 S (((t : Int).toNat : Nat) : Int) = g 1) :
    zCr (RGv zT ad S 12 t) (RGv zT ad S 13 t) (RGv zT ad S 14 t) = g 1 ∧ g 1 ≤ 1099511627775 ∧ 0 ≤ RGv zT ad S 14 t ∧ RGv zT ad S 14 t ≤ 40 ∧ ((1 ≤ RGv zT ad S 14 t ∧ 1 ≤ g 1) ∨ (RGv zT ad S 14 t = 0 ∧ g 1 = 0)) := by
  have wr := w_rng hC ht
  have c20 := ty_cel hW.1 (r := 20) (by decide +kernel) rfl
  have sp : (0 : Int) ≤ RGv zT ad S 13 t := by
    have h := (c20.2.2.2.2.2.1 rfl _ List.mem_cons_self t (Nat.zero_le _) ht).1
    have e : RGv zT ad S 13 t = (zA S (ad 20) t).toInt := by
      show (zA S (ad 20) (Int.toNat (t : Int))).toInt = _
      rw [Int.toNat_natCast]
    rw [e]; exact h
  have e0 : ghN (zC ad) neg0 S (((t : Int).toNat : Nat) : Int) = zcl (zCr (RGv zT ad S 12 t) (RGv zT ad S 13 t) (RGv zT ad S 14 t)) := by
    rw [Int.toNat_natCast]
    unfold ghN zC
    rw [if_neg (by omega), if_pos (by omega)]
  rw [e0] at hgh
  have kf := coup_kf hC ht
  have key : 0 ≤ zCr (RGv zT ad S 12 t) (RGv zT ad S 13 t) (RGv zT ad S 14 t) ∧ zCr (RGv zT ad S 12 t) (RGv zT ad S 13 t) (RGv zT ad S 14 t) ≤ 1099511627775 ∧ (1 ≤ RGv zT ad S 14 t → 1 ≤ zCr (RGv zT ad S 12 t) (RGv zT ad S 13 t) (RGv zT ad S 14 t)) ∧ (RGv zT ad S 14 t = 0 → zCr (RGv zT ad S 12 t) (RGv zT ad S 13 t) (RGv zT ad S 14 t) = 0) := by
    rw [zCr_eq]
    unfold zKf
    split
    · rename_i hk
      have h1 : 1 ≤ RGv zT ad S 14 t := by omega
      have t1 := Int.tmod_nonneg (zWf (RGv zT ad S 12 t) (RGv zT ad S 14 t)) sp
      have t2 := Int.tmod_lt_of_pos (RGv zT ad S 13 t) (show 0 < zWf (RGv zT ad S 12 t) (RGv zT ad S 14 t) by omega)
      exact ⟨by omega, by omega, fun _ => by omega, fun q => by omega⟩
    · have h0 : 0 ≤ RGv zT ad S 14 t := by omega
      exact ⟨by omega, by omega, fun _ => by omega, fun q => by rw [wr.2.2 q]; rfl⟩
  have ez : zcl (zCr (RGv zT ad S 12 t) (RGv zT ad S 13 t) (RGv zT ad S 14 t)) = zCr (RGv zT ad S 12 t) (RGv zT ad S 13 t) (RGv zT ad S 14 t) := by
    unfold zcl; omega
  rw [ez] at hgh
  rw [hgh] at key
  have h40 : 0 ≤ RGv zT ad S 14 t ∧ RGv zT ad S 14 t ≤ 40 := by omega
  refine ⟨hgh, key.2.1, h40.1, h40.2, ?_⟩
  by_cases q : RGv zT ad S 14 t = 0
  · exact Or.inr ⟨q, key.2.2.2 q⟩
  · exact Or.inl ⟨by omega, key.2.2.1 (by omega)⟩
end CRE
theorem cn_X12_creasesOf_0 {ad xs : Nat → Nat} {cD : va_G} {cy : Nat → ClassId} {l : Launch} {neg0 : Int → Int} (hb0 : bndN neg0) : Con zT ad (ghN (zC ad) neg0) (zXI ad) xs cD cy l yX12_creasesOf cX12_creasesOf 2 ((some .long)) 3 200 sg_X12_creasesOf_0 [] := by
  intro g τ S ρ sz hpre
  obtain ⟨p1, p2, p3, p4, p5, p6, p7⟩ := hpre
  have hT := zT_ok (ad := ad) hb0
  have q0 := p2 0 _ rfl
  cases ht0 : τ 0 with
  | none => rw [ht0] at q0; cases q0
  | some a =>
  rw [ht0] at q0
  obtain ⟨ha, hra⟩ := q0
  have hra : ρ a = 17 := List.mem_singleton.mp hra
  have haa : a = ad 17 := by
    have := p6.1.2.2 a ha (by rw [hra]; decide +kernel)
    rw [hra] at this; exact this
  have i0 : (0 : Int) ≤ g 0 ∧ g 0 ≤ 7 := p1 0 (by decide)
  obtain ⟨t, ht⟩ : ∃ t : Nat, (t : Int) = g 0 := ⟨(g 0).toNat, by omega⟩
  have ht8 : t < 8 := by omega
  have m1 : ghN (zC ad) neg0 S (((ev g (lsy 0)).toNat : Nat) : Int) = g 1 := (p5 0 _ rfl).1
  have m2 : RGv zT ad S 14 (ev g (lsy 0)) = g 2 := (p5 1 _ rfl).1
  rw [ev_lsy, ← ht] at m1 m2
  have zr := zC_r (g := g) p6 p7 ht8 m1
  have eav : γK g τ xs (sA sg_X12_creasesOf_0) = [.ref (ad 17), .int (Int32.ofInt t)] := by
    show [va_rf (τ 0), .int (Int32.ofInt (ev g (lsy 0)))] = _
    rw [ht0, haa, ev_lsy, ht]; rfl
  rw [eav]
  rw [m2] at zr
  refine met_cre hb0 p6 p7 ht8 (fun S1 ρ1 hW1 hF1 => ?_)
  rw [m2, zr.1]
  have n1 : Int.negSucc 0 = (-1 : Int) := rfl
  refine ⟨hW1, p7.fr hT hF1 (fun gi G hG c hc => List.not_mem_nil), hF1, ?_⟩
  refine ⟨_, List.mem_cons_self, g, τ, fun _ _ => rfl, fun _ _ => rfl, fun j hj => absurd hj (Nat.not_lt_zero _), (fun j q hq => by cases hq), ?_, fun f hf => ?_, fun mm hm => absurd hm List.not_mem_nil⟩
  · show [Value.long (Int64.ofInt (g 1))] = [Value.long (Int64.ofInt (ev g (lsy 1)))]
    rw [ev_lsy]
  · rcases List.mem_cons.mp hf with q | hf
    · subst q
      show (0 : Int) ≤ 0 + (1 * g 1 + 0)
      omega
    rcases List.mem_cons.mp hf with q | hf
    · subst q
      show (0 : Int) ≤ 1099511627775 + (Int.negSucc 0 * g 1 + 0)
      omega
    · have q := List.mem_singleton.mp hf
      subst q
      show (0 : Int) ≤ 0 + (40 * g 1 + (Int.negSucc 0 * g 2 + 0))
      omega
theorem cn_X12_creasesOf_1 {ad xs : Nat → Nat} {cD : va_G} {cy : Nat → ClassId} {l : Launch} {neg0 : Int → Int} (hb0 : bndN neg0) : Con zT ad (ghN (zC ad) neg0) (zXI ad) xs cD cy l yX12_creasesOf cX12_creasesOf 2 ((some .long)) 3 200 sg_X12_creasesOf_1 [] := by
  intro g τ S ρ sz hpre
  obtain ⟨p1, p2, p3, p4, p5, p6, p7⟩ := hpre
  have hT := zT_ok (ad := ad) hb0
  have q0 := p2 0 _ rfl
  cases ht0 : τ 0 with
  | none => rw [ht0] at q0; cases q0
  | some a =>
  rw [ht0] at q0
  obtain ⟨ha, hra⟩ := q0
  have hra : ρ a = 17 := List.mem_singleton.mp hra
  have haa : a = ad 17 := by
    have := p6.1.2.2 a ha (by rw [hra]; decide +kernel)
    rw [hra] at this; exact this
  have i0 : (0 : Int) ≤ g 0 ∧ g 0 ≤ 7 := p1 0 (by decide)
  obtain ⟨t, ht⟩ : ∃ t : Nat, (t : Int) = g 0 := ⟨(g 0).toNat, by omega⟩
  have ht8 : t < 8 := by omega
  have m1 : ghN (zC ad) neg0 S (((ev g (lsy 0)).toNat : Nat) : Int) = g 1 := (p5 0 _ rfl).1
  have m2 : RGv zT ad S 14 (ev g (lsy 0)) = g 2 := (p5 1 _ rfl).1
  rw [ev_lsy, ← ht] at m1 m2
  have zr := zC_r (g := g) p6 p7 ht8 m1
  have eav : γK g τ xs (sA sg_X12_creasesOf_1) = [.ref (ad 17), .int (Int32.ofInt t)] := by
    show [va_rf (τ 0), .int (Int32.ofInt (ev g (lsy 0)))] = _
    rw [ht0, haa, ev_lsy, ht]; rfl
  rw [eav]
  rw [m2] at zr
  refine met_cre hb0 p6 p7 ht8 (fun S1 ρ1 hW1 hF1 => ?_)
  rw [m2, zr.1]
  have n1 : Int.negSucc 0 = (-1 : Int) := rfl
  refine ⟨hW1, p7.fr hT hF1 (fun gi G hG c hc => List.not_mem_nil), hF1, ?_⟩
  rcases zr.2.2.2.2 with z | z
  · refine ⟨_, List.mem_cons_self, g, τ, fun _ _ => rfl, fun _ _ => rfl, fun j hj => absurd hj (Nat.not_lt_zero _), (fun j q hq => by cases hq), ?_, fun f hf => ?_, fun mm hm => absurd hm List.not_mem_nil⟩
    · show [Value.long (Int64.ofInt (g 1))] = [Value.long (Int64.ofInt (ev g (lsy 1)))]
      rw [ev_lsy]
    · rcases List.mem_cons.mp hf with q | hf
      · subst q
        show (0 : Int) ≤ Int.negSucc 0 + (1 * g 1 + 0)
        omega
      rcases List.mem_cons.mp hf with q | hf
      · subst q
        show (0 : Int) ≤ 1099511627775 + (Int.negSucc 0 * g 1 + 0)
        omega
      · have q := List.mem_singleton.mp hf
        subst q
        show (0 : Int) ≤ Int.negSucc 0 + (1 * g 2 + 0)
        omega
  · refine ⟨_, List.mem_cons_of_mem _ List.mem_cons_self, g, τ, fun _ _ => rfl, fun _ _ => rfl, fun j hj => absurd hj (Nat.not_lt_zero _), (fun j q hq => by cases hq), ?_, fun f hf => ?_, fun mm hm => absurd hm List.not_mem_nil⟩
    · show [Value.long (Int64.ofInt (g 1))] = [Value.long (Int64.ofInt 0)]
      rw [z.2]
    · rcases List.mem_cons.mp hf with q | hf
      · subst q
        show (0 : Int) ≤ 0 + (Int.negSucc 0 * g 2 + 0)
        omega
      rcases List.mem_cons.mp hf with q | hf
      · subst q
        show (0 : Int) ≤ 0 + (1 * g 1 + 0)
        omega
      · have q := List.mem_singleton.mp hf
        subst q
        show (0 : Int) ≤ 0 + (Int.negSucc 0 * g 1 + 0)
        omega
