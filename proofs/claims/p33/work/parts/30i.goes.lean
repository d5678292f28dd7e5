/-! by hand: the orders found, one after another -/
theorem zsA_self (S : zS) (a : Nat) : zsA S a (zA S a) = S := by
  have : va_up (zA S) a (zA S a) = zA S := funext fun b => by by_cases h : b = a <;> simp [va_up, h]
  unfold zsA; rw [this]; rfl
theorem va_up2 {α : Type} (f : Nat → α) (a : Nat) (v w : α) : va_up (va_up f a v) a w = va_up f a w := funext fun b => by by_cases h : b = a <;> simp [va_up, h]
theorem zsA_zsA (S : zS) (a : Nat) (f g : Nat → Int32) : zsA (zsA S a f) a g = zsA S a g := by
  show (zL S, zK S, zN S, zI S, zJ S, zQ S, va_up (va_up (zA S) a f) a g, zB S, zR S) = _
  rw [va_up2]; rfl
theorem zA_zsA (S : zS) (a : Nat) (f : Nat → Int32) : zA (zsA S a f) a = f := va_up_self _ _ _
theorem zA_ne (S : zS) {a b : Nat} (f : Nat → Int32) (h : b ≠ a) : zA (zsA S a f) b = zA S b := va_up_ne _ _ h
theorem zsA_comm (S : zS) {a b : Nat} (f g : Nat → Int32) (n : a ≠ b) : zsA (zsA S a f) b g = zsA (zsA S b g) a f := by
  have : va_up (va_up (zA S) a f) b g = va_up (va_up (zA S) b g) a f := funext fun q => by
    by_cases h1 : q = a
    · subst h1; rw [va_up_ne _ _ n, va_up_self, va_up_self]
    · by_cases h2 : q = b
      · subst h2; rw [va_up_self, va_up_ne _ _ h1, va_up_self]
      · rw [va_up_ne _ _ h2, va_up_ne _ _ h1, va_up_ne _ _ h1, va_up_ne _ _ h2]
  show (zL S, zK S, zN S, zI S, zJ S, zQ S, va_up (va_up (zA S) a f) b g, zB S, zR S) = (zL S, zK S, zN S, zI S, zJ S, zQ S, va_up (va_up (zA S) b g) a f, zB S, zR S)
  rw [this]
theorem zsA_zsI {S : zS} {j a b : Nat} {v : Int32} {f : Nat → Int32} : zsA (zsI S j a v) b f = zsI (zsA S b f) j a v := rfl
theorem zsI_zsA {S : zS} {j a b : Nat} {v : Int32} {f : Nat → Int32} : zsI (zsA S b f) j a v = zsA (zsI S j a v) b f := rfl
theorem zsI_zsI {S : zS} {j a : Nat} {v u : Int32} : zsI (zsI S j a v) j a u = zsI S j a u := by
  have : zu2 (zu2 (zI S) j a v) j a u = zu2 (zI S) j a u := funext fun i => funext fun b => by
    unfold zu2; by_cases h : i = j <;> by_cases h2 : b = a <;> simp [h, h2]
  show (zL S, zK S, zN S, zu2 (zu2 (zI S) j a v) j a u, zJ S, zQ S, zA S, zB S, zR S) = (zL S, zK S, zN S, zu2 (zI S) j a u, zJ S, zQ S, zA S, zB S, zR S)
  rw [this]
theorem zI_at {S : zS} {i a : Nat} {v : Int32} : zI (zsI S i a v) i a = v := zu2_self
theorem upd_at (f : Nat → Int32) (k : Nat) (x : Int32) : upd f k x k = x := by simp [upd]
theorem upd_no (f : Nat → Int32) {k j : Nat} (x : Int32) (h : j ≠ k) : upd f k x j = f j := by simp [upd, h]
theorem rg_fm {α : Type} (f : Nat → List α) (j : Nat) : (List.range (j + 1)).flatMap f = (List.range j).flatMap f ++ f j := by
  rw [List.range_succ, List.flatMap_append]; simp
theorem rg_le {α : Type} (f : Nat → List α) {j n : Nat} (h : j ≤ n) : ((List.range j).flatMap f).length ≤ ((List.range n).flatMap f).length := by
  induction n with
  | zero => obtain rfl : j = 0 := by omega
            exact Nat.le_refl _
  | succ n ih =>
    rcases Nat.eq_or_lt_of_le h with rfl | q
    · exact Nat.le_refl _
    · rw [rg_fm, List.length_append]; have := ih (by omega); omega
theorem zsI_self {S : zS} {j a : Nat} {v : Int32} (h : zI S j a = v) : zsI S j a v = S := by
  have : zu2 (zI S) j a v = zI S := funext fun i => funext fun b => by
    unfold zu2
    split
    · rename_i e; subst e
      split
      · rename_i e; subst e; exact h.symm
      · rfl
    · rfl
  unfold zsI; rw [this]; rfl
theorem zA_I {S : zS} {j a b : Nat} {v : Int32} : zA (zsI S j a v) b = zA S b := rfl
theorem zI_A {S : zS} {j a b : Nat} {f : Nat → Int32} : zI (zsA S a f) j b = zI S j b := rfl
theorem nd_app {pre : List Nat} {l : Nat} (h : pre.Nodup) (hl : l ∉ pre) : (pre ++ [l]).Nodup := by
  rw [List.nodup_append]
  refine ⟨h, by simp, fun a ha b hb => ?_⟩
  rw [List.mem_singleton] at hb
  exact fun z => hl (by rw [← hb, ← z]; exact ha)
theorem ix_app {pre : List Nat} {x l : Nat} (h : x ∈ pre) : (pre ++ [l]).idxOf x = pre.idxOf x := by rw [List.idxOf_append, if_pos h]
theorem ix_new {pre : List Nat} {l : Nat} (h : l ∉ pre) : (pre ++ [l]).idxOf l = pre.length := by rw [List.idxOf_append, if_neg h]; simp
theorem gd_app {pre : List Nat} {l k : Nat} (h : k < pre.length) : (pre ++ [l]).getD k 0 = pre.getD k 0 := by
  rw [List.getD_eq_getElem?_getD, List.getD_eq_getElem?_getD, List.getElem?_append_left h]
theorem gd_new {pre : List Nat} {l : Nat} : (pre ++ [l]).getD pre.length 0 = l := by simp [List.getD_eq_getElem?_getD]
theorem gf_RX12_111_12 : RGet RX12 111 12 46 := rg_F (ref := "FoldedInHalfModel") uX12 rfl (by decide) (by decide) (tb_5 221 rfl rfl) (.inl rfl)
theorem pf_RX12_328_12 : RPut RX12 328 12 50 false false := rp_I (ref := "FoldedInHalfModel") uX12 tyX12_ok nmX12 rfl (by decide) (by decide) rfl (tb_5 225 rfl rfl) (.inl rfl) rfl okI_int
theorem gf_RX12_335_12 : RGet RX12 335 12 49 := rg_F (ref := "FoldedInHalfModel") uX12 rfl (by decide) (by decide) (tb_5 224 rfl rfl) (.inl rfl)
theorem pf_RX12_335_12 : RPut RX12 335 12 49 false false := rp_I (ref := "FoldedInHalfModel") uX12 tyX12_ok nmX12 rfl (by decide) (by decide) rfl (tb_5 224 rfl rfl) (.inl rfl) rfl okI_int
theorem rl_RX12_2_331_12 : RCall RX12 2 331 4 12 yX12_goes cX12_goes 5 (none) := rc_V (n := 3) (tb_7 169 rfl rfl) (tb_7 171 rfl rfl) (TB_s 93 rfl rfl) (tb_1 5 rfl rfl) (tb_7 172 rfl rfl) (by decide +kernel) (by decide) rfl
section GOT
variable {ad xs : Nat → Nat} {cD : va_G} {cy : Nat → ClassId} {A : Nat → Prop} {S : zS} {ρ : Nat → Nat} {cc : ByteArray} {nL : Nat}
variable {p : Program} {l : Launch} {e : Env} {R : Room} {s : State} {m : MethodId} {args : Array Value} {below : List Frame} {meth : Method} {c : Code} {Q : State → Prop} {Ts : List Cond} {cells slots pc : Nat} {H : Heap} {locs : List Loc} {ls : Array Slot} {rest : List Value}
theorem g_leaf (hM : MX xs cD cy A p s m args c cc nL Ts RX12) (hT : Typed zT ad S ρ) (hw : zPw cD cy A s.heap S H locs) (hd : decode cc pc = .ok (.getfield 111, 3)) (k : W p l e R s m args below meth c H locs cells slots Q (F0 m (pc + 3) ls (.ref (ad 50) :: rest))) : W p l e R s m args below meth c H locs cells slots Q (F0 m pc ls (.ref (ad 17) :: rest)) := by
  have c17 := ty_cel hT (r := 17) (by decide +kernel) rfl
  refine gf_RX12_111_12 p l e _ s m args below meth c H locs _ _ _ xs cD cy A cc nL _ S (ad 17) pc ls rest 2 hM hw c17.1 c17.2.2.1 hd rfl ?_
  have e1 : z_v S (ad 17) 2 (z_bs 12 + 46) = .ref (ad 50) := by
    show va_rf (zQ S (z_bs 12 + 46) (ad 17)) = _
    rw [ty_fld hT (r := 17) (f := 46) (r2 := 50) (by decide +kernel) rfl (by decide) rfl (by decide +kernel)]; rfl
  rw [e1]
  exact k
theorem g_found (hM : MX xs cD cy A p s m args c cc nL Ts RX12) (hT : Typed zT ad S ρ) (hw : zPw cD cy A s.heap S H locs) (hd : decode cc pc = .ok (.getfield 117, 3)) (k : W p l e R s m args below meth c H locs cells slots Q (F0 m (pc + 3) ls (.ref (ad 52) :: rest))) : W p l e R s m args below meth c H locs cells slots Q (F0 m pc ls (.ref (ad 17) :: rest)) := by
  have c17 := ty_cel hT (r := 17) (by decide +kernel) rfl
  refine gf_RX12_117_12 p l e _ s m args below meth c H locs _ _ _ xs cD cy A cc nL _ S (ad 17) pc ls rest 2 hM hw c17.1 c17.2.2.1 hd rfl ?_
  have e1 : z_v S (ad 17) 2 (z_bs 12 + 48) = .ref (ad 52) := by
    show va_rf (zQ S (z_bs 12 + 48) (ad 17)) = _
    rw [ty_fld hT (r := 17) (f := 48) (r2 := 52) (by decide +kernel) rfl (by decide) rfl (by decide +kernel)]; rfl
  rw [e1]
  exact k
theorem g_many {x : Int32} (hM : MX xs cD cy A p s m args c cc nL Ts RX12) (hT : Typed zT ad S ρ) (hw : zPw cD cy A s.heap S H locs) (hv : zI S 1250 (ad 17) = x) (hd : decode cc pc = .ok (.getfield 328, 3)) (k : W p l e R s m args below meth c H locs cells slots Q (F0 m (pc + 3) ls (.int x :: rest))) : W p l e R s m args below meth c H locs cells slots Q (F0 m pc ls (.ref (ad 17) :: rest)) := by
  have c17 := ty_cel hT (r := 17) (by decide +kernel) rfl
  refine gf_RX12_328_12 p l e _ s m args below meth c H locs _ _ _ xs cD cy A cc nL _ S (ad 17) pc ls rest 0 hM hw c17.1 c17.2.2.1 hd rfl ?_
  have e1 : z_v S (ad 17) 0 (z_bs 12 + 50) = .int x := by
    show Value.int (zI S 1250 (ad 17)) = _
    rw [hv]
  rw [e1]
  exact k
theorem g_of {x : Int32} (hM : MX xs cD cy A p s m args c cc nL Ts RX12) (hT : Typed zT ad S ρ) (hw : zPw cD cy A s.heap S H locs) (hv : zI S 1249 (ad 17) = x) (hd : decode cc pc = .ok (.getfield 335, 3)) (k : W p l e R s m args below meth c H locs cells slots Q (F0 m (pc + 3) ls (.int x :: rest))) : W p l e R s m args below meth c H locs cells slots Q (F0 m pc ls (.ref (ad 17) :: rest)) := by
  have c17 := ty_cel hT (r := 17) (by decide +kernel) rfl
  refine gf_RX12_335_12 p l e _ s m args below meth c H locs _ _ _ xs cD cy A cc nL _ S (ad 17) pc ls rest 0 hM hw c17.1 c17.2.2.1 hd rfl ?_
  have e1 : z_v S (ad 17) 0 (z_bs 12 + 49) = .int x := by
    show Value.int (zI S 1249 (ad 17)) = _
    rw [hv]
  rw [e1]
  exact k
theorem p_many {x : Int32} (hM : MX xs cD cy A p s m args c cc nL Ts RX12) (hT : Typed zT ad S ρ) (hw : zPw cD cy A s.heap S H locs) (hd : decode cc pc = .ok (.putfield 328, 3)) (k : ∀ (H1 : Heap) (locs1 : List Loc), zPw cD cy A s.heap (zsI S 1250 (ad 17) x) H1 locs1 → W p l e R s m args below meth c H1 locs1 cells slots Q (F0 m (pc + 3) ls rest)) : W p l e R s m args below meth c H locs cells slots Q (F0 m pc ls (.int x :: .ref (ad 17) :: rest)) := by
  have c17 := ty_cel hT (r := 17) (by decide +kernel) rfl
  have P1 : RPutI RX12 328 12 50 false false := pf_RX12_328_12
  exact P1 p l e _ s m args below meth c H locs _ _ _ xs cD cy A cc nL _ S (ad 17) pc ls rest x hM (fun q => absurd q (by decide)) (fun q => absurd q (by decide)) hw c17.1 c17.2.2.1 hd k
theorem p_of {x : Int32} (hM : MX xs cD cy A p s m args c cc nL Ts RX12) (hT : Typed zT ad S ρ) (hw : zPw cD cy A s.heap S H locs) (hd : decode cc pc = .ok (.putfield 335, 3)) (k : ∀ (H1 : Heap) (locs1 : List Loc), zPw cD cy A s.heap (zsI S 1249 (ad 17) x) H1 locs1 → W p l e R s m args below meth c H1 locs1 cells slots Q (F0 m (pc + 3) ls rest)) : W p l e R s m args below meth c H locs cells slots Q (F0 m pc ls (.int x :: .ref (ad 17) :: rest)) := by
  have c17 := ty_cel hT (r := 17) (by decide +kernel) rfl
  have P1 : RPutI RX12 335 12 49 false false := pf_RX12_335_12
  exact P1 p l e _ s m args below meth c H locs _ _ _ xs cD cy A cc nL _ S (ad 17) pc ls rest x hM (fun q => absurd q (by decide)) (fun q => absurd q (by decide)) hw c17.1 c17.2.2.1 hd k
theorem z_vretQ {Post : Option Value → zS → (Nat → Nat) → Prop} {ρ1 : Nat → Nat} {own : String} {maxL : Nat} (hcf : CallFix p m c cc maxL s args Ts own) (hr : meth.sig.returnType = none) (hlk : meth.locks = false) (hw : zPw cD cy A s.heap S H locs) (hp : Post none S ρ1) (hdg : decode cc pc = .ok (.return_, 1)) : W p l e R s m args below meth c H locs cells slots (MQ below (QX cD cy Post A) args s cells slots A) (F0 m pc ls []) :=
  W.vret hcf.1 hcf.2.1 hr (fun t ht hW => ⟨⟨none, S, ρ1, rfl, hp, by rw [ht]; exact hw.1, hw.2.1⟩, hw.2.2.F ht⟩) hw.2.2.2.2 hdg hlk
end GOT
theorem ty_Aq {ad : Nat → Nat} {S : zS} {ρ : Nat → Nat} {r : Nat} {f : Nat → Int32} {n : Nat} (hr : r < tU zT) (hri : (tRT zT)[r]? = some (13, n, [], [], (false, []))) (h : Typed zT ad S ρ) : Typed zT ad (zsA S (ad r) f) ρ := by
  refine ⟨fun b hb => ?_, h.2.1, h.2.2⟩
  obtain ⟨ri, k1, c1, c2, c3, c4, c5⟩ := h.1 b hb
  refine ⟨ri, k1, c1, c2, c3, fun hk q hq => ?_, c5⟩
  by_cases e : b = ad r
  · subst e
    rw [(h.2.1 r hr).2, hri] at k1
    cases k1; cases hq
  · have e2 : zA (zsA S (ad r) f) b = zA S b := zA_ne _ _ e
    rw [e2]; exact c4 hk q hq
theorem ty_A50 {ad : Nat → Nat} {S : zS} {ρ : Nat → Nat} {f : Nat → Int32} (h : Typed zT ad S ρ) : Typed zT ad (zsA S (ad 50) f) ρ := ty_Aq (by decide +kernel) rfl h
theorem ty_A51 {ad : Nat → Nat} {S : zS} {ρ : Nat → Nat} {f : Nat → Int32} (h : Typed zT ad S ρ) : Typed zT ad (zsA S (ad 51) f) ρ := ty_Aq (by decide +kernel) rfl h
theorem ty_A52 {ad : Nat → Nat} {S : zS} {ρ : Nat → Nat} {f : Nat → Int32} (h : Typed zT ad S ρ) : Typed zT ad (zsA S (ad 52) f) ρ := ty_Aq (by decide +kernel) rfl h
theorem ty_I50 {ad : Nat → Nat} {S : zS} {ρ : Nat → Nat} {v : Nat} (hv : v ≤ 1392) (h : Typed zT ad S ρ) : Typed zT ad (zsI S 1250 (ad 17) (nI v)) ρ := by
  have c17 := ty_cel h (r := 17) (by decide +kernel) rfl
  refine ty_pI (r := 17) (f := 50) (k := 12) h c17.2.1 rfl rfl rfl ?_
  show (0 : Int) ≤ (nI v).toInt ∧ (nI v).toInt ≤ 1392
  have : (nI v).toInt = (v : Int) := nI_toInt (by omega)
  omega
def PG (ad : Nat → Nat) (n_ cn ee : Nat) (pre : List Nat) (S_ : zS) : Option Value → zS → (Nat → Nat) → Prop := fun rv S1 _ => rv = none ∧ ∃ lf av fo : Nat → Int32, S1 = zsI (zsA (zsA (zsA S_ (ad 50) lf) (ad 51) av) (ad 52) fo) 1250 (ad 17) (nI (cn + (mG n_ ee pre).length)) ∧ (∀ k_, k_ < pre.length → lf k_ = zA S_ (ad 50) k_) ∧ (∀ x_, x_ ∈ pre → av x_ = zA S_ (ad 51) x_) ∧ (∀ k_, k_ < 8 * cn → fo k_ = zA S_ (ad 52) k_) ∧ (∀ i_, i_ < (mG n_ ee pre).length → ∀ k_, k_ < n_ → fo (8 * (cn + i_) + k_) = nI (((mG n_ ee pre).getD i_ []).getD k_ 0))
set_option maxHeartbeats 1000000 in
set_option maxRecDepth 100000 in
theorem c_X12_goes {xs ad : Nat → Nat} {ρ : Nat → Nat} (lau : Launch) (cD : va_G) (cy : Nat → ClassId) (n_ : Nat) (hn : n_ ≤ 8) : ∀ (ee : Nat) (sz_ : Nat) (S_ : zS) (hSh : Typed zT ad S_ ρ) (cn un : Nat) (pre : List Nat) (hlen : pre.length + ee = n_) (hu : un < 256) (hub : ∀ k_, k_ < 8 → nbit un k_ = decide (k_ ∈ pre)) (hnd : pre.Nodup) (hb8 : ∀ x_, x_ ∈ pre → x_ < n_) (hcc : zI S_ 1250 (ad 17) = nI cn) (hct : cn + (mG n_ ee pre).length ≤ 1392) (hlf : ∀ k_, k_ < pre.length → zA S_ (ad 50) k_ = nI (pre.getD k_ 0)) (hat : ∀ x_, x_ ∈ pre → zA S_ (ad 51) x_ = nI (pre.idxOf x_)), Met lau yX12_goes (Cond.code yX12_goes cX12_goes 5 none :: TB) ({ frames := ee + 1, cells := 0, slots := 0, locals := 24 * ee + 27 } : Room) (va_Pc [.ref (ad 17), .int (nI pre.length), .int (nI n_), .int (nI un)] (zPre xs cD cy S_ sz_)) (QX cD cy (PG ad n_ cn ee pre S_) (zAd cy S_ sz_)) 0 0 (zAd cy S_ sz_) := by
  intro ee
  induction ee with
  | zero => ?_
  | succ ee ih => ?_
  all_goals
    intro sz_ S_ hSh cn un pre hlen hu hub hnd hb8 hcc hct hlf hat
    have c17 := ty_cel hSh (r := 17) (by decide +kernel) rfl
    have hSh0 := hSh
    refine z_ofW (QQ := QX cD cy (PG ad n_ cn _ pre S_)) (own := RX12) (by decide +kernel) rfl rfl (Nat.le_of_ble_eq_true rfl) ?_
    intro p_ e_ s_ m_ args_ below_ meth_ c_ A_ ls hcf hr hlk hnm hK_ hE hZ hw hA hl
    have hM : MX xs cD cy A_ p_ s_ m_ args_ c_ cX12_goes 5 (Cond.code yX12_goes cX12_goes 5 none :: TB) RX12 := ⟨hcf, fun w hw => List.mem_cons_of_mem _ hw, hK_, hE, hZ, hA⟩
    have hx := hcf.1
    have hb_ := hcf.2.1
    have hl : lv_has ls 5 [(0, .ref (ad 17)), (1, .int (nI pre.length)), (2, .int (nI n_)), (3, .int (nI un))] := hl
  · have hall : ∀ k_, k_ < n_ → k_ ∈ pre := fun k_ hk => nd_all hnd hb8 (by omega) hk
    refine lv_iload_n hx hb_ dX12_goes_0 rfl (lv_at hl 1 rfl) ?_
    refine lv_iload_n hx hb_ dX12_goes_1 rfl (lv_at hl 2 rfl) ?_
    refine lv_icmp_ne (tgt := 62) hx hb_ dX12_goes_2 (by decide) (fun c_2 => absurd c_2 (fun q_ => q_ (congrArg nI (by omega)))) (fun c_2 => ?_)
    refine lv_aload_n hx hb_ dX12_goes_5 rfl (lv_at hl 0 rfl) ?_
    refine lv_iload_n hx hb_ dX12_goes_6 rfl (lv_at hl 2 rfl) ?_
    have hrun := rl_RX12_2_325_12 p_ lau e_ ({ frames := 0 + 1, cells := 0, slots := 0, locals := 24 * 0 + 27 } : Room) s_ m_ args_ below_ meth_ c_ s_.heap [] 0 0 xs cD cy A_ cX12_goes 5 _ S_ 7 ls [] [.ref (ad 17), .int (nI n_)] _ _ 0 0 _ hM hw rfl (Or.inr (Or.inl ⟨by decide, _, _, rfl, c17.1, c17.2.2.1⟩)) (c_X12_isCrossed lau cD cy _ S_ hSh n_ pre hn (by omega) hall (fun k_ hk => hat k_ (hall k_ hk))) rfl rfl (by decide) (by decide) (show (0 : Nat) ≤ 8 by decide) dX12_goes_7 ⟨Nat.le_refl _, Nat.le_refl _⟩ hl.1
    refine z_call hw hA hrun (fun rv S2 ρ2 H_ locs_ hp hw => ?_)
    obtain ⟨v1, rfl, hv1, rfl⟩ := hp
    refine lv_if_eq (tgt := 14) hx hb_ dX12_goes_10 (by decide) (fun c_10 => ?_) (fun c_10 => ?_)
    · have hG : mG n_ 0 pre = [pre] := by rw [mG]; exact if_pos (Classical.byContradiction fun q_ => absurd c_10 (by rw [hv1, if_neg q_]; decide))
      have hcn : cn + 1 ≤ 1392 := by rw [hG] at hct; exact hct
      refine lv_iconst (v := 0) hx hb_ dX12_goes_14 (by decide) ?_
      refine lv_istore (lv' := [(4, .int 0), (0, .ref (ad 17)), (1, .int (nI pre.length)), (2, .int (nI n_)), (3, .int (nI un))]) hx hb_ dX12_goes_15 hl (by decide) rfl (fun ls hl => ?_)
      have JD : ∀ (nD jD : Nat) (iD : Int32), iD = nI jD → jD ≤ n_ → n_ < jD + nD → ∀ (fo : Nat → Int32), (∀ k_, k_ < 8 * cn → fo k_ = zA S_ (ad 52) k_) → (∀ k_, k_ < jD → fo (8 * cn + k_) = nI (pre.getD k_ 0)) → ∀ (H_ : Heap) (locs_ : List Loc), zPw cD cy A_ s_.heap (zsA S_ (ad 52) fo) H_ locs_ → ∀ ls : Array Slot, lv_has ls 5 [(0, .ref (ad 17)), (1, .int (nI pre.length)), (2, .int (nI n_)), (3, .int (nI un)), (4, .int iD)] → W p_ lau e_ ({ frames := 0 + 1, cells := 0, slots := 0, locals := 24 * 0 + 27 } : Room) s_ m_ args_ below_ meth_ c_ H_ locs_ 0 0 (MQ below_ (QX cD cy (PG ad n_ cn 0 pre S_) A_) args_ s_ 0 0 A_) (F0 m_ 17 ls []) := by
        intro nD
        induction nD with
        | zero => intro jD iD _ hjD h_; exact absurd h_ (by omega)
        | succ nD ihD =>
          intro jD iD eiD hjD hmD fo hf1 hf2 H_ locs_ hw ls hl
          have hSh : Typed zT ad (zsA S_ (ad 52) fo) ρ := (ty_A52 hSh0)
          refine lv_iload hx hb_ dX12_goes_17 (lv_at hl 4 rfl) ?_
          refine lv_iload_n hx hb_ dX12_goes_19 rfl (lv_at hl 2 rfl) ?_
          refine lv_icmp_ge (tgt := 51) hx hb_ dX12_goes_20 (by decide) (fun c_20 => ?_) (fun c_20 => ?_)
          · refine lv_aload_n hx hb_ dX12_goes_51 rfl (lv_at hl 0 rfl) ?_
            refine lv_dup hx hb_ dX12_goes_52 rfl ?_
            refine g_many hM hSh hw hcc dX12_goes_53 ?_
            refine lv_iconst (v := 1) hx hb_ dX12_goes_56 (by decide) ?_
            refine lv_iadd hx hb_ dX12_goes_57 ?_
            refine z_topi (y := (nI (cn + 1))) (nI_1 cn) ?_
            refine p_many hM hSh hw dX12_goes_58 (fun H_ locs_ hw => ?_)
            have hSh : Typed zT ad (zsI (zsA S_ (ad 52) fo) 1250 (ad 17) (nI (cn + 1))) ρ := (ty_I50 (by omega) (ty_A52 hSh0))
            exact z_vretQ (ρ1 := ρ) hcf hr hlk hw ⟨rfl, (by have hj : jD = n_ := (by have := zn_ge eiD rfl (by omega) c_20; omega); rw [hG]; exact ⟨zA S_ (ad 50), zA S_ (ad 51), fo, by rw [zsA_self, zsA_self]; rfl, fun k_ hk => rfl, fun x_ hx => rfl, hf1, fun i_ hi_ k_ hk => by have e0 : i_ = 0 := (by simp at hi_; omega); subst e0; exact hf2 k_ (by omega)⟩)⟩ dX12_goes_61
          · have hlt : jD < n_ := zn_lt eiD rfl (by omega) c_20
            refine lv_aload_n hx hb_ dX12_goes_23 rfl (lv_at hl 0 rfl) ?_
            refine g_found hM hSh hw dX12_goes_24 ?_
            refine lv_bipush (v := 8) hx hb_ dX12_goes_27 (by decide) ?_
            refine lv_aload_n hx hb_ dX12_goes_29 rfl (lv_at hl 0 rfl) ?_
            refine g_many hM hSh hw hcc dX12_goes_30 ?_
            refine lv_imul hx hb_ dX12_goes_33 ?_
            refine lv_iload hx hb_ dX12_goes_34 (lv_at hl 4 rfl) ?_
            refine lv_iadd hx hb_ dX12_goes_36 ?_
            refine z_topi (y := (nI (8 * cn + jD))) (by rw [eiD, show (8 : Int32) * nI cn = nI (8 * cn) from pk_mul 8 cn, nI_add]) ?_
            refine lv_aload_n hx hb_ dX12_goes_37 rfl (lv_at hl 0 rfl) ?_
            refine g_leaf hM hSh hw dX12_goes_38 ?_
            refine lv_iload hx hb_ dX12_goes_41 (lv_at hl 4 rfl) ?_
            refine z_iald (n := 8) hcf hK_ hw (ty_cel hSh (r := 50) (by decide +kernel) rfl).1 (ty_cel hSh (r := 50) (by decide +kernel) rfl).2.2.1 ((ty_cel hSh (r := 50) (by decide +kernel) rfl).2.2.2.1 (by decide)) (by rw [eiD]; exact vp_in_nI (by omega) (by decide)) dX12_goes_43 ?_
            refine z_topi (y := (nI (pre.getD jD 0))) (by rw [(show iD.toNatClampNeg = jD by rw [eiD]; exact nI_clamp (by omega))]; exact (congrFun (show zA (zsA S_ (ad 52) fo) (ad 50) = (zA S_ (ad 50)) from (zA_ne _ _ (ad_inj hSh (r := 50) (r2 := 52) (by decide +kernel) (by decide +kernel) (by decide)))) jD).trans (hlf jD (by omega))) ?_
            refine z_iast (n := 11136) hcf hK_ hw (ty_cel hSh (r := 52) (by decide +kernel) rfl).1 (ty_cel hSh (r := 52) (by decide +kernel) rfl).2.2.1 ((ty_cel hSh (r := 52) (by decide +kernel) rfl).2.2.2.1 (by decide)) (vp_in_nI (by omega) (by decide)) dX12_goes_44 (fun H_ locs_ hw => ?_)
            obtain ⟨f3_, ef3⟩ : ∃ zz, zz = (upd (zA (zsA S_ (ad 52) fo) (ad 52)) ((nI (8 * cn + jD)) : Int32).toNatClampNeg (nI (pre.getD jD 0))) := ⟨_, rfl⟩
            rw [← ef3] at hw
            have hf3 : f3_ = upd fo ((8 * cn + jD)) (nI (pre.getD jD 0)) := by rw [ef3, (nI_clamp (show (8 * cn + jD) < 2 ^ 31 by omega)), show zA (zsA S_ (ad 52) fo) (ad 52) = _ from (zA_zsA _ _ _)]
            rw [zsA_zsA] at hw
            have hSh : Typed zT ad (zsA S_ (ad 52) f3_) ρ := (ty_A52 hSh0)
            obtain ⟨i4, ei4⟩ : ∃ y_ : Int32, y_ = iD + 1 := ⟨_, rfl⟩
            refine lv_iinc (v := i4) (lv' := [(4, .int i4), (0, .ref (ad 17)), (1, .int (nI pre.length)), (2, .int (nI n_)), (3, .int (nI un))]) hx hb_ dX12_goes_45 hl (k := 4) rfl (by rw [ei4]; rfl) (by decide) rfl (fun ls hl => ?_)
            refine lv_goto (tgt := 17) hx hb_ dX12_goes_48 (by decide) ?_
            exact ihD (jD + 1) i4 (by rw [ei4, eiD]; exact nI_1 jD) hlt (by omega) f3_ (fun k_ hk => by rw [hf3, upd_no _ _ (by omega)]; exact hf1 k_ hk) (fun k_ hk => by rw [hf3]; exact (Nat.lt_or_ge k_ jD).elim (fun q_ => by rw [upd_no _ _ (by omega)]; exact hf2 k_ q_) (fun q_ => by have e_ := (show k_ = jD by omega); subst e_; exact upd_at _ _ _)) _ _ hw ls (lv_sub hl [1, 2, 3, 4, 0] rfl)
      exact JD (n_ + 1) 0 0 nI_0.symm (Nat.zero_le _) (by omega) (zA S_ (ad 52)) (fun k_ hk => rfl) (fun k_ hk => absurd hk (Nat.not_lt_zero k_)) _ _ (by rw [zsA_self]; exact hw) ls (lv_sub hl [1, 2, 3, 4, 0] rfl)
    · exact z_vretQ (ρ1 := ρ) hcf hr hlk hw ⟨rfl, (by have hG : mG n_ 0 pre = [] := (by rw [mG]; exact if_neg (fun q_ => c_10 (by rw [hv1, if_pos q_]))); rw [hG]; exact ⟨zA S_ (ad 50), zA S_ (ad 51), zA S_ (ad 52), by rw [zsA_self, zsA_self, zsA_self]; exact (zsI_self hcc).symm, fun k_ hk => rfl, fun x_ hx => rfl, fun k_ hk => rfl, fun i_ hi_ => absurd hi_ (Nat.not_lt_zero i_)⟩)⟩ dX12_goes_13
  · refine lv_iload_n hx hb_ dX12_goes_0 rfl (lv_at hl 1 rfl) ?_
    refine lv_iload_n hx hb_ dX12_goes_1 rfl (lv_at hl 2 rfl) ?_
    refine lv_icmp_ne (tgt := 62) hx hb_ dX12_goes_2 (by decide) (fun c_2 => ?_) (fun c_2 => absurd c_2 (fun q_ => absurd ((nI_eq (by omega) (by omega)).mp q_) (by omega)))
    refine lv_iconst (v := 0) hx hb_ dX12_goes_62 (by decide) ?_
    refine lv_istore (lv' := [(4, .int 0), (0, .ref (ad 17)), (1, .int (nI pre.length)), (2, .int (nI n_)), (3, .int (nI un))]) hx hb_ dX12_goes_63 hl (by decide) rfl (fun ls hl => ?_)
    have JA : ∀ (nA jA : Nat) (iA : Int32), iA = nI jA → jA ≤ n_ → n_ < jA + nA → ∀ (lf av fo : Nat → Int32) (T : List (List Nat)), T = (List.range jA).flatMap (mGf n_ ee pre) → (∀ k_, k_ < pre.length → lf k_ = nI (pre.getD k_ 0)) → (∀ x_, x_ ∈ pre → av x_ = nI (pre.idxOf x_)) → (∀ k_, k_ < 8 * cn → fo k_ = zA S_ (ad 52) k_) → (∀ i_, i_ < T.length → ∀ k_, k_ < n_ → fo (8 * (cn + i_) + k_) = nI ((T.getD i_ []).getD k_ 0)) → ∀ (H_ : Heap) (locs_ : List Loc), zPw cD cy A_ s_.heap (zsI (zsA (zsA (zsA S_ (ad 50) lf) (ad 51) av) (ad 52) fo) 1250 (ad 17) (nI (cn + T.length))) H_ locs_ → ∀ ls : Array Slot, lv_has ls 5 [(0, .ref (ad 17)), (1, .int (nI pre.length)), (2, .int (nI n_)), (3, .int (nI un)), (4, .int iA)] → W p_ lau e_ ({ frames := (ee + 1) + 1, cells := 0, slots := 0, locals := 24 * (ee + 1) + 27 } : Room) s_ m_ args_ below_ meth_ c_ H_ locs_ 0 0 (MQ below_ (QX cD cy (PG ad n_ cn (ee + 1) pre S_) A_) args_ s_ 0 0 A_) (F0 m_ 65 ls []) := by
      intro nA
      induction nA with
      | zero => intro jA iA _ hjA h_; exact absurd h_ (by omega)
      | succ nA ihA =>
        intro jA iA eiA hjA hmA lf av fo T hT hk1 hk2 hk3 hk4 H_ locs_ hw ls hl
        subst eiA
        have hTl : cn + T.length ≤ 1392 := by have := rg_le (mGf n_ ee pre) hjA; rw [← hT, ← mG_eq] at this; omega
        have hSh : Typed zT ad (zsI (zsA (zsA (zsA S_ (ad 50) lf) (ad 51) av) (ad 52) fo) 1250 (ad 17) (nI (cn + T.length))) ρ := (ty_I50 (by omega) (ty_A52 (ty_A51 (ty_A50 hSh0))))
        refine lv_iload hx hb_ dX12_goes_65 (lv_at hl 4 rfl) ?_
        refine lv_iload_n hx hb_ dX12_goes_67 rfl (lv_at hl 2 rfl) ?_
        refine lv_icmp_ge (tgt := 120) hx hb_ dX12_goes_68 (by decide) (fun c_68 => ?_) (fun c_68 => ?_)
        · exact z_vretQ (ρ1 := ρ) hcf hr hlk hw ⟨rfl, (by have hj : jA = n_ := (by have := zn_ge rfl rfl (by omega) c_68; omega); have hTG : T = mG n_ (ee + 1) pre := (by rw [hT, hj]; rfl); exact ⟨lf, av, fo, by rw [hTG], fun k_ hk => (hk1 k_ hk).trans (hlf k_ hk).symm, fun x_ hx => (hk2 x_ hx).trans (hat x_ hx).symm, hk3, by rw [← hTG]; exact hk4⟩)⟩ dX12_goes_120
        · have hlt : jA < n_ := zn_lt rfl rfl (by omega) c_68
          have hle : T.length + (mGf n_ ee pre jA).length ≤ (mG n_ (ee + 1) pre).length := by have := rg_le (mGf n_ ee pre) (show jA + 1 ≤ n_ by omega); rw [rg_fm, List.length_append, ← hT, ← mG_eq] at this; exact this
          refine lv_iload_n hx hb_ dX12_goes_71 rfl (lv_at hl 3 rfl) ?_
          refine lv_iload hx hb_ dX12_goes_72 (lv_at hl 4 rfl) ?_
          refine lv_ishr hx hb_ dX12_goes_74 ?_
          refine lv_iconst (v := 1) hx hb_ dX12_goes_75 (by decide) ?_
          refine lv_iand hx hb_ dX12_goes_76 ?_
          refine lv_iconst (v := 1) hx hb_ dX12_goes_77 (by decide) ?_
          refine lv_icmp_ne (tgt := 84) hx hb_ dX12_goes_78 (by decide) (fun c_78 => ?_) (fun c_78 => ?_)
          · have hnb : nbit un jA = false := by rw [← ub_s jA (by omega) un hu]; exact decide_eq_false c_78
            have hnm : jA ∉ pre := of_decide_eq_false (by rw [← hub jA (by omega)]; exact hnb)
            have hG : mGf n_ ee pre jA = mG n_ ee (pre ++ [jA]) := if_neg hnm
            have hut := ub_t jA (by omega) un hu hnb
            refine lv_aload_n hx hb_ dX12_goes_84 rfl (lv_at hl 0 rfl) ?_
            refine g_leaf hM hSh hw dX12_goes_85 ?_
            refine lv_iload_n hx hb_ dX12_goes_88 rfl (lv_at hl 1 rfl) ?_
            refine lv_iload hx hb_ dX12_goes_89 (lv_at hl 4 rfl) ?_
            refine z_iast (n := 8) hcf hK_ hw (ty_cel hSh (r := 50) (by decide +kernel) rfl).1 (ty_cel hSh (r := 50) (by decide +kernel) rfl).2.2.1 ((ty_cel hSh (r := 50) (by decide +kernel) rfl).2.2.2.1 (by decide)) (vp_in_nI (by omega) (by decide)) dX12_goes_91 (fun H_ locs_ hw => ?_)
            obtain ⟨f4, ef4⟩ : ∃ zz, zz = (upd (zA (zsI (zsA (zsA (zsA S_ (ad 50) lf) (ad 51) av) (ad 52) fo) 1250 (ad 17) (nI (cn + T.length))) (ad 50)) ((nI pre.length) : Int32).toNatClampNeg (nI jA)) := ⟨_, rfl⟩
            rw [← ef4] at hw
            have hf4 : f4 = upd lf pre.length (nI jA) := by rw [ef4, (nI_clamp (show pre.length < 2 ^ 31 by omega)), show zA (zsI (zsA (zsA (zsA S_ (ad 50) lf) (ad 51) av) (ad 52) fo) 1250 (ad 17) (nI (cn + T.length))) (ad 50) = _ from (zA_I.trans ((zA_ne _ _ (ad_inj hSh (r := 50) (r2 := 52) (by decide +kernel) (by decide +kernel) (by decide))).trans ((zA_ne _ _ (ad_inj hSh (r := 50) (r2 := 51) (by decide +kernel) (by decide +kernel) (by decide))).trans (zA_zsA _ _ _))))]
            rw [zsA_zsI, zsA_comm _ _ _ (ad_inj hSh (r := 52) (r2 := 50) (by decide +kernel) (by decide +kernel) (by decide)), zsA_comm _ _ _ (ad_inj hSh (r := 51) (r2 := 50) (by decide +kernel) (by decide +kernel) (by decide)), zsA_zsA] at hw
            have hSh : Typed zT ad (zsI (zsA (zsA (zsA S_ (ad 50) f4) (ad 51) av) (ad 52) fo) 1250 (ad 17) (nI (cn + T.length))) ρ := (ty_I50 (by omega) (ty_A52 (ty_A51 (ty_A50 hSh0))))
            refine lv_aload_n hx hb_ dX12_goes_92 rfl (lv_at hl 0 rfl) ?_
            refine g_at hM hSh hw dX12_goes_93 ?_
            refine lv_iload hx hb_ dX12_goes_96 (lv_at hl 4 rfl) ?_
            refine lv_iload_n hx hb_ dX12_goes_98 rfl (lv_at hl 1 rfl) ?_
            refine z_iast (n := 8) hcf hK_ hw (ty_cel hSh (r := 51) (by decide +kernel) rfl).1 (ty_cel hSh (r := 51) (by decide +kernel) rfl).2.2.1 ((ty_cel hSh (r := 51) (by decide +kernel) rfl).2.2.2.1 (by decide)) (vp_in_nI (by omega) (by decide)) dX12_goes_99 (fun H_ locs_ hw => ?_)
            obtain ⟨f5, ef5⟩ : ∃ zz, zz = (upd (zA (zsI (zsA (zsA (zsA S_ (ad 50) f4) (ad 51) av) (ad 52) fo) 1250 (ad 17) (nI (cn + T.length))) (ad 51)) ((nI jA) : Int32).toNatClampNeg (nI pre.length)) := ⟨_, rfl⟩
            rw [← ef5] at hw
            have hf5 : f5 = upd av jA (nI pre.length) := by rw [ef5, (nI_clamp (show jA < 2 ^ 31 by omega)), show zA (zsI (zsA (zsA (zsA S_ (ad 50) f4) (ad 51) av) (ad 52) fo) 1250 (ad 17) (nI (cn + T.length))) (ad 51) = _ from (zA_I.trans ((zA_ne _ _ (ad_inj hSh (r := 51) (r2 := 52) (by decide +kernel) (by decide +kernel) (by decide))).trans (zA_zsA _ _ _)))]
            rw [zsA_zsI, zsA_comm _ _ _ (ad_inj hSh (r := 52) (r2 := 51) (by decide +kernel) (by decide +kernel) (by decide)), zsA_zsA] at hw
            have hSh : Typed zT ad (zsI (zsA (zsA (zsA S_ (ad 50) f4) (ad 51) f5) (ad 52) fo) 1250 (ad 17) (nI (cn + T.length))) ρ := (ty_I50 (by omega) (ty_A52 (ty_A51 (ty_A50 hSh0))))
            refine lv_aload_n hx hb_ dX12_goes_100 rfl (lv_at hl 0 rfl) ?_
            refine lv_iload_n hx hb_ dX12_goes_101 rfl (lv_at hl 1 rfl) ?_
            refine lv_iconst (v := 1) hx hb_ dX12_goes_102 (by decide) ?_
            refine lv_iadd hx hb_ dX12_goes_103 ?_
            refine z_topi (y := (nI (pre ++ [jA]).length)) (by rw [nI_1, List.length_append]; rfl) ?_
            refine lv_iload_n hx hb_ dX12_goes_104 rfl (lv_at hl 2 rfl) ?_
            refine lv_iload_n hx hb_ dX12_goes_105 rfl (lv_at hl 3 rfl) ?_
            refine lv_iconst (v := 1) hx hb_ dX12_goes_106 (by decide) ?_
            refine lv_iload hx hb_ dX12_goes_107 (lv_at hl 4 rfl) ?_
            refine lv_ishl hx hb_ dX12_goes_109 ?_
            refine lv_ior hx hb_ dX12_goes_110 ?_
            refine z_topi (y := (nI (un + 2 ^ jA))) (hut.1) ?_
            have hmet := ih H_.size (zsI (zsA (zsA (zsA S_ (ad 50) f4) (ad 51) f5) (ad 52) fo) 1250 (ad 17) (nI (cn + T.length))) hSh (cn + T.length) (un + 2 ^ jA) (pre ++ [jA]) (by rw [List.length_append, List.length_singleton]; omega) hut.2.1 (fun k_ hk => by rw [hut.2.2 k_ hk, hub k_ hk]; by_cases q_ : k_ ∈ pre <;> by_cases q2 : k_ = jA <;> simp [q_, q2]) (nd_app hnd hnm) (fun x_ hx => (List.mem_append.mp hx).elim (fun q_ => hb8 x_ q_) (fun q_ => by rw [List.mem_singleton] at q_; omega)) zI_at (by rw [hG] at hle; omega) (fun k_ hk => by rw [congrFun (show zA (zsI (zsA (zsA (zsA S_ (ad 50) f4) (ad 51) f5) (ad 52) fo) 1250 (ad 17) (nI (cn + T.length))) (ad 50) = f4 from (zA_I.trans ((zA_ne _ _ (ad_inj hSh (r := 50) (r2 := 52) (by decide +kernel) (by decide +kernel) (by decide))).trans ((zA_ne _ _ (ad_inj hSh (r := 50) (r2 := 51) (by decide +kernel) (by decide +kernel) (by decide))).trans (zA_zsA _ _ _))))) k_, hf4]; rw [List.length_append, List.length_singleton] at hk; exact (Decidable.em (k_ = pre.length)).elim (fun q_ => by rw [q_, upd_at, gd_new]) (fun q_ => by rw [upd_no _ _ q_, hk1 k_ (by omega), gd_app (by omega)])) (fun x_ hx => by rw [congrFun (show zA (zsI (zsA (zsA (zsA S_ (ad 50) f4) (ad 51) f5) (ad 52) fo) 1250 (ad 17) (nI (cn + T.length))) (ad 51) = f5 from (zA_I.trans ((zA_ne _ _ (ad_inj hSh (r := 51) (r2 := 52) (by decide +kernel) (by decide +kernel) (by decide))).trans (zA_zsA _ _ _)))) x_, hf5]; exact (Decidable.em (x_ = jA)).elim (fun q_ => by rw [q_, upd_at, ix_new hnm]) (fun q_ => by have hx2 : x_ ∈ pre := ((List.mem_append.mp hx).elim id (fun z_ => absurd (List.mem_singleton.mp z_) q_)); rw [upd_no _ _ q_, hk2 x_ hx2, ix_app hx2]))
            have c17b := ty_cel hSh (r := 17) (by decide +kernel) rfl
            have hrun := rl_RX12_2_331_12 p_ lau e_ ({ frames := (ee + 1) + 1, cells := 0, slots := 0, locals := 24 * (ee + 1) + 27 } : Room) s_ m_ args_ below_ meth_ c_ H_ locs_ 0 0 xs cD cy A_ cX12_goes 5 _ _ 111 ls [] [.ref (ad 17), .int (nI (pre ++ [jA]).length), .int (nI n_), .int (nI (un + 2 ^ jA))] _ _ 0 0 _ hM hw rfl (Or.inr (Or.inl ⟨by decide, _, _, rfl, c17b.1, c17b.2.2.1⟩)) hmet rfl rfl (Nat.le_refl _) (by show 8 + (5 + 11) + (24 * ee + 27) ≤ 24 * (ee + 1) + 27; omega) (show (0 : Nat) ≤ 8 by decide) dX12_goes_111 ⟨Nat.le_refl _, Nat.le_refl _⟩ hl.1
            refine z_call hw hA hrun (fun rv S2 ρ2 H_ locs_ hp hw => ?_)
            obtain ⟨rfl, lf2, av2, fo2, rfl, g1, g2, g3, g4⟩ := hp
            rw [zsA_zsI, zsA_comm _ _ _ (ad_inj hSh (r := 52) (r2 := 50) (by decide +kernel) (by decide +kernel) (by decide)), zsA_comm _ _ _ (ad_inj hSh (r := 51) (r2 := 50) (by decide +kernel) (by decide +kernel) (by decide)), zsA_zsA] at hw
            rw [zsA_zsI, zsA_comm _ _ _ (ad_inj hSh (r := 52) (r2 := 51) (by decide +kernel) (by decide +kernel) (by decide)), zsA_zsA] at hw
            rw [zsA_zsI, zsA_zsA] at hw
            rw [zsI_zsI] at hw
            have hTl2 : cn + T.length + (mG n_ ee (pre ++ [jA])).length ≤ 1392 := by rw [hG] at hle; omega
            have hSh : Typed zT ad (zsI (zsA (zsA (zsA S_ (ad 50) lf2) (ad 51) av2) (ad 52) fo2) 1250 (ad 17) (nI (cn + T.length + (mG n_ ee (pre ++ [jA])).length))) ρ := (ty_I50 (by omega) (ty_A52 (ty_A51 (ty_A50 hSh0))))
            obtain ⟨i2_, ei2⟩ : ∃ y_ : Int32, y_ = (nI jA) + 1 := ⟨_, rfl⟩
            refine lv_iinc (v := i2_) (lv' := [(4, .int i2_), (0, .ref (ad 17)), (1, .int (nI pre.length)), (2, .int (nI n_)), (3, .int (nI un))]) hx hb_ dX12_goes_114 hl (k := 4) rfl (by rw [ei2]; rfl) (by decide) rfl (fun ls hl => ?_)
            refine lv_goto (tgt := 65) hx hb_ dX12_goes_117 (by decide) ?_
            have ecc : cn + T.length + (mG n_ ee (pre ++ [jA])).length = cn + (T ++ mG n_ ee (pre ++ [jA])).length := by rw [List.length_append]; omega
            rw [ecc] at hw
            refine ihA (jA + 1) i2_ (by rw [ei2]; exact nI_1 jA) (by omega) (by omega) lf2 av2 fo2 (T ++ mG n_ ee (pre ++ [jA])) (by rw [rg_fm, hG, hT]) (fun k_ hk => ?_) (fun x_ hx => ?_) (fun k_ hk => ?_) (fun i_ hi_ k_ hk => ?_) _ _ hw ls (lv_sub hl [1, 2, 3, 4, 0] rfl)
            · rw [g1 k_ (by rw [List.length_append]; omega), congrFun (show zA (zsI (zsA (zsA (zsA S_ (ad 50) f4) (ad 51) f5) (ad 52) fo) 1250 (ad 17) (nI (cn + T.length))) (ad 50) = f4 from (zA_I.trans ((zA_ne _ _ (ad_inj hSh (r := 50) (r2 := 52) (by decide +kernel) (by decide +kernel) (by decide))).trans ((zA_ne _ _ (ad_inj hSh (r := 50) (r2 := 51) (by decide +kernel) (by decide +kernel) (by decide))).trans (zA_zsA _ _ _))))) k_, hf4, upd_no _ _ (by omega)]; exact hk1 k_ hk
            · rw [g2 x_ (List.mem_append_left _ hx), congrFun (show zA (zsI (zsA (zsA (zsA S_ (ad 50) f4) (ad 51) f5) (ad 52) fo) 1250 (ad 17) (nI (cn + T.length))) (ad 51) = f5 from (zA_I.trans ((zA_ne _ _ (ad_inj hSh (r := 51) (r2 := 52) (by decide +kernel) (by decide +kernel) (by decide))).trans (zA_zsA _ _ _)))) x_, hf5, upd_no _ _ (fun q_ => hnm (by rw [← q_]; exact hx))]; exact hk2 x_ hx
            · rw [g3 k_ (by omega), congrFun (show zA (zsI (zsA (zsA (zsA S_ (ad 50) f4) (ad 51) f5) (ad 52) fo) 1250 (ad 17) (nI (cn + T.length))) (ad 52) = fo from (zA_I.trans (zA_zsA _ _ _))) k_]; exact hk3 k_ hk
            · rcases Nat.lt_or_ge i_ T.length with q_ | q_
              · rw [g3 _ (by omega), congrFun (show zA (zsI (zsA (zsA (zsA S_ (ad 50) f4) (ad 51) f5) (ad 52) fo) 1250 (ad 17) (nI (cn + T.length))) (ad 52) = fo from (zA_I.trans (zA_zsA _ _ _))) _, hk4 i_ q_ k_ hk, List.getD_eq_getElem?_getD (l := T), List.getD_eq_getElem?_getD (l := T ++ _), List.getElem?_append_left q_]
              · rw [List.length_append] at hi_
                have := g4 (i_ - T.length) (by omega) k_ hk
                rw [show cn + T.length + (i_ - T.length) = cn + i_ by omega] at this
                rw [this, List.getD_eq_getElem?_getD (l := mG n_ ee (pre ++ [jA])), List.getD_eq_getElem?_getD (l := T ++ _), List.getElem?_append_right q_]
          · refine lv_goto (tgt := 114) hx hb_ dX12_goes_81 (by decide) ?_
            obtain ⟨i2_, ei2⟩ : ∃ y_ : Int32, y_ = (nI jA) + 1 := ⟨_, rfl⟩
            refine lv_iinc (v := i2_) (lv' := [(4, .int i2_), (0, .ref (ad 17)), (1, .int (nI pre.length)), (2, .int (nI n_)), (3, .int (nI un))]) hx hb_ dX12_goes_114 hl (k := 4) rfl (by rw [ei2]; rfl) (by decide) rfl (fun ls hl => ?_)
            refine lv_goto (tgt := 65) hx hb_ dX12_goes_117 (by decide) ?_
            have hin : jA ∈ pre := of_decide_eq_true (by rw [← hub jA (by omega), ← ub_s jA (by omega) un hu]; exact decide_eq_true c_78)
            have hG : mGf n_ ee pre jA = [] := if_pos hin
            exact ihA (jA + 1) i2_ (by rw [ei2]; exact nI_1 jA) (by omega) (by omega) lf av fo T (by rw [rg_fm, hG, List.append_nil]; exact hT) hk1 hk2 hk3 hk4 _ _ hw ls (lv_sub hl [1, 2, 3, 4, 0] rfl)
    exact JA (n_ + 1) 0 0 nI_0.symm (Nat.zero_le _) (by omega) (zA S_ (ad 50)) (zA S_ (ad 51)) (zA S_ (ad 52)) [] rfl hlf hat (fun k_ hk => rfl) (fun i_ hi_ => absurd hi_ (Nat.not_lt_zero i_)) _ _ (by rw [zsA_self, zsA_self, zsA_self, show cn + ([] : List (List Nat)).length = cn from rfl, zsI_self hcc]; exact hw) ls (lv_sub hl [1, 2, 3, 4, 0] rfl)
