
theorem zsA_comm (S : zS) {a b : Nat} (f g : Nat → Int32) (n : a ≠ b) : zsA (zsA S a f) b g = zsA (zsA S b g) a f := by
  have : va_up (va_up (zA S) a f) b g = va_up (va_up (zA S) b g) a f := funext fun q => by
    by_cases h1 : q = a
    · subst h1; rw [va_up_ne _ _ n, va_up_self, va_up_self]
    · by_cases h2 : q = b
      · subst h2; rw [va_up_self, va_up_ne _ _ h1, va_up_self]
      · rw [va_up_ne _ _ h2, va_up_ne _ _ h1, va_up_ne _ _ h1, va_up_ne _ _ h2]
  show (zL S, zK S, zN S, zI S, zJ S, zQ S, va_up (va_up (zA S) a f) b g, zB S, zR S) = (zL S, zK S, zN S, zI S, zJ S, zQ S, va_up (va_up (zA S) b g) a f, zB S, zR S)
  rw [this]
theorem zsA_zsI {S : zS} {j a b : Nat} {v : Int32} {f : Nat → Int32} : zsA (zsI S j a v) b f = zsI (zsA S b f) j a v := rfl
theorem zsI_zsA {S : zS} {j a b : Nat} {v : Int32} {f : Nat → Int32} : zsI (zsA S b f) j a v = zsA (zsI S j a v) b f := rfl
theorem zsI_zsI {S : zS} {j a : Nat} {v u : Int32} : zsI (zsI S j a v) j a u = zsI S j a u := by
  have : zu2 (zu2 (zI S) j a v) j a u = zu2 (zI S) j a u := funext fun i => funext fun b => by
    unfold zu2; by_cases h : i = j <;> by_cases h2 : b = a <;> simp [h, h2]
  show (zL S, zK S, zN S, zu2 (zu2 (zI S) j a v) j a u, zJ S, zQ S, zA S, zB S, zR S) = (zL S, zK S, zN S, zu2 (zI S) j a u, zJ S, zQ S, zA S, zB S, zR S)
  rw [this]
theorem zsI_comm {S : zS} {j k a b : Nat} {v u : Int32} (n : j ≠ k) : zsI (zsI S j a v) k b u = zsI (zsI S k b u) j a v := by
  have : zu2 (zu2 (zI S) j a v) k b u = zu2 (zu2 (zI S) k b u) j a v := funext fun i => funext fun q => by
    unfold zu2
    by_cases h1 : i = j
    · subst h1; simp [n]
    · by_cases h2 : i = k
      · subst h2; simp [Ne.symm n]
      · simp [h1, h2]
  show (zL S, zK S, zN S, zu2 (zu2 (zI S) j a v) k b u, zJ S, zQ S, zA S, zB S, zR S) = (zL S, zK S, zN S, zu2 (zu2 (zI S) k b u) j a v, zJ S, zQ S, zA S, zB S, zR S)
  rw [this]
theorem zI_nj {S : zS} {i j a b : Nat} {v : Int32} (h : j ≠ i) : zI (zsI S i a v) j b = zI S j b := zu2_ne (Or.inr h)
theorem zI_at {S : zS} {i a : Nat} {v : Int32} : zI (zsI S i a v) i a = v := zu2_self
theorem zx_n0 {x : Int32} (h : 0 ≤ x) : ¬ x < 0 := by rw [zx_le] at h; rw [zx_lt]; omega
theorem zR_ne (S : zS) {a b : Nat} (f : Nat → Option Nat) (h : b ≠ a) : zR (zsR S a f) b = zR S b := va_up_ne _ _ h
theorem zR_zsR (S : zS) (a : Nat) (f : Nat → Option Nat) : zR (zsR S a f) a = f := va_up_self _ _ _
theorem zsR_zsR (S : zS) (a : Nat) (f g : Nat → Option Nat) : zsR (zsR S a f) a g = zsR S a g := by
  show (zL S, zK S, zN S, zI S, zJ S, zQ S, zA S, zB S, va_up (va_up (zR S) a f) a g) = _
  rw [va_up2]; rfl
theorem zsR_self (S : zS) (a : Nat) : zsR S a (zR S a) = S := by
  have : va_up (zR S) a (zR S a) = zR S := funext fun b => by by_cases h : b = a <;> simp [va_up, h]
  unfold zsR; rw [this]; rfl
theorem upd_at (f : Nat → Int32) (k : Nat) (x : Int32) : upd f k x k = x := by simp [upd]
theorem upd_no (f : Nat → Int32) {k j : Nat} (x : Int32) (h : j ≠ k) : upd f k x j = f j := by simp [upd, h]

set_option maxHeartbeats 1000000 in
set_option maxRecDepth 100000 in
theorem c_X11_copyStrips (l : Launch) (cD : va_G) (cy : Nat → ClassId) (sz_ : Nat) (S_ : zS) (a0_ b0_ : Nat) (hab : a0_ ≠ b0_) (hLa : a0_ ∈ zL S_) (hka : zK S_ a0_ = 16) (hna : zN S_ a0_ = 8) (hLb : b0_ ∈ zL S_) (hkb : zK S_ b0_ = 16) (hnb : zN S_ b0_ = 8) (hz : ∀ i_, zR S_ a0_ i_ = none) : Met l yX11_copyStrips wsX11_copyStrips ({ frames := 0, cells := 0, slots := 0, locals := 0 } : Room) (va_Pc [.ref a0_, .ref b0_] (zPre cD cy S_ sz_)) (va_Qv (fun (S1 : zS) => ∃ f_, S1 = zsR S_ b0_ f_) (zPost cD cy (zAd cy S_ sz_)) (zAd cy S_ sz_)) 0 0 (zAd cy S_ sz_) := by
  refine z_ofW (cc := cX11_copyStrips) (maxL := 3) (ret := none) (own := RX11) (QQ := fun A_ => va_Qv (fun (S1 : zS) => ∃ f_, S1 = zsR S_ b0_ f_) (zPost cD cy A_) A_) (by decide) rfl rfl (Nat.le_of_ble_eq_true rfl) ?_
  intro p_ e_ s_ m_ args_ below_ meth_ c_ A_ ls hcf hr hlk hnm hK_ hE hw hA hl
  obtain ⟨hx, hb_, hml, hown, hts⟩ := id hcf
  have hl : lv_has ls 3 [(0, .ref a0_), (1, .ref b0_)] := hl
  refine lv_iconst (v := 0) hx hb_ dX11_copyStrips_0 (by decide) ?_
  refine lv_istore_n (lv' := [(2, .int 0), (0, .ref a0_), (1, .ref b0_)]) hx hb_ dX11_copyStrips_1 rfl hl (by decide) rfl (fun ls hl => ?_)
  rw [← zsR_self S_ b0_] at hw
  have JA : ∀ (nA jA : Nat) (iA : Int32), iA = nI jA → jA ≤ 8 → 8 < jA + nA → ∀ (f_ : Nat → Option Nat) (H_ : Heap) (locs_ : List Loc), zPw cD cy A_ s_.heap (zsR S_ b0_ f_) H_ locs_ → ∀ ls : Array Slot, lv_has ls 3 [(0, .ref a0_), (1, .ref b0_), (2, .int iA)] → W p_ l e_ ({ frames := 0, cells := 0, slots := 0, locals := 0 } : Room) s_ m_ args_ below_ meth_ c_ H_ locs_ 0 0 (MQ below_ (va_Qv (fun (S1 : zS) => ∃ f_, S1 = zsR S_ b0_ f_) (zPost cD cy A_) A_) args_ s_ 0 0 A_) (F0 m_ 2 ls []) := by
    intro nA
    induction nA with
    | zero => intro jA iA _ hjA h_; exact absurd h_ (by omega)
    | succ nA ihA =>
      intro jA iA eiA hjA hmA f_ H_ locs_ hw ls hl
      refine lv_iload_n hx hb_ dX11_copyStrips_2 rfl (lv_at hl 2 rfl) ?_
      refine lv_aload_n hx hb_ dX11_copyStrips_3 rfl (lv_at hl 0 rfl) ?_
      refine z_alen (n := 8) (v := 8) hcf hK_ hw hLa (Or.inr (Or.inr (Or.inr hka))) hna (by decide) dX11_copyStrips_4 ?_
      refine lv_icmp_ge (tgt := 26) hx hb_ dX11_copyStrips_5 (by decide) (fun c_5 => ?_) (fun c_5 => ?_)
      · exact z_vret hcf hr hlk hw (⟨_, rfl⟩) dX11_copyStrips_26
      · have hlt : jA < 8 := zn_lt eiA (show (8 : Int32) = nI 8 from rfl) (by omega) c_5
        refine lv_iload_n hx hb_ dX11_copyStrips_8 rfl (lv_at hl 2 rfl) ?_
        refine lv_aload_n hx hb_ dX11_copyStrips_9 rfl (lv_at hl 1 rfl) ?_
        refine z_alen (n := 8) (v := 8) hcf hK_ hw hLb (Or.inr (Or.inr (Or.inr hkb))) hnb (by decide) dX11_copyStrips_10 ?_
        refine lv_icmp_ge (tgt := 26) hx hb_ dX11_copyStrips_11 (by decide) (fun c_11 => absurd c_11 (by rw [eiA]; exact nI_ge hlt (by decide))) (fun c_11 => ?_)
        refine lv_aload_n hx hb_ dX11_copyStrips_14 rfl (lv_at hl 1 rfl) ?_
        refine lv_iload_n hx hb_ dX11_copyStrips_15 rfl (lv_at hl 2 rfl) ?_
        refine lv_aload_n hx hb_ dX11_copyStrips_16 rfl (lv_at hl 0 rfl) ?_
        refine lv_iload_n hx hb_ dX11_copyStrips_17 rfl (lv_at hl 2 rfl) ?_
        refine z_qald (n := 8) (v := .null) hcf hK_ hw hLa hka hna (by rw [eiA]; exact vp_in_nI hlt (by decide)) (by rw [zR_ne _ _ hab, hz]; rfl) dX11_copyStrips_18 ?_
        refine z_qastN (n := 8) hcf hK_ hw hLb hkb hnb (by rw [eiA]; exact vp_in_nI hlt (by decide)) dX11_copyStrips_19 (fun H_ locs_ hw => ?_)
        obtain ⟨i2_, ei2⟩ : ∃ y_ : Int32, y_ = iA + 1 := ⟨_, rfl⟩
        refine lv_iinc (v := i2_) (lv' := [(2, .int i2_), (0, .ref a0_), (1, .ref b0_)]) hx hb_ dX11_copyStrips_20 hl (k := 2) rfl (by rw [ei2]; rfl) (by decide) rfl (fun ls hl => ?_)
        refine lv_goto (tgt := 2) hx hb_ dX11_copyStrips_23 (by decide) ?_
        rw [zsR_zsR] at hw
        exact ihA (jA + 1) i2_ (by rw [ei2, eiA]; exact nI_1 jA) hlt (by omega) _ _ _ hw ls (lv_sub hl [1, 2, 0] rfl)
  exact JA 9 0 0 nI_0.symm (Nat.zero_le _) (by omega) _ _ _ hw ls (lv_sub hl [1, 2, 0] rfl)

set_option maxHeartbeats 1000000 in
set_option maxRecDepth 100000 in
/-- image on an object just made -/
theorem c_X11_image (l : Launch) (cD : va_G) (cy : Nat → ClassId) (sz_ : Nat) (r_ : Nat → Nat) (S_ : zS) (hSh : ShC S_ r_) (hF : FrC S_ r_) : Met l yX11_image wsX11_image ({ frames := 1, cells := 0, slots := 0, locals := 22 } : Room) (va_Pc [.ref (r_ 0)] (zPre cD cy S_ sz_)) (va_Qi (fun (v_ : Int32) (S1 : zS) => v_ = 0) (zPost cD cy (zAd cy S_ sz_)) (zAd cy S_ sz_)) 0 0 (zAd cy S_ sz_) := by
  refine z_ofW (cc := cX11_image) (maxL := 1) (ret := (some .int)) (own := RX11) (QQ := fun A_ => va_Qi (fun (v_ : Int32) (S1 : zS) => v_ = 0) (zPost cD cy A_) A_) (by decide) rfl rfl (Nat.le_of_ble_eq_true rfl) ?_
  intro p_ e_ s_ m_ args_ below_ meth_ c_ A_ ls hcf hr hlk hnm hK_ hE hw hA hl
  obtain ⟨hx, hb_, hml, hown, hts⟩ := id hcf
  have hin11 : ∀ w_ ∈ wsX110, w_ ∈ wsX11_image := fun w_ h_ => (List.mem_cons_of_mem _ (List.mem_append_right _ h_))
  have hl : lv_has ls 1 [(0, .ref (r_ 0))] := hl
  refine lv_aload_n hx hb_ dX11_image_0 rfl (lv_at hl 0 rfl) ?_
  refine z_get (k := 11) (i := 1) (j := 1101) (v := .ref (r_ 2)) (ref := "FoldedInHalf") (C := RX11) (T := TX11) (N := 13) hcf hK_ hw hin11 (cL hSh 0) (cK hSh 0) rfl (by decide) (by decide) rfl rfl (congrArg va_rf (cP hSh 1)) (List.mem_of_getElem? (i := 1) rfl) (fun _ h_ => h_) dX11_image_1 ?_
  refine lv_aload_n hx hb_ dX11_image_4 rfl (lv_at hl 0 rfl) ?_
  refine z_get (k := 11) (i := 2) (j := 1102) (v := .ref (r_ 3)) (ref := "FoldedInHalf") (C := RX11) (T := TX11) (N := 13) hcf hK_ hw hin11 (cL hSh 0) (cK hSh 0) rfl (by decide) (by decide) rfl rfl (congrArg va_rf (cP hSh 2)) (List.mem_of_getElem? (i := 2) rfl) (fun _ h_ => h_) dX11_image_5 ?_
  refine z_kv hw hA (va_runS (As := [.ref (r_ 2), .ref (r_ 3)]) (rest := []) hcf (c_X11_copyStrips l cD cy _ S_ (r_ 2) (r_ 3) (cNe hSh (by decide) (by decide) (by decide)) (cL hSh 2) (cK hSh 2) (cN hSh 2) (cL hSh 3) (cK hSh 3) (cN hSh 3) hF.2.2.2.2.2.2.2.2) (va_cwS 2 hts gX11_image_X11_copyStrips rfl rfl rfl (by decide +kernel) ⟨Nat.le_of_ble_eq_true rfl, Nat.le_of_ble_eq_true rfl⟩) (z_preS hK_ hE hw) rfl rfl hl.1 rfl (lv_room (Nat.le_of_ble_eq_true rfl)) dX11_image_8 ⟨Nat.le_of_ble_eq_true rfl, Nat.le_of_ble_eq_true rfl⟩) (fun S2 H_ locs_ hp hw => ?_)
  obtain ⟨fk, rfl⟩ := hp
  refine lv_aload_n hx hb_ dX11_image_11 rfl (lv_at hl 0 rfl) ?_
  refine lv_aload_n hx hb_ dX11_image_12 rfl (lv_at hl 0 rfl) ?_
  refine z_get (k := 11) (i := 10) (j := 1110) (v := .int 0) (ref := "FoldedInHalf") (C := RX11) (T := TX11) (N := 13) hcf hK_ hw hin11 (cL hSh 0) (cK hSh 0) rfl (by decide) (by decide) rfl rfl (congrArg Value.int hF.1) (List.mem_of_getElem? (i := 3) rfl) (fun _ h_ => h_) dX11_image_13 ?_
  refine z_putI (k := 11) (i := 11) (j := 1111) (x := 0) (v := .int 0) (ty := .int) (ref := "FoldedInHalf") (C := RX11) (T := TX11) (N := 13) tyX11 hcf hK_ hw hin11 tyX11_ok nmX11 (cL hSh 0) (cK hSh 0) rfl (by decide) (by decide) rfl rfl (List.mem_of_getElem? (i := 4) rfl) (fun _ h_ => h_) rfl rfl (by decide +kernel) rfl rfl dX11_image_16 (fun H_ locs_ hw => ?_)
  refine lv_aload_n hx hb_ dX11_image_19 rfl (lv_at hl 0 rfl) ?_
  refine z_get (k := 11) (i := 10) (j := 1110) (v := .int 0) (ref := "FoldedInHalf") (C := RX11) (T := TX11) (N := 13) hcf hK_ hw hin11 (cL hSh 0) (cK hSh 0) rfl (by decide) (by decide) rfl rfl (congrArg Value.int ((zI_nj (by decide)).trans hF.1)) (List.mem_of_getElem? (i := 3) rfl) (fun _ h_ => h_) dX11_image_20 ?_
  exact z_iret (ty := .int) (v := 0) hcf hr rfl hlk hw (rfl) dX11_image_23


def cPg : Nat → Int32 × Int32 × Int32 → Int32
  | 0, s => s.1
  | k + 1, s => if nI (2 ^ k) ≤ s.2.2 then cPg k (s.1, s.2.1 * 2, s.2.2 - nI (2 ^ k)) else cPg k (s.2.1 * 2 - 1 - s.1, s.2.1 * 2, nI (2 ^ k) - 1 - s.2.2)
def q_page (f p : Int32) : Int32 := if p < 0 then -5 else if f < 1 ∨ ¬ f ≤ 6 then -6 else if p < nI (2 ^ f.toNatClampNeg) then cPg f.toNatClampNeg (0, 1, p) else -5
theorem q_page_out {f p : Int32} {f0 : Nat} (h1 : ¬ p < 0) (h3 : ¬ f < 1) (h4 : f ≤ 6) (ef : f = nI f0) (h5 : f0 ≤ 6) (h : ¬ p < nI (2 ^ f0)) : q_page f p = -5 := by
  have : f.toNatClampNeg = f0 := by rw [ef]; exact nI_clamp (by omega)
  unfold q_page
  rw [if_neg h1, if_neg (by simp [h3, h4]), this, if_neg h]
theorem q_page_in {f p : Int32} {f0 : Nat} (h1 : ¬ p < 0) (h3 : ¬ f < 1) (h4 : f ≤ 6) (ef : f = nI f0) (h5 : f0 ≤ 6) (h : p < nI (2 ^ f0)) : q_page f p = cPg f0 (0, 1, p) := by
  have : f.toNatClampNeg = f0 := by rw [ef]; exact nI_clamp (by omega)
  unfold q_page
  rw [if_neg h1, if_neg (by simp [h3, h4]), this, if_pos h]
def hlf : Nat → Int32
  | 0 => 0
  | k + 1 => nI (2 ^ k)
theorem hlf_s : ∀ k, k < 6 → nI (2 ^ k) >>> ((1 : Int32) &&& 31) = hlf k := by decide +kernel
theorem hlf_0 : ∀ f, f < 7 → 1 ≤ f → (1 : Int32) <<< ((nI f - 1) &&& 31) = hlf f := by decide +kernel
theorem p2_lt {k : Nat} (h : k < 31) : 2 ^ k < 2 ^ 31 := Nat.pow_lt_pow_right (by decide) h
/-! the model: every leaf on its own -/
def stp (z d : Int32) (q : Int32 × Int32) : Int32 × Int32 := if q.1 < z / 2 then (q.1, q.2 + d) else (z - 1 - q.1, d - 1 - q.2)
def mC (f : Nat) (i : Nat) : Nat → Int32 × Int32
  | 0 => (nI i, 0)
  | t + 1 => stp (nI (2 ^ (f - t))) (nI (2 ^ t)) (mC f i t)
def mFd (f : Nat) (p : Int32) : Nat → Int32
  | 0 => -1
  | k + 1 => if (mC f k f).2 = p then nI k else mFd f p k
theorem mFd_a : ∀ f, f < 5 → ∀ p, p < 2 ^ f → 1 ≤ f → mFd f (nI p) (2 ^ f) = cPg f (0, 1, nI p) := by decide +kernel
theorem mFd_5 : ∀ p, p < 32 → mFd 5 (nI p) 32 = cPg 5 (0, 1, nI p) := by decide +kernel
theorem mFd_6a : ∀ p, p < 32 → mFd 6 (nI p) 64 = cPg 6 (0, 1, nI p) := by decide +kernel
theorem mFd_6b : ∀ p, p < 32 → mFd 6 (nI (32 + p)) 64 = cPg 6 (0, 1, nI (32 + p)) := by decide +kernel
theorem mFd_all {f p : Nat} (h1 : 1 ≤ f) (hf : f ≤ 6) (hp : p < 2 ^ f) : mFd f (nI p) (2 ^ f) = cPg f (0, 1, nI p) := by
  rcases (show f < 5 ∨ f = 5 ∨ f = 6 by omega) with q | rfl | rfl
  · exact mFd_a f q p hp h1
  · exact mFd_5 p hp
  · rcases Nat.lt_or_ge p 32 with q | q
    · exact mFd_6a p q
    · have hp : p < 64 := hp
      have := mFd_6b (p - 32) (by omega)
      rwa [show 32 + (p - 32) = p by omega] at this
theorem dv2 : ∀ u, u < 6 → nI (2 ^ (u + 1)) / 2 = nI (2 ^ u) := by decide +kernel
theorem ml2 : ∀ t, t < 6 → nI (2 ^ t) * 2 = nI (2 ^ (t + 1)) := by decide +kernel

set_option maxHeartbeats 1000000 in
set_option maxRecDepth 100000 in
theorem c_X11_page (l : Launch) (cD : va_G) (cy : Nat → ClassId) (sz_ : Nat) (r_ : Nat → Nat) (S_ : zS) (hSh : ShC S_ r_) (hF : FrC S_ r_) (f_ pq : Int32) : Met l yX11_page wsX11_page ({ frames := 1, cells := 0, slots := 0, locals := 22 } : Room) (va_Pc [.ref (r_ 0), .int f_, .int pq] (zPre cD cy S_ sz_)) (va_Qi (fun (v_ : Int32) (S1 : zS) => v_ = q_page f_ pq) (zPost cD cy (zAd cy S_ sz_)) (zAd cy S_ sz_)) 0 0 (zAd cy S_ sz_) := by
  refine z_ofW (cc := cX11_page) (maxL := 7) (ret := (some .int)) (own := RX11) (QQ := fun A_ => va_Qi (fun (v_ : Int32) (S1 : zS) => v_ = q_page f_ pq) (zPost cD cy A_) A_) (by decide) rfl rfl (Nat.le_of_ble_eq_true rfl) ?_
  intro p_ e_ s_ m_ args_ below_ meth_ c_ A_ ls hcf hr hlk hnm hK_ hE hw hA hl
  obtain ⟨hx, hb_, hml, hown, hts⟩ := id hcf
  have hl : lv_has ls 7 [(0, .ref (r_ 0)), (1, .int f_), (2, .int pq)] := hl
  refine lv_iload_n hx hb_ dX11_page_0 rfl (lv_at hl 2 rfl) ?_
  refine lv_if_ge (tgt := 11) hx hb_ dX11_page_1 (by decide) (fun c_1 => ?_) (fun c_1 => ?_)
  · refine lv_iload_n hx hb_ dX11_page_11 rfl (lv_at hl 1 rfl) ?_
    refine lv_iconst (v := 1) hx hb_ dX11_page_12 (by decide) ?_
    refine lv_icmp_lt (tgt := 22) hx hb_ dX11_page_13 (by decide) (fun c_13 => ?_) (fun c_13 => ?_)
    · refine lv_aload_n hx hb_ dX11_page_22 rfl (lv_at hl 0 rfl) ?_
      refine lv_bipush (v := (-6)) hx hb_ dX11_page_23 (by decide) ?_
      refine z_ki hw hA (va_runV (As := [.int (-6)]) (rest := []) hcf (c_X11_refuse l cD cy _ r_ S_ hSh (-6) (by decide) (by decide)) (cwV 1 hts gX11_page_X11_refuse rfl rfl rfl (by decide +kernel) ⟨Nat.le_of_ble_eq_true rfl, Nat.le_of_ble_eq_true rfl⟩) (z_preV (k := 11) hK_ hE hw (cL hSh 0) (cK hSh 0) (by decide) rfl) rfl rfl hl.1 rfl (lv_room (Nat.le_of_ble_eq_true rfl)) dX11_page_25 ⟨Nat.le_of_ble_eq_true rfl, Nat.le_of_ble_eq_true rfl⟩) (fun v1 S2 H_ locs_ hp hw => ?_)
      obtain ⟨rfl, f3_, rfl⟩ := hp
      exact z_iret (ty := .int) (v := (-6)) hcf hr rfl hlk hw (by simp [q_page, c_1, c_13]) dX11_page_28
    · refine lv_iload_n hx hb_ dX11_page_16 rfl (lv_at hl 1 rfl) ?_
      refine lv_bipush (v := 6) hx hb_ dX11_page_17 (by decide) ?_
      refine lv_icmp_le (tgt := 29) hx hb_ dX11_page_19 (by decide) (fun c_19 => ?_) (fun c_19 => ?_)
      · obtain ⟨f0, hf1, hf6, ef⟩ := zx_of (a := 1) (b := 6) c_13 c_19 (by decide) (by decide)
        refine lv_iload_n hx hb_ dX11_page_29 rfl (lv_at hl 2 rfl) ?_
        refine lv_iconst (v := 1) hx hb_ dX11_page_30 (by decide) ?_
        refine lv_iload_n hx hb_ dX11_page_31 rfl (lv_at hl 1 rfl) ?_
        refine lv_ishl hx hb_ dX11_page_32 ?_
        refine z_topi (y := (nI (2 ^ f0))) (by rw [ef]; exact shl1 f0 (by omega)) ?_
        refine lv_icmp_lt (tgt := 43) hx hb_ dX11_page_33 (by decide) (fun c_33 => ?_) (fun c_33 => ?_)
        · refine lv_iconst (v := 0) hx hb_ dX11_page_43 (by decide) ?_
          refine lv_istore_n (lv' := [(3, .int 0), (0, .ref (r_ 0)), (1, .int f_), (2, .int pq)]) hx hb_ dX11_page_44 rfl hl (by decide) rfl (fun ls hl => ?_)
          refine lv_iconst (v := 1) hx hb_ dX11_page_45 (by decide) ?_
          refine lv_istore (lv' := [(4, .int 1), (3, .int 0), (0, .ref (r_ 0)), (1, .int f_), (2, .int pq)]) hx hb_ dX11_page_46 hl (by decide) rfl (fun ls hl => ?_)
          refine lv_iload_n hx hb_ dX11_page_48 rfl (lv_at hl 4 rfl) ?_
          refine lv_istore (lv' := [(5, .int pq), (4, .int 1), (3, .int 0), (0, .ref (r_ 0)), (1, .int f_), (2, .int pq)]) hx hb_ dX11_page_49 hl (by decide) rfl (fun ls hl => ?_)
          refine lv_iconst (v := 1) hx hb_ dX11_page_51 (by decide) ?_
          refine lv_iload_n hx hb_ dX11_page_52 rfl (lv_at hl 4 rfl) ?_
          refine lv_iconst (v := 1) hx hb_ dX11_page_53 (by decide) ?_
          refine lv_isub hx hb_ dX11_page_54 ?_
          refine lv_ishl hx hb_ dX11_page_55 ?_
          refine z_topi (y := (hlf f0)) (by rw [ef]; exact hlf_0 f0 (by omega) hf1) ?_
          refine lv_istore (lv' := [(6, .int (hlf f0)), (5, .int pq), (4, .int 1), (3, .int 0), (0, .ref (r_ 0)), (1, .int f_), (2, .int pq)]) hx hb_ dX11_page_56 hl (by decide) rfl (fun ls hl => ?_)
          have J_ : ∀ k_, k_ ≤ 6 → ∀ h_ : Int32, h_ = hlf k_ → ∀ a_ n_ q_ : Int32, cPg k_ (a_, n_, q_) = cPg f0 (0, 1, pq) → ∀ (H_ : Heap) (locs_ : List Loc), zPw cD cy A_ s_.heap S_ H_ locs_ → ∀ ls : Array Slot, lv_has ls 7 [(0, .ref (r_ 0)), (1, .int f_), (2, .int pq), (3, .int a_), (4, .int n_), (5, .int q_), (6, .int h_)] → W p_ l e_ ({ frames := 1, cells := 0, slots := 0, locals := 22 } : Room) s_ m_ args_ below_ meth_ c_ H_ locs_ 0 0 (MQ below_ (va_Qi (fun (v_ : Int32) (S1 : zS) => v_ = q_page f_ pq) (zPost cD cy A_) A_) args_ s_ 0 0 A_) (F0 m_ 58 ls []) := by
            intro k_
            induction k_ with
            | zero =>
              intro hk h_ eh a_ n_ q_ hg H_ locs_ hw ls hl
              refine lv_iload hx hb_ dX11_page_58 (lv_at hl 6 rfl) ?_
              refine lv_if_le (tgt := 111) hx hb_ dX11_page_60 (by decide) (fun c_60 => ?_) (fun c_60 => absurd (by rw [eh]; decide) c_60)
              refine lv_iload_n hx hb_ dX11_page_111 rfl (lv_at hl 3 rfl) ?_
              exact z_iret (ty := .int) (v := a_) hcf hr rfl hlk hw (by rw [q_page_in (zx_n0 c_1) c_13 c_19 ef hf6 c_33, ← hg]; rfl) dX11_page_112
            | succ k_ ih_ =>
              intro hk h_ eh a_ n_ q_ hg H_ locs_ hw ls hl
              refine lv_iload hx hb_ dX11_page_58 (lv_at hl 6 rfl) ?_
              refine lv_if_le (tgt := 111) hx hb_ dX11_page_60 (by decide) (fun c_60 => absurd c_60 (by rw [eh]; exact nI_nle (Nat.two_pow_pos k_) (p2_lt (by omega)))) (fun c_60 => ?_)
              refine lv_iload hx hb_ dX11_page_63 (lv_at hl 4 rfl) ?_
              refine lv_iconst (v := 2) hx hb_ dX11_page_65 (by decide) ?_
              refine lv_imul hx hb_ dX11_page_66 ?_
              refine lv_istore (lv' := [(4, .int (n_ * 2)), (0, .ref (r_ 0)), (1, .int f_), (2, .int pq), (3, .int a_), (5, .int q_), (6, .int h_)]) hx hb_ dX11_page_67 hl (by decide) rfl (fun ls hl => ?_)
              refine lv_iload hx hb_ dX11_page_69 (lv_at hl 5 rfl) ?_
              refine lv_iload hx hb_ dX11_page_71 (lv_at hl 6 rfl) ?_
              refine lv_icmp_ge (tgt := 95) hx hb_ dX11_page_73 (by decide) (fun c_73 => ?_) (fun c_73 => ?_)
              · refine lv_iload hx hb_ dX11_page_95 (lv_at hl 5 rfl) ?_
                refine lv_iload hx hb_ dX11_page_97 (lv_at hl 6 rfl) ?_
                refine lv_isub hx hb_ dX11_page_99 ?_
                refine lv_istore (lv' := [(5, .int (q_ - h_)), (4, .int (n_ * 2)), (0, .ref (r_ 0)), (1, .int f_), (2, .int pq), (3, .int a_), (6, .int h_)]) hx hb_ dX11_page_100 hl (by decide) rfl (fun ls hl => ?_)
                refine lv_iload hx hb_ dX11_page_102 (lv_at hl 6 rfl) ?_
                refine lv_iconst (v := 1) hx hb_ dX11_page_104 (by decide) ?_
                refine lv_ishr hx hb_ dX11_page_105 ?_
                refine lv_istore (lv' := [(6, .int (h_ >>> (1 &&& 31))), (5, .int (q_ - h_)), (4, .int (n_ * 2)), (0, .ref (r_ 0)), (1, .int f_), (2, .int pq), (3, .int a_)]) hx hb_ dX11_page_106 hl (by decide) rfl (fun ls hl => ?_)
                refine lv_goto (tgt := 58) hx hb_ dX11_page_108 (by decide) ?_
                refine ih_ (by omega) (h_ >>> (1 &&& 31)) (by rw [eh]; exact hlf_s k_ (by omega)) a_ (n_ * 2) (q_ - h_) ?_ _ _ hw ls (lv_sub hl [3, 4, 5, 6, 2, 1, 0] rfl)
                rw [← hg]; subst eh; exact (if_pos c_73).symm
              · refine lv_iload hx hb_ dX11_page_76 (lv_at hl 0 rfl) ?_
                refine lv_iconst (v := 1) hx hb_ dX11_page_78 (by decide) ?_
                refine lv_isub hx hb_ dX11_page_79 ?_
                refine lv_iload_n hx hb_ dX11_page_80 rfl (lv_at hl 4 rfl) ?_
                refine lv_isub hx hb_ dX11_page_81 ?_
                refine lv_istore_n (lv' := [(3, .int (((n_ * 2) - 1) - a_)), (4, .int (n_ * 2)), (0, .ref (r_ 0)), (1, .int f_), (2, .int pq), (5, .int q_), (6, .int h_)]) hx hb_ dX11_page_82 rfl hl (by decide) rfl (fun ls hl => ?_)
                refine lv_iload hx hb_ dX11_page_83 (lv_at hl 6 rfl) ?_
                refine lv_iconst (v := 1) hx hb_ dX11_page_85 (by decide) ?_
                refine lv_isub hx hb_ dX11_page_86 ?_
                refine lv_iload hx hb_ dX11_page_87 (lv_at hl 5 rfl) ?_
                refine lv_isub hx hb_ dX11_page_89 ?_
                refine lv_istore (lv' := [(5, .int ((h_ - 1) - q_)), (3, .int (((n_ * 2) - 1) - a_)), (4, .int (n_ * 2)), (0, .ref (r_ 0)), (1, .int f_), (2, .int pq), (6, .int h_)]) hx hb_ dX11_page_90 hl (by decide) rfl (fun ls hl => ?_)
                refine lv_goto (tgt := 102) hx hb_ dX11_page_92 (by decide) ?_
                refine lv_iload hx hb_ dX11_page_102 (lv_at hl 6 rfl) ?_
                refine lv_iconst (v := 1) hx hb_ dX11_page_104 (by decide) ?_
                refine lv_ishr hx hb_ dX11_page_105 ?_
                refine lv_istore (lv' := [(6, .int (h_ >>> (1 &&& 31))), (5, .int ((h_ - 1) - q_)), (3, .int (((n_ * 2) - 1) - a_)), (4, .int (n_ * 2)), (0, .ref (r_ 0)), (1, .int f_), (2, .int pq)]) hx hb_ dX11_page_106 hl (by decide) rfl (fun ls hl => ?_)
                refine lv_goto (tgt := 58) hx hb_ dX11_page_108 (by decide) ?_
                refine ih_ (by omega) (h_ >>> (1 &&& 31)) (by rw [eh]; exact hlf_s k_ (by omega)) (((n_ * 2) - 1) - a_) (n_ * 2) ((h_ - 1) - q_) ?_ _ _ hw ls (lv_sub hl [4, 5, 6, 2, 3, 1, 0] rfl)
                rw [← hg]; subst eh; exact (if_neg c_73).symm
          exact J_ f0 hf6 (hlf f0) rfl 0 1 pq rfl _ _ hw ls (lv_sub hl [4, 5, 6, 3, 2, 1, 0] rfl)
        · refine lv_aload_n hx hb_ dX11_page_36 rfl (lv_at hl 0 rfl) ?_
          refine lv_bipush (v := (-5)) hx hb_ dX11_page_37 (by decide) ?_
          refine z_ki hw hA (va_runV (As := [.int (-5)]) (rest := []) hcf (c_X11_refuse l cD cy _ r_ S_ hSh (-5) (by decide) (by decide)) (cwV 1 hts gX11_page_X11_refuse rfl rfl rfl (by decide +kernel) ⟨Nat.le_of_ble_eq_true rfl, Nat.le_of_ble_eq_true rfl⟩) (z_preV (k := 11) hK_ hE hw (cL hSh 0) (cK hSh 0) (by decide) rfl) rfl rfl hl.1 rfl (lv_room (Nat.le_of_ble_eq_true rfl)) dX11_page_39 ⟨Nat.le_of_ble_eq_true rfl, Nat.le_of_ble_eq_true rfl⟩) (fun v4 S5 H_ locs_ hp hw => ?_)
          obtain ⟨rfl, f6, rfl⟩ := hp
          exact z_iret (ty := .int) (v := (-5)) hcf hr rfl hlk hw (by rw [q_page_out (zx_n0 c_1) c_13 c_19 ef hf6 c_33]) dX11_page_42
      · refine lv_aload_n hx hb_ dX11_page_22 rfl (lv_at hl 0 rfl) ?_
        refine lv_bipush (v := (-6)) hx hb_ dX11_page_23 (by decide) ?_
        refine z_ki hw hA (va_runV (As := [.int (-6)]) (rest := []) hcf (c_X11_refuse l cD cy _ r_ S_ hSh (-6) (by decide) (by decide)) (cwV 1 hts gX11_page_X11_refuse rfl rfl rfl (by decide +kernel) ⟨Nat.le_of_ble_eq_true rfl, Nat.le_of_ble_eq_true rfl⟩) (z_preV (k := 11) hK_ hE hw (cL hSh 0) (cK hSh 0) (by decide) rfl) rfl rfl hl.1 rfl (lv_room (Nat.le_of_ble_eq_true rfl)) dX11_page_25 ⟨Nat.le_of_ble_eq_true rfl, Nat.le_of_ble_eq_true rfl⟩) (fun v7 S8 H_ locs_ hp hw => ?_)
        obtain ⟨rfl, f9, rfl⟩ := hp
        exact z_iret (ty := .int) (v := (-6)) hcf hr rfl hlk hw (by simp [q_page, c_1, c_13, c_19]) dX11_page_28
  · refine lv_aload_n hx hb_ dX11_page_4 rfl (lv_at hl 0 rfl) ?_
    refine lv_bipush (v := (-5)) hx hb_ dX11_page_5 (by decide) ?_
    refine z_ki hw hA (va_runV (As := [.int (-5)]) (rest := []) hcf (c_X11_refuse l cD cy _ r_ S_ hSh (-5) (by decide) (by decide)) (cwV 1 hts gX11_page_X11_refuse rfl rfl rfl (by decide +kernel) ⟨Nat.le_of_ble_eq_true rfl, Nat.le_of_ble_eq_true rfl⟩) (z_preV (k := 11) hK_ hE hw (cL hSh 0) (cK hSh 0) (by decide) rfl) rfl rfl hl.1 rfl (lv_room (Nat.le_of_ble_eq_true rfl)) dX11_page_7 ⟨Nat.le_of_ble_eq_true rfl, Nat.le_of_ble_eq_true rfl⟩) (fun v10 S11 H_ locs_ hp hw => ?_)
    obtain ⟨rfl, f12, rfl⟩ := hp
    exact z_iret (ty := .int) (v := (-5)) hcf hr rfl hlk hw (by simp [q_page, c_1]) dX11_page_10

set_option maxHeartbeats 1000000 in
set_option maxRecDepth 100000 in
theorem c_X12_page (l : Launch) (cD : va_G) (cy : Nat → ClassId) (sz_ : Nat) (r_ : Nat → Nat) (S_ : zS) (hSh : ShM S_ r_) (hF : FrM S_ r_) (f_ pq : Int32) : Met l yX12_page wsX12_page ({ frames := 1, cells := 0, slots := 0, locals := 21 } : Room) (va_Pc [.ref (r_ 0), .int f_, .int pq] (zPre cD cy S_ sz_)) (va_Qi (fun (v_ : Int32) (S1 : zS) => v_ = q_page f_ pq) (zPost cD cy (zAd cy S_ sz_)) (zAd cy S_ sz_)) 0 0 (zAd cy S_ sz_) := by
  refine z_ofW (cc := cX12_page) (maxL := 8) (ret := (some .int)) (own := RX12) (QQ := fun A_ => va_Qi (fun (v_ : Int32) (S1 : zS) => v_ = q_page f_ pq) (zPost cD cy A_) A_) (by decide) rfl rfl (Nat.le_of_ble_eq_true rfl) ?_
  intro p_ e_ s_ m_ args_ below_ meth_ c_ A_ ls hcf hr hlk hnm hK_ hE hw hA hl
  obtain ⟨hx, hb_, hml, hown, hts⟩ := id hcf
  have hin12 : ∀ w_ ∈ wsX120, w_ ∈ wsX12_page := fun w_ h_ => (List.mem_cons_of_mem _ (List.mem_append_right _ h_))
  have hl : lv_has ls 8 [(0, .ref (r_ 0)), (1, .int f_), (2, .int pq)] := hl
  refine lv_iload_n hx hb_ dX12_page_0 rfl (lv_at hl 1 rfl) ?_
  refine lv_iconst (v := 1) hx hb_ dX12_page_1 (by decide) ?_
  refine lv_icmp_lt (tgt := 11) hx hb_ dX12_page_2 (by decide) (fun c_2 => ?_) (fun c_2 => ?_)
  · refine lv_aload_n hx hb_ dX12_page_11 rfl (lv_at hl 0 rfl) ?_
    refine lv_iload_n hx hb_ dX12_page_12 rfl (lv_at hl 2 rfl) ?_
    refine lv_if_ge (tgt := 21) hx hb_ dX12_page_13 (by decide) (fun c_13 => ?_) (fun c_13 => ?_)
    · refine lv_bipush (v := (-6)) hx hb_ dX12_page_21 (by decide) ?_
      refine z_ki hw hA (va_runV (As := [.int (-6)]) (rest := []) hcf (c_X12_no l cD cy _ r_ S_ hSh (-6) (by decide) (by decide)) (cwV 1 hts gX12_page_X12_no rfl rfl rfl (by decide +kernel) ⟨Nat.le_of_ble_eq_true rfl, Nat.le_of_ble_eq_true rfl⟩) (z_preV (k := 12) hK_ hE hw (mL hSh 0) (mK hSh 0) (by decide) rfl) rfl rfl hl.1 rfl (lv_room (Nat.le_of_ble_eq_true rfl)) dX12_page_23 ⟨Nat.le_of_ble_eq_true rfl, Nat.le_of_ble_eq_true rfl⟩) (fun v1 S2 H_ locs_ hp hw => ?_)
      obtain ⟨rfl, f3_, rfl⟩ := hp
      exact z_iret (ty := .int) (v := (-6)) hcf hr rfl hlk hw (by simp [q_page, c_2, c_13]) dX12_page_26
    · refine lv_bipush (v := (-5)) hx hb_ dX12_page_16 (by decide) ?_
      refine lv_goto (tgt := 23) hx hb_ dX12_page_18 (by decide) ?_
      refine z_ki hw hA (va_runV (As := [.int (-5)]) (rest := []) hcf (c_X12_no l cD cy _ r_ S_ hSh (-5) (by decide) (by decide)) (cwV 1 hts gX12_page_X12_no rfl rfl rfl (by decide +kernel) ⟨Nat.le_of_ble_eq_true rfl, Nat.le_of_ble_eq_true rfl⟩) (z_preV (k := 12) hK_ hE hw (mL hSh 0) (mK hSh 0) (by decide) rfl) rfl rfl hl.1 rfl (lv_room (Nat.le_of_ble_eq_true rfl)) dX12_page_23 ⟨Nat.le_of_ble_eq_true rfl, Nat.le_of_ble_eq_true rfl⟩) (fun v4 S5 H_ locs_ hp hw => ?_)
      obtain ⟨rfl, f6, rfl⟩ := hp
      exact z_iret (ty := .int) (v := (-5)) hcf hr rfl hlk hw (by simp [q_page, c_2, c_13]) dX12_page_26
  · refine lv_iload_n hx hb_ dX12_page_5 rfl (lv_at hl 1 rfl) ?_
    refine lv_bipush (v := 6) hx hb_ dX12_page_6 (by decide) ?_
    refine lv_icmp_le (tgt := 27) hx hb_ dX12_page_8 (by decide) (fun c_8 => ?_) (fun c_8 => ?_)
    · obtain ⟨f0, hf1, hf6, ef⟩ := zx_of (a := 1) (b := 6) c_2 c_8 (by decide) (by decide)
      have h64 : 2 ^ f0 ≤ 64 := Nat.pow_le_pow_right (n := 2) (by decide) hf6
      refine lv_iconst (v := 1) hx hb_ dX12_page_27 (by decide) ?_
      refine lv_iload_n hx hb_ dX12_page_28 rfl (lv_at hl 1 rfl) ?_
      refine lv_ishl hx hb_ dX12_page_29 ?_
      refine z_topi (y := (nI (2 ^ f0))) (by rw [ef]; exact shl1 f0 (by omega)) ?_
      refine lv_istore_n (lv' := [(3, .int (nI (2 ^ f0))), (0, .ref (r_ 0)), (1, .int f_), (2, .int pq)]) hx hb_ dX12_page_30 rfl hl (by decide) rfl (fun ls hl => ?_)
      refine lv_iload_n hx hb_ dX12_page_31 rfl (lv_at hl 0 rfl) ?_
      refine lv_istore (lv' := [(4, .int (nI (2 ^ f0))), (3, .int (nI (2 ^ f0))), (0, .ref (r_ 0)), (1, .int f_), (2, .int pq)]) hx hb_ dX12_page_32 hl (by decide) rfl (fun ls hl => ?_)
      refine lv_iconst (v := 1) hx hb_ dX12_page_34 (by decide) ?_
      refine lv_istore (lv' := [(5, .int 1), (4, .int (nI (2 ^ f0))), (3, .int (nI (2 ^ f0))), (0, .ref (r_ 0)), (1, .int f_), (2, .int pq)]) hx hb_ dX12_page_35 hl (by decide) rfl (fun ls hl => ?_)
      refine lv_iload_n hx hb_ dX12_page_37 rfl (lv_at hl 5 rfl) ?_
      refine lv_if_lt (tgt := 46) hx hb_ dX12_page_38 (by decide) (fun c_38 => ?_) (fun c_38 => ?_)
      · refine lv_aload_n hx hb_ dX12_page_46 rfl (lv_at hl 3 rfl) ?_
        refine lv_bipush (v := (-5)) hx hb_ dX12_page_47 (by decide) ?_
        refine z_ki hw hA (va_runV (As := [.int (-5)]) (rest := []) hcf (c_X12_no l cD cy _ r_ S_ hSh (-5) (by decide) (by decide)) (cwV 1 hts gX12_page_X12_no rfl rfl rfl (by decide +kernel) ⟨Nat.le_of_ble_eq_true rfl, Nat.le_of_ble_eq_true rfl⟩) (z_preV (k := 12) hK_ hE hw (mL hSh 0) (mK hSh 0) (by decide) rfl) rfl rfl hl.1 rfl (lv_room (Nat.le_of_ble_eq_true rfl)) dX12_page_49 ⟨Nat.le_of_ble_eq_true rfl, Nat.le_of_ble_eq_true rfl⟩) (fun v7 S8 H_ locs_ hp hw => ?_)
        obtain ⟨rfl, f9, rfl⟩ := hp
        exact z_iret (ty := .int) (v := (-5)) hcf hr rfl hlk hw (by simp [q_page, c_38]) dX12_page_52
      · refine lv_iload_n hx hb_ dX12_page_41 rfl (lv_at hl 5 rfl) ?_
        refine lv_iload_n hx hb_ dX12_page_42 rfl (lv_at hl 2 rfl) ?_
        refine lv_icmp_lt (tgt := 53) hx hb_ dX12_page_43 (by decide) (fun c_43 => ?_) (fun c_43 => ?_)
        · refine lv_iconst (v := 0) hx hb_ dX12_page_53 (by decide) ?_
          refine lv_istore (lv' := [(6, .int 0), (5, .int 1), (4, .int (nI (2 ^ f0))), (3, .int (nI (2 ^ f0))), (0, .ref (r_ 0)), (1, .int f_), (2, .int pq)]) hx hb_ dX12_page_54 hl (by decide) rfl (fun ls hl => ?_)
          have JA : ∀ (nA jA : Nat) (iA : Int32), iA = nI jA → jA ≤ 2 ^ f0 → 2 ^ f0 < jA + nA → ∀ (fh fd : Nat → Int32), (∀ k_, k_ < jA → (fh k_, fd k_) = mC f0 k_ 0) → ∀ (H_ : Heap) (locs_ : List Loc), zPw cD cy A_ s_.heap (zsA (zsA S_ (r_ 51) fh) (r_ 52) fd) H_ locs_ → ∀ ls : Array Slot, lv_has ls 8 [(0, .ref (r_ 0)), (1, .int f_), (2, .int pq), (3, .int (nI (2 ^ f0))), (4, .int (nI (2 ^ f0))), (5, .int 1), (6, .int iA)] → W p_ l e_ ({ frames := 1, cells := 0, slots := 0, locals := 21 } : Room) s_ m_ args_ below_ meth_ c_ H_ locs_ 0 0 (MQ below_ (va_Qi (fun (v_ : Int32) (S1 : zS) => v_ = q_page f_ pq) (zPost cD cy A_) A_) args_ s_ 0 0 A_) (F0 m_ 56 ls []) := by
            intro nA
            induction nA with
            | zero => intro jA iA _ hjA h_; exact absurd h_ (by omega)
            | succ nA ihA =>
              intro jA iA eiA hjA hmA fh fd hfd H_ locs_ hw ls hl
              refine lv_iload hx hb_ dX12_page_56 (lv_at hl 6 rfl) ?_
              refine lv_iload_n hx hb_ dX12_page_58 rfl (lv_at hl 3 rfl) ?_
              refine lv_icmp_ge (tgt := 85) hx hb_ dX12_page_59 (by decide) (fun c_59 => ?_) (fun c_59 => ?_)
              · have hjA : jA = 2 ^ f0 := by have := zn_ge eiA rfl (by omega) c_59; omega
                have JB : ∀ u_ t_, t_ + u_ = f0 → ∀ z_ dp : Int32, z_ = nI (2 ^ u_) → dp = nI (2 ^ t_) → ∀ fh fd : Nat → Int32, (∀ k_, k_ < 2 ^ f0 → (fh k_, fd k_) = mC f0 k_ t_) → ∀ (H_ : Heap) (locs_ : List Loc), zPw cD cy A_ s_.heap (zsA (zsA S_ (r_ 51) fh) (r_ 52) fd) H_ locs_ → ∀ ls : Array Slot, lv_has ls 8 [(0, .ref (r_ 0)), (1, .int f_), (2, .int pq), (3, .int (nI (2 ^ f0))), (4, .int z_), (5, .int dp)] → W p_ l e_ ({ frames := 1, cells := 0, slots := 0, locals := 21 } : Room) s_ m_ args_ below_ meth_ c_ H_ locs_ 0 0 (MQ below_ (va_Qi (fun (v_ : Int32) (S1 : zS) => v_ = q_page f_ pq) (zPost cD cy A_) A_) args_ s_ 0 0 A_) (F0 m_ 85 ls []) := by
                  intro u_
                  induction u_ with
                  | zero =>
                    intro t_ hut z_ dp ez ed fh fd hfd H_ locs_ hw ls hl
                    refine lv_iload hx hb_ dX12_page_85 (lv_at hl 4 rfl) ?_
                    refine lv_iconst (v := 1) hx hb_ dX12_page_87 (by decide) ?_
                    refine lv_icmp_le (tgt := 188) hx hb_ dX12_page_88 (by decide) (fun c_88 => ?_) (fun c_88 => absurd (by rw [ez]; decide) c_88)
                    refine lv_iconst (v := (-1)) hx hb_ dX12_page_188 (by decide) ?_
                    refine lv_istore (lv' := [(6, .int (-1)), (0, .ref (r_ 0)), (1, .int f_), (2, .int pq), (3, .int (nI (2 ^ f0))), (4, .int z_), (5, .int dp)]) hx hb_ dX12_page_189 hl (by decide) rfl (fun ls hl => ?_)
                    refine lv_iconst (v := 0) hx hb_ dX12_page_191 (by decide) ?_
                    refine lv_istore (lv' := [(7, .int 0), (6, .int (-1)), (0, .ref (r_ 0)), (1, .int f_), (2, .int pq), (3, .int (nI (2 ^ f0))), (4, .int z_), (5, .int dp)]) hx hb_ dX12_page_192 hl (by decide) rfl (fun ls hl => ?_)
                    have JD : ∀ (nD jD : Nat) (iD : Int32), iD = nI jD → jD ≤ 2 ^ f0 → 2 ^ f0 < jD + nD → ∀ (bs : Int32), bs = mFd f0 pq jD → ∀ (H_ : Heap) (locs_ : List Loc), zPw cD cy A_ s_.heap (zsA (zsA S_ (r_ 51) fh) (r_ 52) fd) H_ locs_ → ∀ ls : Array Slot, lv_has ls 8 [(0, .ref (r_ 0)), (1, .int f_), (2, .int pq), (3, .int (nI (2 ^ f0))), (6, .int bs), (7, .int iD)] → W p_ l e_ ({ frames := 1, cells := 0, slots := 0, locals := 21 } : Room) s_ m_ args_ below_ meth_ c_ H_ locs_ 0 0 (MQ below_ (va_Qi (fun (v_ : Int32) (S1 : zS) => v_ = q_page f_ pq) (zPost cD cy A_) A_) args_ s_ 0 0 A_) (F0 m_ 194 ls []) := by
                      intro nD
                      induction nD with
                      | zero => intro jD iD _ hjD h_; exact absurd h_ (by omega)
                      | succ nD ihD =>
                        intro jD iD eiD hjD hmD bs hbs H_ locs_ hw ls hl
                        refine lv_iload hx hb_ dX12_page_194 (lv_at hl 5 rfl) ?_
                        refine lv_iload_n hx hb_ dX12_page_196 rfl (lv_at hl 3 rfl) ?_
                        refine lv_icmp_ge (tgt := 221) hx hb_ dX12_page_197 (by decide) (fun c_197 => ?_) (fun c_197 => ?_)
                        · refine lv_iload hx hb_ dX12_page_221 (lv_at hl 4 rfl) ?_
                          exact z_iret (ty := .int) (v := bs) hcf hr rfl hlk hw (by have hj : jD = 2 ^ f0 := (by have := zn_ge eiD rfl (by omega) c_197; omega); obtain ⟨p0, hp0, ep⟩ := nI_of c_38; rw [q_page_in c_38 c_2 c_8 ef hf6 c_43, hbs, hj, ep]; exact mFd_all hf1 hf6 (by rw [ep, nI_ltI hp0 (by omega)] at c_43; exact c_43)) dX12_page_223
                        · have hlt : jD < 2 ^ f0 := zn_lt eiD rfl (by omega) c_197
                          refine lv_aload_n hx hb_ dX12_page_200 rfl (lv_at hl 0 rfl) ?_
                          refine z_get (k := 12) (i := 52) (j := 1252) (v := .ref (r_ 52)) (ref := "FoldedInHalfModel") (C := RX12) (T := TX12) (N := 56) hcf hK_ hw hin12 (mL hSh 0) (mK hSh 0) rfl (by decide) (by decide) rfl rfl (congrArg va_rf (mP hSh 52)) (List.mem_of_getElem? (i := 2) rfl) (fun _ h_ => h_) dX12_page_201 ?_
                          refine lv_iload hx hb_ dX12_page_204 (lv_at hl 5 rfl) ?_
                          refine z_iald (n := 64) hcf hK_ hw (mL hSh 52) (mK hSh 52) (mN hSh 52) (by rw [eiD]; exact vp_in_nI (by omega) (by decide)) dX12_page_206 ?_
                          refine z_topi (y := (fd jD)) (by rw [(show iD.toNatClampNeg = jD by rw [eiD]; exact nI_clamp (by omega))]; exact congrFun (show zA (zsA (zsA S_ (r_ 51) fh) (r_ 52) fd) (r_ 52) = fd from (zA_zsA _ _ _)) _) ?_
                          refine lv_iload_n hx hb_ dX12_page_207 rfl (lv_at hl 2 rfl) ?_
                          refine lv_icmp_ne (tgt := 215) hx hb_ dX12_page_208 (by decide) (fun c_208 => ?_) (fun c_208 => ?_)
                          · obtain ⟨i4, ei4⟩ : ∃ y_ : Int32, y_ = iD + 1 := ⟨_, rfl⟩
                            refine lv_iinc (v := i4) (lv' := [(7, .int i4), (0, .ref (r_ 0)), (1, .int f_), (2, .int pq), (3, .int (nI (2 ^ f0))), (6, .int bs)]) hx hb_ dX12_page_215 hl (k := 5) rfl (by rw [ei4]; rfl) (by decide) rfl (fun ls hl => ?_)
                            refine lv_goto (tgt := 194) hx hb_ dX12_page_218 (by decide) ?_
                            have hd : fd jD = (mC f0 jD f0).2 := by have := hfd jD hlt; rw [show t_ = f0 by omega] at this; rw [← this]
                            exact ihD (jD + 1) i4 (by rw [ei4, eiD]; exact nI_1 jD) hlt (by omega) _ (by rw [hbs]; exact (if_neg (by rw [← hd]; exact c_208)).symm) _ _ hw ls (lv_sub hl [1, 2, 3, 4, 5, 0] rfl)
                          · refine lv_iload hx hb_ dX12_page_211 (lv_at hl 5 rfl) ?_
                            refine lv_istore (lv' := [(6, .int iD), (0, .ref (r_ 0)), (1, .int f_), (2, .int pq), (3, .int (nI (2 ^ f0))), (7, .int iD)]) hx hb_ dX12_page_213 hl (by decide) rfl (fun ls hl => ?_)
                            obtain ⟨i4, ei4⟩ : ∃ y_ : Int32, y_ = iD + 1 := ⟨_, rfl⟩
                            refine lv_iinc (v := i4) (lv' := [(7, .int i4), (6, .int iD), (0, .ref (r_ 0)), (1, .int f_), (2, .int pq), (3, .int (nI (2 ^ f0)))]) hx hb_ dX12_page_215 hl (k := 5) rfl (by rw [ei4]; rfl) (by decide) rfl (fun ls hl => ?_)
                            refine lv_goto (tgt := 194) hx hb_ dX12_page_218 (by decide) ?_
                            have hd : fd jD = (mC f0 jD f0).2 := by have := hfd jD hlt; rw [show t_ = f0 by omega] at this; rw [← this]
                            exact ihD (jD + 1) i4 (by rw [ei4, eiD]; exact nI_1 jD) hlt (by omega) _ (by rw [eiD]; exact (if_pos (by rw [← hd]; exact c_208)).symm) _ _ hw ls (lv_sub hl [2, 3, 4, 5, 1, 0] rfl)
                    exact JD (2 ^ f0 + 1) 0 0 nI_0.symm (Nat.zero_le _) (by omega) (-1) rfl _ _ hw ls (lv_sub hl [2, 3, 4, 5, 1, 0] rfl)
                  | succ u_ ihB =>
                    intro t_ hut z_ dp ez ed fh fd hfd H_ locs_ hw ls hl
                    refine lv_iload hx hb_ dX12_page_85 (lv_at hl 4 rfl) ?_
                    refine lv_iconst (v := 1) hx hb_ dX12_page_87 (by decide) ?_
                    refine lv_icmp_le (tgt := 188) hx hb_ dX12_page_88 (by decide) (fun c_88 => absurd c_88 (by rw [ez, show (1 : Int32) = nI 1 from rfl, nI_leI (p2_lt (by omega)) (by decide)]; have := Nat.two_pow_pos u_; rw [Nat.pow_succ]; omega)) (fun c_88 => ?_)
                    refine lv_iconst (v := 0) hx hb_ dX12_page_91 (by decide) ?_
                    refine lv_istore (lv' := [(6, .int 0), (0, .ref (r_ 0)), (1, .int f_), (2, .int pq), (3, .int (nI (2 ^ f0))), (4, .int z_), (5, .int dp)]) hx hb_ dX12_page_92 hl (by decide) rfl (fun ls hl => ?_)
                    have JC : ∀ (nC jC : Nat) (iC : Int32), iC = nI jC → jC ≤ 2 ^ f0 → 2 ^ f0 < jC + nC → ∀ (fh fd : Nat → Int32), (∀ k_, k_ < jC → (fh k_, fd k_) = mC f0 k_ (t_ + 1)) → (∀ k_, jC ≤ k_ → k_ < 2 ^ f0 → (fh k_, fd k_) = mC f0 k_ t_) → ∀ (H_ : Heap) (locs_ : List Loc), zPw cD cy A_ s_.heap (zsA (zsA S_ (r_ 51) fh) (r_ 52) fd) H_ locs_ → ∀ ls : Array Slot, lv_has ls 8 [(0, .ref (r_ 0)), (1, .int f_), (2, .int pq), (3, .int (nI (2 ^ f0))), (4, .int z_), (5, .int dp), (6, .int iC)] → W p_ l e_ ({ frames := 1, cells := 0, slots := 0, locals := 21 } : Room) s_ m_ args_ below_ meth_ c_ H_ locs_ 0 0 (MQ below_ (va_Qi (fun (v_ : Int32) (S1 : zS) => v_ = q_page f_ pq) (zPost cD cy A_) A_) args_ s_ 0 0 A_) (F0 m_ 94 ls []) := by
                      intro nC
                      induction nC with
                      | zero => intro jC iC _ hjC h_; exact absurd h_ (by omega)
                      | succ nC ihC =>
                        intro jC iC eiC hjC hmC fh fd hlo hhi H_ locs_ hw ls hl
                        refine lv_iload hx hb_ dX12_page_94 (lv_at hl 6 rfl) ?_
                        refine lv_iload_n hx hb_ dX12_page_96 rfl (lv_at hl 3 rfl) ?_
                        refine lv_icmp_ge (tgt := 173) hx hb_ dX12_page_97 (by decide) (fun c_97 => ?_) (fun c_97 => ?_)
                        · refine lv_iload hx hb_ dX12_page_173 (lv_at hl 4 rfl) ?_
                          refine lv_iconst (v := 2) hx hb_ dX12_page_175 (by decide) ?_
                          refine lv_idiv hx hb_ dX12_page_176 (by decide) ?_
                          refine lv_istore (lv' := [(4, .int (z_ / 2)), (0, .ref (r_ 0)), (1, .int f_), (2, .int pq), (3, .int (nI (2 ^ f0))), (5, .int dp), (6, .int iC)]) hx hb_ dX12_page_177 hl (by decide) rfl (fun ls hl => ?_)
                          refine lv_iload hx hb_ dX12_page_179 (lv_at hl 5 rfl) ?_
                          refine lv_iconst (v := 2) hx hb_ dX12_page_181 (by decide) ?_
                          refine lv_imul hx hb_ dX12_page_182 ?_
                          refine lv_istore (lv' := [(5, .int (dp * 2)), (4, .int (z_ / 2)), (0, .ref (r_ 0)), (1, .int f_), (2, .int pq), (3, .int (nI (2 ^ f0))), (6, .int iC)]) hx hb_ dX12_page_183 hl (by decide) rfl (fun ls hl => ?_)
                          refine lv_goto (tgt := 85) hx hb_ dX12_page_185 (by decide) ?_
                          have hjC : jC = 2 ^ f0 := by have := zn_ge eiC rfl (by omega) c_97; omega
                          exact ihB (t_ + 1) (by omega) (z_ / 2) (dp * 2) (by rw [ez]; exact dv2 u_ (by omega)) (by rw [ed]; exact ml2 t_ (by omega)) fh fd (fun k_ hk => hlo k_ (by omega)) _ _ hw ls (lv_sub hl [2, 3, 4, 5, 1, 0] rfl)
                        · have hlt : jC < 2 ^ f0 := zn_lt eiC rfl (by omega) c_97
                          refine lv_aload_n hx hb_ dX12_page_100 rfl (lv_at hl 0 rfl) ?_
                          refine z_get (k := 12) (i := 51) (j := 1251) (v := .ref (r_ 51)) (ref := "FoldedInHalfModel") (C := RX12) (T := TX12) (N := 56) hcf hK_ hw hin12 (mL hSh 0) (mK hSh 0) rfl (by decide) (by decide) rfl rfl (congrArg va_rf (mP hSh 51)) (List.mem_of_getElem? (i := 1) rfl) (fun _ h_ => h_) dX12_page_101 ?_
                          refine lv_iload hx hb_ dX12_page_104 (lv_at hl 6 rfl) ?_
                          refine z_iald (n := 64) hcf hK_ hw (mL hSh 51) (mK hSh 51) (mN hSh 51) (by rw [eiC]; exact vp_in_nI (by omega) (by decide)) dX12_page_106 ?_
                          refine z_topi (y := (fh jC)) (by rw [(show iC.toNatClampNeg = jC by rw [eiC]; exact nI_clamp (by omega))]; exact congrFun (show zA (zsA (zsA S_ (r_ 51) fh) (r_ 52) fd) (r_ 51) = fh from ((zA_ne _ _ (mNe hSh (i := 51) (j := 52) (by decide) (by decide) (by decide))).trans (zA_zsA _ _ _))) _) ?_
                          refine lv_iload hx hb_ dX12_page_107 (lv_at hl 4 rfl) ?_
                          refine lv_iconst (v := 2) hx hb_ dX12_page_109 (by decide) ?_
                          refine lv_idiv hx hb_ dX12_page_110 (by decide) ?_
                          refine lv_icmp_lt (tgt := 155) hx hb_ dX12_page_111 (by decide) (fun c_111 => ?_) (fun c_111 => ?_)
                          · refine lv_aload_n hx hb_ dX12_page_155 rfl (lv_at hl 0 rfl) ?_
                            refine z_get (k := 12) (i := 52) (j := 1252) (v := .ref (r_ 52)) (ref := "FoldedInHalfModel") (C := RX12) (T := TX12) (N := 56) hcf hK_ hw hin12 (mL hSh 0) (mK hSh 0) rfl (by decide) (by decide) rfl rfl (congrArg va_rf (mP hSh 52)) (List.mem_of_getElem? (i := 2) rfl) (fun _ h_ => h_) dX12_page_156 ?_
                            refine lv_iload hx hb_ dX12_page_159 (lv_at hl 6 rfl) ?_
                            refine lv_dup2_11 hx hb_ dX12_page_161 rfl rfl ?_
                            refine z_iald (n := 64) hcf hK_ hw (mL hSh 52) (mK hSh 52) (mN hSh 52) (by rw [eiC]; exact vp_in_nI (by omega) (by decide)) dX12_page_162 ?_
                            refine z_topi (y := (fd jC)) (by rw [(show iC.toNatClampNeg = jC by rw [eiC]; exact nI_clamp (by omega))]; exact congrFun (show zA (zsA (zsA S_ (r_ 51) fh) (r_ 52) fd) (r_ 52) = fd from (zA_zsA _ _ _)) _) ?_
                            refine lv_iload hx hb_ dX12_page_163 (lv_at hl 5 rfl) ?_
                            refine lv_iadd hx hb_ dX12_page_165 ?_
                            refine z_iast (n := 64) hcf hK_ hw (mL hSh 52) (mK hSh 52) (mN hSh 52) (by rw [eiC]; exact vp_in_nI (by omega) (by decide)) dX12_page_166 (fun H_ locs_ hw => ?_)
                            obtain ⟨f10, ef10⟩ : ∃ zz, zz = (upd (zA (zsA (zsA S_ (r_ 51) fh) (r_ 52) fd) (r_ 52)) (iC : Int32).toNatClampNeg ((fd jC) + dp)) := ⟨_, rfl⟩
                            rw [← ef10] at hw
                            have hf10 : f10 = upd fd jC ((fd jC) + dp) := by rw [ef10, (show iC.toNatClampNeg = jC by rw [eiC]; exact nI_clamp (by omega)), show zA (zsA (zsA S_ (r_ 51) fh) (r_ 52) fd) (r_ 52) = _ from (zA_zsA _ _ _)]
                            rw [zsA_zsA] at hw
                            obtain ⟨i3, ei3⟩ : ∃ y_ : Int32, y_ = iC + 1 := ⟨_, rfl⟩
                            refine lv_iinc (v := i3) (lv' := [(6, .int i3), (0, .ref (r_ 0)), (1, .int f_), (2, .int pq), (3, .int (nI (2 ^ f0))), (4, .int z_), (5, .int dp)]) hx hb_ dX12_page_167 hl (k := 6) rfl (by rw [ei3]; rfl) (by decide) rfl (fun ls hl => ?_)
                            refine lv_goto (tgt := 94) hx hb_ dX12_page_170 (by decide) ?_
                            refine ihC (jC + 1) i3 (by rw [ei3, eiC]; exact nI_1 jC) hlt (by omega) fh f10 (fun k_ hk => ?_) (fun k_ hk hk2 => ?_) _ _ hw ls (lv_sub hl [1, 2, 3, 4, 5, 6, 0] rfl)
                            · rcases Nat.lt_or_ge k_ jC with q_ | q_
                              · rw [hf10, upd_no _ _ (by omega)]; exact hlo k_ q_
                              · obtain rfl : k_ = jC := by omega
                                have hc := hhi k_ (Nat.le_refl _) hlt
                                show _ = stp (nI (2 ^ (f0 - t_))) (nI (2 ^ t_)) (mC f0 k_ t_)
                                rw [hf10, upd_at, ← hc, show f0 - t_ = u_ + 1 by omega, ← ez, ← ed]; exact (if_pos c_111).symm
                            · rw [hf10, upd_no _ _ (by omega)]; exact hhi k_ (by omega) hk2
                          · refine lv_aload_n hx hb_ dX12_page_114 rfl (lv_at hl 0 rfl) ?_
                            refine z_get (k := 12) (i := 51) (j := 1251) (v := .ref (r_ 51)) (ref := "FoldedInHalfModel") (C := RX12) (T := TX12) (N := 56) hcf hK_ hw hin12 (mL hSh 0) (mK hSh 0) rfl (by decide) (by decide) rfl rfl (congrArg va_rf (mP hSh 51)) (List.mem_of_getElem? (i := 1) rfl) (fun _ h_ => h_) dX12_page_115 ?_
                            refine lv_iload hx hb_ dX12_page_118 (lv_at hl 6 rfl) ?_
                            refine lv_iload hx hb_ dX12_page_120 (lv_at hl 4 rfl) ?_
                            refine lv_iconst (v := 1) hx hb_ dX12_page_122 (by decide) ?_
                            refine lv_isub hx hb_ dX12_page_123 ?_
                            refine lv_aload_n hx hb_ dX12_page_124 rfl (lv_at hl 0 rfl) ?_
                            refine z_get (k := 12) (i := 51) (j := 1251) (v := .ref (r_ 51)) (ref := "FoldedInHalfModel") (C := RX12) (T := TX12) (N := 56) hcf hK_ hw hin12 (mL hSh 0) (mK hSh 0) rfl (by decide) (by decide) rfl rfl (congrArg va_rf (mP hSh 51)) (List.mem_of_getElem? (i := 1) rfl) (fun _ h_ => h_) dX12_page_125 ?_
                            refine lv_iload hx hb_ dX12_page_128 (lv_at hl 6 rfl) ?_
                            refine z_iald (n := 64) hcf hK_ hw (mL hSh 51) (mK hSh 51) (mN hSh 51) (by rw [eiC]; exact vp_in_nI (by omega) (by decide)) dX12_page_130 ?_
                            refine z_topi (y := (fh jC)) (by rw [(show iC.toNatClampNeg = jC by rw [eiC]; exact nI_clamp (by omega))]; exact congrFun (show zA (zsA (zsA S_ (r_ 51) fh) (r_ 52) fd) (r_ 51) = fh from ((zA_ne _ _ (mNe hSh (i := 51) (j := 52) (by decide) (by decide) (by decide))).trans (zA_zsA _ _ _))) _) ?_
                            refine lv_isub hx hb_ dX12_page_131 ?_
                            refine z_iast (n := 64) hcf hK_ hw (mL hSh 51) (mK hSh 51) (mN hSh 51) (by rw [eiC]; exact vp_in_nI (by omega) (by decide)) dX12_page_132 (fun H_ locs_ hw => ?_)
                            obtain ⟨f11, ef11⟩ : ∃ zz, zz = (upd (zA (zsA (zsA S_ (r_ 51) fh) (r_ 52) fd) (r_ 51)) (iC : Int32).toNatClampNeg ((z_ - 1) - (fh jC))) := ⟨_, rfl⟩
                            rw [← ef11] at hw
                            have hf11 : f11 = upd fh jC ((z_ - 1) - (fh jC)) := by rw [ef11, (show iC.toNatClampNeg = jC by rw [eiC]; exact nI_clamp (by omega)), show zA (zsA (zsA S_ (r_ 51) fh) (r_ 52) fd) (r_ 51) = _ from ((zA_ne _ _ (mNe hSh (i := 51) (j := 52) (by decide) (by decide) (by decide))).trans (zA_zsA _ _ _))]
                            rw [zsA_comm _ _ _ (mNe hSh (i := 52) (j := 51) (by decide) (by decide) (by decide)), zsA_zsA] at hw
                            refine lv_aload_n hx hb_ dX12_page_133 rfl (lv_at hl 0 rfl) ?_
                            refine z_get (k := 12) (i := 52) (j := 1252) (v := .ref (r_ 52)) (ref := "FoldedInHalfModel") (C := RX12) (T := TX12) (N := 56) hcf hK_ hw hin12 (mL hSh 0) (mK hSh 0) rfl (by decide) (by decide) rfl rfl (congrArg va_rf (mP hSh 52)) (List.mem_of_getElem? (i := 2) rfl) (fun _ h_ => h_) dX12_page_134 ?_
                            refine lv_iload hx hb_ dX12_page_137 (lv_at hl 6 rfl) ?_
                            refine lv_iload hx hb_ dX12_page_139 (lv_at hl 5 rfl) ?_
                            refine lv_iconst (v := 1) hx hb_ dX12_page_141 (by decide) ?_
                            refine lv_isub hx hb_ dX12_page_142 ?_
                            refine lv_aload_n hx hb_ dX12_page_143 rfl (lv_at hl 0 rfl) ?_
                            refine z_get (k := 12) (i := 52) (j := 1252) (v := .ref (r_ 52)) (ref := "FoldedInHalfModel") (C := RX12) (T := TX12) (N := 56) hcf hK_ hw hin12 (mL hSh 0) (mK hSh 0) rfl (by decide) (by decide) rfl rfl (congrArg va_rf (mP hSh 52)) (List.mem_of_getElem? (i := 2) rfl) (fun _ h_ => h_) dX12_page_144 ?_
                            refine lv_iload hx hb_ dX12_page_147 (lv_at hl 6 rfl) ?_
                            refine z_iald (n := 64) hcf hK_ hw (mL hSh 52) (mK hSh 52) (mN hSh 52) (by rw [eiC]; exact vp_in_nI (by omega) (by decide)) dX12_page_149 ?_
                            refine z_topi (y := (fd jC)) (by rw [(show iC.toNatClampNeg = jC by rw [eiC]; exact nI_clamp (by omega))]; exact congrFun (show zA (zsA (zsA S_ (r_ 51) f11) (r_ 52) fd) (r_ 52) = fd from (zA_zsA _ _ _)) _) ?_
                            refine lv_isub hx hb_ dX12_page_150 ?_
                            refine z_iast (n := 64) hcf hK_ hw (mL hSh 52) (mK hSh 52) (mN hSh 52) (by rw [eiC]; exact vp_in_nI (by omega) (by decide)) dX12_page_151 (fun H_ locs_ hw => ?_)
                            obtain ⟨f12, ef12⟩ : ∃ zz, zz = (upd (zA (zsA (zsA S_ (r_ 51) f11) (r_ 52) fd) (r_ 52)) (iC : Int32).toNatClampNeg ((dp - 1) - (fd jC))) := ⟨_, rfl⟩
                            rw [← ef12] at hw
                            have hf12 : f12 = upd fd jC ((dp - 1) - (fd jC)) := by rw [ef12, (show iC.toNatClampNeg = jC by rw [eiC]; exact nI_clamp (by omega)), show zA (zsA (zsA S_ (r_ 51) f11) (r_ 52) fd) (r_ 52) = _ from (zA_zsA _ _ _)]
                            rw [zsA_zsA] at hw
                            refine lv_goto (tgt := 167) hx hb_ dX12_page_152 (by decide) ?_
                            obtain ⟨i3, ei3⟩ : ∃ y_ : Int32, y_ = iC + 1 := ⟨_, rfl⟩
                            refine lv_iinc (v := i3) (lv' := [(6, .int i3), (0, .ref (r_ 0)), (1, .int f_), (2, .int pq), (3, .int (nI (2 ^ f0))), (4, .int z_), (5, .int dp)]) hx hb_ dX12_page_167 hl (k := 6) rfl (by rw [ei3]; rfl) (by decide) rfl (fun ls hl => ?_)
                            refine lv_goto (tgt := 94) hx hb_ dX12_page_170 (by decide) ?_
                            refine ihC (jC + 1) i3 (by rw [ei3, eiC]; exact nI_1 jC) hlt (by omega) f11 f12 (fun k_ hk => ?_) (fun k_ hk hk2 => ?_) _ _ hw ls (lv_sub hl [1, 2, 3, 4, 5, 6, 0] rfl)
                            · rcases Nat.lt_or_ge k_ jC with q_ | q_
                              · rw [hf11, upd_no _ _ (by omega)]; rw [hf12, upd_no _ _ (by omega)]; exact hlo k_ q_
                              · obtain rfl : k_ = jC := by omega
                                have hc := hhi k_ (Nat.le_refl _) hlt
                                show _ = stp (nI (2 ^ (f0 - t_))) (nI (2 ^ t_)) (mC f0 k_ t_)
                                rw [hf11, hf12, upd_at, upd_at, ← hc, show f0 - t_ = u_ + 1 by omega, ← ez, ← ed]; exact (if_neg c_111).symm
                            · rw [hf11, upd_no _ _ (by omega)]; rw [hf12, upd_no _ _ (by omega)]; exact hhi k_ (by omega) hk2
                    exact JC (2 ^ f0 + 1) 0 0 nI_0.symm (Nat.zero_le _) (by omega) fh fd (fun k_ h_ => absurd h_ (Nat.not_lt_zero k_)) (fun k_ _ h_ => hfd k_ h_) _ _ hw ls (lv_sub hl [1, 2, 3, 4, 5, 6, 0] rfl)
                exact JB f0 0 (by omega) (nI (2 ^ f0)) 1 rfl rfl fh fd (fun k_ hk => hfd k_ (by omega)) _ _ hw ls (lv_sub hl [0, 1, 2, 3, 4, 5] rfl)
              · have hlt : jA < 2 ^ f0 := zn_lt eiA rfl (by omega) c_59
                refine lv_aload_n hx hb_ dX12_page_62 rfl (lv_at hl 0 rfl) ?_
                refine z_get (k := 12) (i := 51) (j := 1251) (v := .ref (r_ 51)) (ref := "FoldedInHalfModel") (C := RX12) (T := TX12) (N := 56) hcf hK_ hw hin12 (mL hSh 0) (mK hSh 0) rfl (by decide) (by decide) rfl rfl (congrArg va_rf (mP hSh 51)) (List.mem_of_getElem? (i := 1) rfl) (fun _ h_ => h_) dX12_page_63 ?_
                refine lv_iload hx hb_ dX12_page_66 (lv_at hl 6 rfl) ?_
                refine lv_iload hx hb_ dX12_page_68 (lv_at hl 6 rfl) ?_
                refine z_iast (n := 64) hcf hK_ hw (mL hSh 51) (mK hSh 51) (mN hSh 51) (by rw [eiA]; exact vp_in_nI (by omega) (by decide)) dX12_page_70 (fun H_ locs_ hw => ?_)
                obtain ⟨f13, ef13⟩ : ∃ zz, zz = (upd (zA (zsA (zsA S_ (r_ 51) fh) (r_ 52) fd) (r_ 51)) (iA : Int32).toNatClampNeg iA) := ⟨_, rfl⟩
                rw [← ef13] at hw
                have hf13 : f13 = upd fh jA iA := by rw [ef13, (show iA.toNatClampNeg = jA by rw [eiA]; exact nI_clamp (by omega)), show zA (zsA (zsA S_ (r_ 51) fh) (r_ 52) fd) (r_ 51) = _ from ((zA_ne _ _ (mNe hSh (i := 51) (j := 52) (by decide) (by decide) (by decide))).trans (zA_zsA _ _ _))]
                rw [zsA_comm _ _ _ (mNe hSh (i := 52) (j := 51) (by decide) (by decide) (by decide)), zsA_zsA] at hw
                refine lv_aload_n hx hb_ dX12_page_71 rfl (lv_at hl 0 rfl) ?_
                refine z_get (k := 12) (i := 52) (j := 1252) (v := .ref (r_ 52)) (ref := "FoldedInHalfModel") (C := RX12) (T := TX12) (N := 56) hcf hK_ hw hin12 (mL hSh 0) (mK hSh 0) rfl (by decide) (by decide) rfl rfl (congrArg va_rf (mP hSh 52)) (List.mem_of_getElem? (i := 2) rfl) (fun _ h_ => h_) dX12_page_72 ?_
                refine lv_iload hx hb_ dX12_page_75 (lv_at hl 6 rfl) ?_
                refine lv_iconst (v := 0) hx hb_ dX12_page_77 (by decide) ?_
                refine z_iast (n := 64) hcf hK_ hw (mL hSh 52) (mK hSh 52) (mN hSh 52) (by rw [eiA]; exact vp_in_nI (by omega) (by decide)) dX12_page_78 (fun H_ locs_ hw => ?_)
                obtain ⟨f14, ef14⟩ : ∃ zz, zz = (upd (zA (zsA (zsA S_ (r_ 51) f13) (r_ 52) fd) (r_ 52)) (iA : Int32).toNatClampNeg 0) := ⟨_, rfl⟩
                rw [← ef14] at hw
                have hf14 : f14 = upd fd jA 0 := by rw [ef14, (show iA.toNatClampNeg = jA by rw [eiA]; exact nI_clamp (by omega)), show zA (zsA (zsA S_ (r_ 51) f13) (r_ 52) fd) (r_ 52) = _ from (zA_zsA _ _ _)]
                rw [zsA_zsA] at hw
                obtain ⟨i2_, ei2⟩ : ∃ y_ : Int32, y_ = iA + 1 := ⟨_, rfl⟩
                refine lv_iinc (v := i2_) (lv' := [(6, .int i2_), (0, .ref (r_ 0)), (1, .int f_), (2, .int pq), (3, .int (nI (2 ^ f0))), (4, .int (nI (2 ^ f0))), (5, .int 1)]) hx hb_ dX12_page_79 hl (k := 6) rfl (by rw [ei2]; rfl) (by decide) rfl (fun ls hl => ?_)
                refine lv_goto (tgt := 56) hx hb_ dX12_page_82 (by decide) ?_
                refine ihA (jA + 1) i2_ (by rw [ei2, eiA]; exact nI_1 jA) hlt (by omega) f13 f14 (fun k_ hk => ?_) _ _ hw ls (lv_sub hl [1, 2, 3, 4, 5, 6, 0] rfl)
                rcases Nat.lt_or_ge k_ jA with q_ | q_
                · rw [hf13, hf14, upd_no _ _ (by omega), upd_no _ _ (by omega)]; exact hfd k_ q_
                · obtain rfl : k_ = jA := by omega
                  rw [hf13, hf14, upd_at, upd_at, eiA]; rfl
          exact JA (2 ^ f0 + 1) 0 0 nI_0.symm (Nat.zero_le _) (by omega) (zA S_ (r_ 51)) (zA S_ (r_ 52)) (fun k_ h_ => absurd h_ (Nat.not_lt_zero k_)) _ _ (by rw [zsA_self, zsA_self]; exact hw) ls (lv_sub hl [4, 5, 6, 3, 2, 1, 0] rfl)
        · refine lv_aload_n hx hb_ dX12_page_46 rfl (lv_at hl 3 rfl) ?_
          refine lv_bipush (v := (-5)) hx hb_ dX12_page_47 (by decide) ?_
          refine z_ki hw hA (va_runV (As := [.int (-5)]) (rest := []) hcf (c_X12_no l cD cy _ r_ S_ hSh (-5) (by decide) (by decide)) (cwV 1 hts gX12_page_X12_no rfl rfl rfl (by decide +kernel) ⟨Nat.le_of_ble_eq_true rfl, Nat.le_of_ble_eq_true rfl⟩) (z_preV (k := 12) hK_ hE hw (mL hSh 0) (mK hSh 0) (by decide) rfl) rfl rfl hl.1 rfl (lv_room (Nat.le_of_ble_eq_true rfl)) dX12_page_49 ⟨Nat.le_of_ble_eq_true rfl, Nat.le_of_ble_eq_true rfl⟩) (fun v15 S16 H_ locs_ hp hw => ?_)
          obtain ⟨rfl, f17, rfl⟩ := hp
          exact z_iret (ty := .int) (v := (-5)) hcf hr rfl hlk hw (by rw [q_page_out c_38 c_2 c_8 ef hf6 c_43]) dX12_page_52
    · refine lv_aload_n hx hb_ dX12_page_11 rfl (lv_at hl 0 rfl) ?_
      refine lv_iload_n hx hb_ dX12_page_12 rfl (lv_at hl 2 rfl) ?_
      refine lv_if_ge (tgt := 21) hx hb_ dX12_page_13 (by decide) (fun c_13 => ?_) (fun c_13 => ?_)
      · refine lv_bipush (v := (-6)) hx hb_ dX12_page_21 (by decide) ?_
        refine z_ki hw hA (va_runV (As := [.int (-6)]) (rest := []) hcf (c_X12_no l cD cy _ r_ S_ hSh (-6) (by decide) (by decide)) (cwV 1 hts gX12_page_X12_no rfl rfl rfl (by decide +kernel) ⟨Nat.le_of_ble_eq_true rfl, Nat.le_of_ble_eq_true rfl⟩) (z_preV (k := 12) hK_ hE hw (mL hSh 0) (mK hSh 0) (by decide) rfl) rfl rfl hl.1 rfl (lv_room (Nat.le_of_ble_eq_true rfl)) dX12_page_23 ⟨Nat.le_of_ble_eq_true rfl, Nat.le_of_ble_eq_true rfl⟩) (fun v18 S19 H_ locs_ hp hw => ?_)
        obtain ⟨rfl, f20, rfl⟩ := hp
        exact z_iret (ty := .int) (v := (-6)) hcf hr rfl hlk hw (by simp [q_page, c_2, c_8, c_13]) dX12_page_26
      · refine lv_bipush (v := (-5)) hx hb_ dX12_page_16 (by decide) ?_
        refine lv_goto (tgt := 23) hx hb_ dX12_page_18 (by decide) ?_
        refine z_ki hw hA (va_runV (As := [.int (-5)]) (rest := []) hcf (c_X12_no l cD cy _ r_ S_ hSh (-5) (by decide) (by decide)) (cwV 1 hts gX12_page_X12_no rfl rfl rfl (by decide +kernel) ⟨Nat.le_of_ble_eq_true rfl, Nat.le_of_ble_eq_true rfl⟩) (z_preV (k := 12) hK_ hE hw (mL hSh 0) (mK hSh 0) (by decide) rfl) rfl rfl hl.1 rfl (lv_room (Nat.le_of_ble_eq_true rfl)) dX12_page_23 ⟨Nat.le_of_ble_eq_true rfl, Nat.le_of_ble_eq_true rfl⟩) (fun v21 S22 H_ locs_ hp hw => ?_)
        obtain ⟨rfl, f23, rfl⟩ := hp
        exact z_iret (ty := .int) (v := (-5)) hcf hr rfl hlk hw (by simp [q_page, c_2, c_8, c_13]) dX12_page_26
