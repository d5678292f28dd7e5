/-! division, sound -/
def DvR (k : Nat) (g : Nat → Int) (v : Int) (r : Rs) : Prop := match r with
  | .inl f => wfL k f ∧ ev g f = v
  | .inr z => z.1 ≤ v ∧ v ≤ z.2
section DIV
variable {T : Tt} {ad : Nat → Nat} {gh : zS → Int → Int} {XI : zS → Prop} {S0 : zS} {ρ0 : Nat → Nat} {xs : Nat → Nat} {cD : va_G} {cy : Nat → ClassId} {A : Nat → Prop}
variable {p : Program} {l : Launch} {e : Env} {R : Room} {s : State} {m : MethodId} {args : Array Value} {below : List Frame} {meth : Method} {c : Code} {Q : State → Prop} {cc : ByteArray} {nL : Nat} {Ts : List Cond} {own : String}
variable {L : Lc} {K : List Vl} {E E' : En} {n : Nn} {pc pc' : Nat} {sc : Suc} {g : Nat → Int} {τ : Nat → Option Nat} {S : zS} {ρ : Nat → Nat}
theorem dvE_ok {x q r : Lin} {k : Int} (h : SatE T ad gh XI S0 ρ0 E g τ S ρ) (w : wfL E.1.length x) (hx : 0 ≤ ev g x) (hk : 2 ≤ k) (hd : dvE E x k = (E', q, r)) : ∃ g', Xt E E' g g' τ τ ∧ SatE T ad gh XI S0 ρ0 E' g' τ S ρ ∧ (wfL E'.1.length q ∧ ev g' q = Int.tdiv (ev g x) k) ∧ (wfL E'.1.length r ∧ ev g' r = Int.tmod (ev g x) k) := by
  unfold dvE at hd
  split at hd
  · rename_i a b ha hb
    cases hd
    have m1 := h.2.2.2.1 _ (lkM_ok ha)
    have m2 := h.2.2.2.1 _ (lkM_ok hb)
    have e1 : Int.tdiv (ev g x) (ev g (lc k)) = ev g q := m1.2.2.1
    have e2 : Int.tmod (ev g x) (ev g (lc k)) = ev g r := m2.2.2.1
    rw [ev_lc] at e1 e2
    exact ⟨g, Xt.refl, h, ⟨m1.2.1, e1.symm⟩, m2.2.1, e2.symm⟩
  · dsimp only at hd
    have hr := rg_ok h.1 w
    generalize rg E.1 x = z at hd hr
    obtain ⟨lo, hi⟩ := z
    dsimp only at hd hr
    have q1 : Int.tdiv (ev g x) k = ev g x / k := Int.tdiv_eq_ediv_of_nonneg hx
    have q2 : Int.tmod (ev g x) k = ev g x % k := Int.tmod_eq_emod_of_nonneg hx
    have q3 : k * (ev g x / k) + ev g x % k = ev g x := Int.mul_ediv_add_emod (ev g x) k
    have b1 : lo / k ≤ ev g x / k := Int.ediv_le_ediv (by omega) hr.1
    have b2 : ev g x / k ≤ hi / k := Int.ediv_le_ediv (by omega) hr.2
    have b3 : 0 ≤ ev g x % k := Int.emod_nonneg _ (by omega)
    have b4 : ev g x % k < k := Int.emod_lt_of_pos _ (by omega)
    have h1 := h.fresh (x := (lo / k, hi / k)) (n := ev g x / k) ⟨b1, b2⟩
    have h2 := h1.fresh (x := (0, k - 1)) (n := ev g x % k) ⟨b3, by dsimp only; omega⟩
    have hX := (Xt_eI (E := E) (g := g) (τ := τ) (x := (lo / k, hi / k)) (n := ev g x / k)).trans (Xt_eI (E := eI E (lo / k, hi / k)) (g := gup g E.1.length (ev g x / k)) (τ := τ) (x := (0, k - 1)) (n := ev g x % k))
    have len1 : (eI E (lo / k, hi / k)).1.length = E.1.length + 1 := by simp [eI]
    have len2 : (eI (eI E (lo / k, hi / k)) (0, k - 1)).1.length = E.1.length + 2 := by simp [eI]
    generalize hg2 : gup (gup g E.1.length (ev g x / k)) (eI E (lo / k, hi / k)).1.length (ev g x % k) = g2 at h2 hX
    have xf := hX.f w
    have wq : wfL (eI (eI E (lo / k, hi / k)) (0, k - 1)).1.length (lsy E.1.length) := wf_lsy (by omega)
    have wr : wfL (eI (eI E (lo / k, hi / k)) (0, k - 1)).1.length (lsy (E.1.length + 1)) := wf_lsy (by omega)
    have eq : ev g2 (lsy E.1.length) = Int.tdiv (ev g x) k := by
      rw [ev_lsy, ← hg2, gup_lt (by omega), gup_self, q1]
    have er : ev g2 (lsy (E.1.length + 1)) = Int.tmod (ev g x) k := by
      rw [ev_lsy, ← hg2, ← len1, gup_self, q2]
    have h3 := h2.memo (m := (0, [x, lc k], lsy E.1.length)) ⟨fun a ha => by
      rcases List.mem_cons.mp ha with rfl | ha
      · exact xf.1
      · rcases List.mem_singleton.mp ha with rfl; exact wf_lc, wq, by
      show Int.tdiv (ev g2 x) (ev g2 (lc k)) = ev g2 (lsy E.1.length)
      rw [ev_lc, xf.2, eq], fun reg hreg => by simp [gfp] at hreg⟩
    have h4 := h3.memo (m := (1, [x, lc k], lsy (E.1.length + 1))) ⟨fun a ha => by
      rcases List.mem_cons.mp ha with rfl | ha
      · exact xf.1
      · rcases List.mem_singleton.mp ha with rfl; exact wf_lc, wr, by
      show Int.tmod (ev g2 x) (ev g2 (lc k)) = ev g2 (lsy (E.1.length + 1))
      rw [ev_lc, xf.2, er], fun reg hreg => by simp [gfp] at hreg⟩
    have w1 := wf_lsc (k := k) wq
    have h5 := h4.facts (F := lsub (lsub x (lsc k (lsy E.1.length))) (lsy (E.1.length + 1)) :: lsub (ladd (lsc k (lsy E.1.length)) (lsy (E.1.length + 1))) x :: (match ile 1 lo with
      | true => [lpl (lsub x (lsy E.1.length)) (Int.negSucc 0)]
      | false => [])) (fun f hf => by
      rcases List.mem_cons.mp hf with rfl | hf
      · exact ⟨wf_lsub (wf_lsub xf.1 w1) wr, by rw [ev_lsub, ev_lsub, ev_lsc, eq, er, xf.2, q1, q2]; omega⟩
      · rcases List.mem_cons.mp hf with rfl | hf
        · exact ⟨wf_lsub (wf_ladd w1 wr) xf.1, by rw [ev_lsub, ev_ladd, ev_lsc, eq, er, xf.2, q1, q2]; omega⟩
        · cases hlo : ile 1 lo with
          | false => rw [hlo] at hf; exact absurd hf List.not_mem_nil
          | true =>
            rw [hlo] at hf
            have hlo := ile_iff.mp hlo
            rw [List.mem_singleton.mp hf]
            have d1 : 2 * (ev g x / k) ≤ k * (ev g x / k) := Int.mul_le_mul_of_nonneg_right hk (Int.ediv_nonneg hx (by omega))
            have n1 : Int.negSucc 0 = (-1 : Int) := rfl
            refine ⟨wf_lpl (wf_lsub xf.1 wq), ?_⟩
            rw [ev_lpl, ev_lsub, eq, xf.2, q1, n1]
            omega)
    cases hd
    refine ⟨g2, ⟨?_, hX.2.1, ?_, hX.2.2.2⟩, h5, ⟨?_, eq⟩, ?_, er⟩
    · rw [eFs_len]; exact hX.1
    · rw [eFs_R]; exact hX.2.2.1
    · rw [eFs_len]; exact wq
    · rw [eFs_len]; exact wr
theorem oDiv_int {rem : Bool} {x y : Lin} {lo hi : Int} {r : Rs} (h : SatE T ad gh XI S0 ρ0 E g τ S ρ) (wx : wfL E.1.length x) (wy : wfL E.1.length y) (hd : oDiv rem x y E lo hi = some (E', r)) : (1 ≤ ev g y ∧ ev g y ≤ hi ∧ lo ≤ ev g x ∧ ev g x ≤ hi) ∧ ∃ g', Xt E E' g g' τ τ ∧ SatE T ad gh XI S0 ρ0 E' g' τ S ρ ∧ (r = .inr (lo, hi) ∨ DvR E'.1.length g' (if rem then Int.tmod (ev g x) (ev g y) else Int.tdiv (ev g x) (ev g y)) r) := by
  unfold oDiv at hd
  have hrx := rg_ok h.1 wx
  have hry := rg_ok h.1 wy
  generalize rg E.1 x = zx at hd hrx
  generalize rg E.1 y = zy at hd hry
  obtain ⟨xl, xh⟩ := zx
  obtain ⟨yl, yh⟩ := zy
  dsimp only at hd hrx hry
  split at hd
  · rename_i e1 e2
    have e1 := ile_iff.mp e1
    simp only [Bool.and_eq_true, ile_iff] at e2
    refine ⟨⟨by omega, by omega, by omega, by omega⟩, ?_⟩
    split at hd
    · rename_i e3 e4
      have e3 := ile_iff.mp e3
      simp only [Bool.and_eq_true, ile_iff] at e4
      have ey : ev g y = y.1 := isc_ev e4.1
      generalize hz : dvE E x y.1 = z at hd
      obtain ⟨E2, q, r2⟩ := z
      obtain ⟨g', k1, k2, k3, k4⟩ := dvE_ok h wx (by omega) e4.2 hz
      cases hd
      refine ⟨g', k1, k2, Or.inr ?_⟩
      rw [ey]
      cases rem
      · exact k3
      · exact k4
    · rename_i e3 _
      have e3 := ile_iff.mp e3
      have hx0 : 0 ≤ ev g x := by omega
      have m1 := Int.emod_nonneg (ev g x) (show ev g y ≠ 0 by omega)
      have m2 := Int.emod_lt_of_pos (ev g x) (show 0 < ev g y by omega)
      have m3 := Int.ediv_nonneg hx0 (show 0 ≤ ev g y by omega)
      have m4 : ev g x / ev g y ≤ ev g x := Int.ediv_le_self (ev g y) hx0
      split at hd
      · cases hd
        rw [Int.tmod_eq_emod_of_nonneg hx0]
        have hX := Xt_eI (E := E) (g := g) (τ := τ) (x := (0, yh - 1)) (n := ev g x % ev g y)
        have h1 := h.fresh (x := (0, yh - 1)) (n := ev g x % ev g y) ⟨m1, by show ev g x % ev g y ≤ yh - 1; omega⟩
        have wx1 := hX.f wx
        have wy1 := hX.f wy
        have wr : wfL (eI E (0, yh - 1)).1.length (lsy E.1.length) := wf_lsy (by simp [eI])
        have er : ev (gup g E.1.length (ev g x % ev g y)) (lsy E.1.length) = ev g x % ev g y := by rw [ev_lsy, gup_self]
        have h2 := h1.memo (m := (1, [x, y], lsy E.1.length)) ⟨fun a ha => by
          simp only [List.mem_cons, List.not_mem_nil, or_false] at ha
          rcases ha with rfl | rfl
          · exact wx1.1
          · exact wy1.1, wr, by
          show Int.tmod (ev _ x) (ev _ y) = ev _ (lsy E.1.length)
          rw [wx1.2, wy1.2, er, Int.tmod_eq_emod_of_nonneg hx0], fun reg hr => by simp [gfp] at hr⟩
        have h3 := SatE.facts (F := [lpl (lsub y (lsy E.1.length)) (Int.negSucc 0)]) h2 (fun f hf => by
          rw [List.mem_singleton.mp hf]
          refine ⟨wf_lpl (wf_lsub wy1.1 wr), ?_⟩
          rw [ev_lpl, ev_lsub, wy1.2, er]
          have : Int.negSucc 0 = (-1 : Int) := rfl
          omega)
        refine ⟨_, ⟨?_, hX.2.1, ?_, hX.2.2.2⟩, h3, Or.inr ⟨?_, er⟩⟩
        · rw [eFs_len]; exact hX.1
        · rw [eFs_R]; exact hX.2.2.1
        · rw [eFs_len]; exact wr
      · cases hd
        refine ⟨g, Xt.refl, h, Or.inr ?_⟩
        rw [Int.tdiv_eq_ediv_of_nonneg hx0, Int.tmod_eq_emod_of_nonneg hx0]
        exact ⟨m3, by dsimp only; simp only [Bool.false_eq_true, if_false]; omega⟩
    · cases hd
      refine ⟨g, Xt.refl, h, ?_⟩
      cases rem
      · exact Or.inl rfl
      · refine Or.inr ?_
        have m1 := tmod_bounds (a := ev g x) (M := ev g y) (by omega)
        simp only [if_true]
        constructor <;> omega
  · cases hd
theorem oShr_ok (h : oShr L K E n pc' = some sc) (hs : ∀ x ∈ sc, Gl T ad gh XI S0 ρ0 xs cD cy A p l e R s m args below meth c Q nL x.2 x.1)
    (hW : ∀ x y st, WR p l e R s m args below meth c Q pc pc' (.int y :: .int x :: st) (.int (x >>> (y &&& 31)) :: st)) : Gl T ad gh XI S0 ρ0 xs cD cy A p l e R s m args below meth c Q nL pc ((L, K), E, n) := by
  intro g τ S ρ H locs cells slots ls hA
  unfold oShr at h
  match K, h, hA with
  | .inl y :: .inl x :: K, h, hA =>
    have wK := SatA_wfK hA
    have wy : wfL E.1.length y := wfK_hd wK
    have wx : wfL E.1.length x := wfK_hd (wfK_tl wK)
    have wK := wfK_tl (wfK_tl wK)
    show W p l e R s m args below meth c H locs cells slots Q (F0 m pc ls (.int (Int32.ofInt (ev g y)) :: .int (Int32.ofInt (ev g x)) :: γK g τ xs K))
    dsimp only at h
    split at h
    · rename_i k hk hc
      rw [Bool.and_eq_true] at hc
      obtain ⟨hn, hy⟩ := shn_ok (g := g) hk
      have hx := fit32_ok hA.1.1 wx hc.1
      have hr : (rg E.1 x).1 ≤ ev g x := (rg_ok hA.1.1 wx).1
      have h0 := ile_iff.mp hc.2
      cases hd : dvE E x (Int.ofNat (2 ^ (k + 1))) with
      | mk E' qr =>
        obtain ⟨q, r⟩ := qr
        rw [hd] at h
        dsimp only at h
        have hp1 : 1 ≤ 2 ^ k := Nat.one_le_two_pow
        have hp2 : 2 ^ (k + 1) = 2 * 2 ^ k := by rw [Nat.pow_succ, Nat.mul_comm]
        obtain ⟨g', k1, k2, k3, -⟩ := dvE_ok hA.1 wx (by omega) (by show (2 : Int) ≤ ((2 ^ (k + 1) : Nat) : Int); omega) hd
        have hA' : SatA T ad gh XI S0 ρ0 xs cD cy A s nL ((L, K), E', n) g' τ S ρ H locs cells slots ls := hA.xt k1 k2 (k1.K (xs := xs) wK).1 hA.2.2.2.2.2.2.1
        refine hW _ _ _ H locs cells slots ls ?_
        rw [← (k1.K (xs := xs) wK).2]
        refine pI_ok h hs hA' (k1.K (xs := xs) wK).1 ⟨k3.1, ?_⟩
        rw [k3.2, Int.tdiv_eq_ediv_of_nonneg (by omega), hy]
        have := shr_div hn (Int32.ofInt (ev g x))
        rw [i32_of hx] at this
        have e2 : Int.ofNat (2 ^ (k + 1)) = ((2 ^ (k + 1) : Nat) : Int) := rfl
        rw [e2, ← this, ofInt_toInt32]
    · exact hW _ _ _ H locs cells slots ls (pI_ok h hs hA wK (shr32 hA.1.1 wx))
theorem oDivI_ok {rem : Bool} (h : oDivI rem L K E n pc' = some sc) (hs : ∀ x ∈ sc, Gl T ad gh XI S0 ρ0 xs cD cy A p l e R s m args below meth c Q nL x.2 x.1)
    (hW : ∀ x y st, ¬ y = 0 → WR p l e R s m args below meth c Q pc pc' (.int y :: .int x :: st) (.int (if rem then x % y else x / y) :: st)) : Gl T ad gh XI S0 ρ0 xs cD cy A p l e R s m args below meth c Q nL pc ((L, K), E, n) := by
  intro g τ S ρ H locs cells slots ls hA
  unfold oDivI at h
  match K, h, hA with
  | .inl y :: .inl x :: K, h, hA =>
    have wK := SatA_wfK hA
    have wy : wfL E.1.length y := wfK_hd wK
    have wx : wfL E.1.length x := wfK_hd (wfK_tl wK)
    have wK := wfK_tl (wfK_tl wK)
    show W p l e R s m args below meth c H locs cells slots Q (F0 m pc ls (.int (Int32.ofInt (ev g y)) :: .int (Int32.ofInt (ev g x)) :: γK g τ xs K))
    -- for any form with x's value
    have core : ∀ (E1 : En) (g1 : Nat → Int) (x1 : Lin), Xt E E1 g g1 τ τ → SatE T ad gh XI S0 ρ0 E1 g1 τ S ρ → wfL E1.1.length x1 → Int32.ofInt (ev g1 x1) = Int32.ofInt (ev g x) → ∀ E' r, oDiv rem x1 y E1 k32l k32h = some (E', r) → pI r L K E' n pc' = some sc → W p l e R s m args below meth c H locs cells slots Q (F0 m pc ls (.int (Int32.ofInt (ev g y)) :: .int (Int32.ofInt (ev g x)) :: γK g τ xs K)) := by
      intro E1 g1 x1 hX1 hE1 wx1 ex1 E' r hd hp
      have wy1 := hX1.f wy
      obtain ⟨⟨b1, b2, b3, b4⟩, g', k1, k2, k3⟩ := oDiv_int hE1 wx1 wy1.1 hd
      rw [wy1.2] at b1 b2 k3
      have ea : (Int32.ofInt (ev g x)).toInt = ev g1 x1 := by rw [← ex1]; exact i32_of ⟨b3, b4⟩
      have eb : (Int32.ofInt (ev g y)).toInt = ev g y := i32_of ⟨by rw [k32l_eq]; omega, b2⟩
      have hb0 : ¬ Int32.ofInt (ev g y) = 0 := fun q => by rw [q] at eb; have : (0 : Int32).toInt = 0 := rfl; omega
      have hb1 : Int32.ofInt (ev g y) ≠ -1 := fun q => by rw [q] at eb; have : (-1 : Int32).toInt = -1 := rfl; omega
      have hv : (if rem then Int32.ofInt (ev g x) % Int32.ofInt (ev g y) else Int32.ofInt (ev g x) / Int32.ofInt (ev g y)).toInt = (if rem then Int.tmod (ev g1 x1) (ev g y) else Int.tdiv (ev g1 x1) (ev g y)) := by
        cases rem
        · simp only [Bool.false_eq_true, if_false]; rw [Int32.toInt_div_of_ne_right _ _ hb1, ea, eb]
        · simp only [if_true]; rw [Int32.toInt_mod, ea, eb]
      have hX := hX1.trans k1
      have hA' : SatA T ad gh XI S0 ρ0 xs cD cy A s nL ((L, K), E', n) g' τ S ρ H locs cells slots ls := hA.xt hX k2 (hX.K (xs := xs) wK).1 hA.2.2.2.2.2.2.1
      refine hW _ _ _ hb0 H locs cells slots ls ?_
      rw [← (hX.K (xs := xs) wK).2]
      refine pI_ok hp hs hA' (hX.K (xs := xs) wK).1 ?_
      rcases k3 with rfl | k3
      · exact full32
      · match r, k3 with
        | .inl f, k3 => exact ⟨k3.1, by rw [k3.2, ← hv, ofInt_toInt32]⟩
        | .inr z, k3 => exact ⟨by rw [hv]; exact k3.1, by rw [hv]; exact k3.2⟩
    dsimp only at h
    cases ef : fit32 E.1 x with
    | true =>
      rw [ef] at h
      dsimp only at h
      cases hd : oDiv rem x y E k32l k32h with
      | none => rw [hd] at h; cases h
      | some z =>
        rw [hd] at h
        exact core E g x Xt.refl hA.1 wx rfl z.1 z.2 hd h
    | false =>
      rw [ef] at h
      dsimp only at h
      cases hd : oDiv rem (lsy E.1.length) y (eI E (k32l, k32h)) k32l k32h with
      | none => rw [hd] at h; cases h
      | some z =>
        rw [hd] at h
        exact core (eI E (k32l, k32h)) (gup g E.1.length (Int32.ofInt (ev g x)).toInt) (lsy E.1.length) Xt_eI (hA.1.fresh (i32_rng _)) (wf_lsy (by simp [eI])) (by rw [ev_lsy, gup_self, ofInt_toInt32]) z.1 z.2 hd h
theorem oDivJ_ok {rem : Bool} (h : oDivJ rem L K E n pc' = some sc) (hs : ∀ x ∈ sc, Gl T ad gh XI S0 ρ0 xs cD cy A p l e R s m args below meth c Q nL x.2 x.1)
    (hW : ∀ x y st, ¬ y = 0 → WR p l e R s m args below meth c Q pc pc' (.long y :: .long x :: st) (.long (if rem then x % y else x / y) :: st)) : Gl T ad gh XI S0 ρ0 xs cD cy A p l e R s m args below meth c Q nL pc ((L, K), E, n) := by
  intro g τ S ρ H locs cells slots ls hA
  unfold oDivJ at h
  match K, h, hA with
  | .inr (.inl y) :: .inr (.inl x) :: K, h, hA =>
    have wK := SatA_wfK hA
    have wy : wfL E.1.length y := wfK_hd wK
    have wx : wfL E.1.length x := wfK_hd (wfK_tl wK)
    have wK := wfK_tl (wfK_tl wK)
    show W p l e R s m args below meth c H locs cells slots Q (F0 m pc ls (.long (Int64.ofInt (ev g y)) :: .long (Int64.ofInt (ev g x)) :: γK g τ xs K))
    have core : ∀ (E1 : En) (g1 : Nat → Int) (x1 : Lin), Xt E E1 g g1 τ τ → SatE T ad gh XI S0 ρ0 E1 g1 τ S ρ → wfL E1.1.length x1 → Int64.ofInt (ev g1 x1) = Int64.ofInt (ev g x) → ∀ E' r, oDiv rem x1 y E1 k64l k64h = some (E', r) → pJ r L K E' n pc' = some sc → W p l e R s m args below meth c H locs cells slots Q (F0 m pc ls (.long (Int64.ofInt (ev g y)) :: .long (Int64.ofInt (ev g x)) :: γK g τ xs K)) := by
      intro E1 g1 x1 hX1 hE1 wx1 ex1 E' r hd hp
      have wy1 := hX1.f wy
      obtain ⟨⟨b1, b2, b3, b4⟩, g', k1, k2, k3⟩ := oDiv_int hE1 wx1 wy1.1 hd
      rw [wy1.2] at b1 b2 k3
      have ea : (Int64.ofInt (ev g x)).toInt = ev g1 x1 := by rw [← ex1]; exact i64_of ⟨b3, b4⟩
      have eb : (Int64.ofInt (ev g y)).toInt = ev g y := i64_of ⟨by rw [k64l_eq]; omega, b2⟩
      have hb0 : ¬ Int64.ofInt (ev g y) = 0 := fun q => by rw [q] at eb; have : (0 : Int64).toInt = 0 := rfl; omega
      have hb1 : Int64.ofInt (ev g y) ≠ -1 := fun q => by rw [q] at eb; have : (-1 : Int64).toInt = -1 := rfl; omega
      have hv : (if rem then Int64.ofInt (ev g x) % Int64.ofInt (ev g y) else Int64.ofInt (ev g x) / Int64.ofInt (ev g y)).toInt = (if rem then Int.tmod (ev g1 x1) (ev g y) else Int.tdiv (ev g1 x1) (ev g y)) := by
        cases rem
        · simp only [Bool.false_eq_true, if_false]; rw [Int64.toInt_div_of_ne_right _ _ hb1, ea, eb]
        · simp only [if_true]; rw [Int64.toInt_mod, ea, eb]
      have hX := hX1.trans k1
      have hA' : SatA T ad gh XI S0 ρ0 xs cD cy A s nL ((L, K), E', n) g' τ S ρ H locs cells slots ls := hA.xt hX k2 (hX.K (xs := xs) wK).1 hA.2.2.2.2.2.2.1
      refine hW _ _ _ hb0 H locs cells slots ls ?_
      rw [← (hX.K (xs := xs) wK).2]
      refine pJ_ok hp hs hA' (hX.K (xs := xs) wK).1 ?_
      rcases k3 with rfl | k3
      · exact full64
      · match r, k3 with
        | .inl f, k3 => exact ⟨k3.1, by rw [k3.2, ← hv, ofInt_toInt64]⟩
        | .inr z, k3 => exact ⟨by rw [hv]; exact k3.1, by rw [hv]; exact k3.2⟩
    dsimp only at h
    cases ef : fit64 E.1 x with
    | true =>
      rw [ef] at h
      dsimp only at h
      cases hd : oDiv rem x y E k64l k64h with
      | none => rw [hd] at h; cases h
      | some z =>
        rw [hd] at h
        exact core E g x Xt.refl hA.1 wx rfl z.1 z.2 hd h
    | false =>
      rw [ef] at h
      dsimp only at h
      cases hd : oDiv rem (lsy E.1.length) y (eI E (k64l, k64h)) k64l k64h with
      | none => rw [hd] at h; cases h
      | some z =>
        rw [hd] at h
        exact core (eI E (k64l, k64h)) (gup g E.1.length (Int64.ofInt (ev g x)).toInt) (lsy E.1.length) Xt_eI (hA.1.fresh (i64_rng _)) (wf_lsy (by simp [eI])) (by rw [ev_lsy, gup_self, ofInt_toInt64]) z.1 z.2 hd h
end DIV
