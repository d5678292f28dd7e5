/-! contracts by symbols, and what a call does to an abstract state -/
abbrev Oc : Type := List Itv × List (Bool × List Nat) × List Vl × List Lin × List Mem
/-- intervals of the numbers, arguments, what ghosts and regions give numbers, references, facts, regions written, cells and slots, a role that changes, outcomes -/
abbrev Sg : Type := List Itv × List Vl × List (Nat × List Lin) × List (Bool × List Nat) × List Lin × List Nat × (Nat × Nat) × Option (Nat × Nat) × List Oc
def sI (s : Sg) : List Itv := s.1
def sA (s : Sg) : List Vl := s.2.1
def sG (s : Sg) : List (Nat × List Lin) := s.2.2.1
def sR (s : Sg) : List (Bool × List Nat) := s.2.2.2.1
def sF (s : Sg) : List Lin := s.2.2.2.2.1
def sM (s : Sg) : List Nat := s.2.2.2.2.2.1
def sC (s : Sg) : Nat × Nat := s.2.2.2.2.2.2.1
def sT (s : Sg) : Option (Nat × Nat) := s.2.2.2.2.2.2.2.1
def sO (s : Sg) : List Oc := s.2.2.2.2.2.2.2.2
def sb1 (θ : List Lin) : List (Nat × Int) → Lin
  | [] => (0, [])
  | q :: r => ladd (lsc q.2 (nth (0, []) θ q.1)) (sb1 θ r)
def sb (θ : List Lin) (f : Lin) : Lin := lpl (sb1 θ f.2) f.1
def sbV (θ : List Lin) (θr : List Nat) (v : Vl) : Vl := match v with
  | .inl f => .inl (sb θ f)
  | .inr (.inl f) => .inr (.inl (sb θ f))
  | .inr (.inr (.inl f)) => .inr (.inr (.inl (sb θ f)))
  | .inr (.inr (.inr (.inl i))) => .inr (.inr (.inr (.inl (nth 0 θr i))))
  | .inr (.inr (.inr (.inr k))) => .inr (.inr (.inr (.inr k)))
theorem ev_sb1 {g : Nat → Int} {θ : List Lin} : ∀ (l : List (Nat × Int)), ev g (sb1 θ l) = ev1 (fun i => ev g (nth (0, []) θ i)) l
  | [] => by simp [sb1, ev, ev1]
  | q :: r => by
    simp only [sb1, ev_ladd, ev_lsc, ev1]
    rw [ev_sb1 r]
theorem ev_sb {g : Nat → Int} {θ : List Lin} {f : Lin} : ev g (sb θ f) = ev (fun i => ev g (nth (0, []) θ i)) f := by
  rw [sb, ev_lpl, ev_sb1]
  simp only [ev]; omega
theorem wf_nth {k : Nat} {θ : List Lin} (h : ∀ t ∈ θ, wfL k t) (i : Nat) : wfL k (nth (0, []) θ i) := by
  rcases Nat.lt_or_ge i θ.length with q | q
  · exact h _ (List.mem_of_getElem? (nth_lt q))
  · rw [nth_ge q]; exact fun z hz => by simp at hz
theorem wf_sb1 {k : Nat} {θ : List Lin} (h : ∀ t ∈ θ, wfL k t) : ∀ (l : List (Nat × Int)), wfL k (sb1 θ l)
  | [] => fun z hz => by simp [sb1] at hz
  | q :: r => wf_ladd (wf_lsc (wf_nth h q.1)) (wf_sb1 h r)
theorem wf_sb {k : Nat} {θ : List Lin} (h : ∀ t ∈ θ, wfL k t) (f : Lin) : wfL k (sb θ f) := wf_lpl (wf_sb1 h f.2)
theorem γ_sbV {g : Nat → Int} {τ : Nat → Option Nat} {xs : Nat → Nat} {θ : List Lin} {θr : List Nat} {v : Vl} : γ g τ xs (sbV θ θr v) = γ (fun i => ev g (nth (0, []) θ i)) (fun i => τ (nth 0 θr i)) xs v := by
  match v with
  | .inl f => show Value.int (Int32.ofInt (ev g (sb θ f))) = _
              rw [ev_sb]; rfl
  | .inr (.inl f) => show Value.long (Int64.ofInt (ev g (sb θ f))) = _
                     rw [ev_sb]; rfl
  | .inr (.inr (.inl f)) => show Value.int (cmpI (ev g (sb θ f))) = _
                            rw [ev_sb]; rfl
  | .inr (.inr (.inr (.inl i))) => rfl
  | .inr (.inr (.inr (.inr k))) => rfl
def wfB (n : Nat) (f : Lin) : Bool := f.2.all (fun q => Nat.blt q.1 n)
theorem wfB_ok {n : Nat} {f : Lin} (h : wfB n f = true) : wfL n f := fun q hq => Nat.le_of_ble_eq_true (List.all_eq_true.mp h q hq)
def wfVB (n r : Nat) (v : Vl) : Bool := match v with
  | .inl f => wfB n f
  | .inr (.inl f) => wfB n f
  | .inr (.inr (.inl f)) => wfB n f
  | .inr (.inr (.inr (.inl i))) => Nat.blt i r
  | .inr (.inr (.inr (.inr _))) => true
theorem wfVB_ok {n r : Nat} {v : Vl} (h : wfVB n r v = true) : wfV n r v := by
  match v, h with
  | .inl f, h => exact wfB_ok h
  | .inr (.inl f), h => exact wfB_ok h
  | .inr (.inr (.inl f)), h => exact wfB_ok h
  | .inr (.inr (.inr (.inl i))), h => exact Nat.le_of_ble_eq_true h
  | .inr (.inr (.inr (.inr _))), _ => trivial
/-- what is known of a region without reading it -/
def dfl (T : Tt) (E : En) (reg : Nat) (as : List Lin) : Itv := match nth (0, false, 0) (tRG T) reg, as with
  | (r, true, 0), [ix] => match ixOK E ix (tRi T r).2.1 && Nat.beq (tRi T r).1 13 with
    | true => match rg E.1 ix with
      | (lo, hi) => segH lo hi (tRi T r).2.2.2.1
    | false => (k32l, k32h)
  | (r, false, j), _ => match Nat.blt (tRi T r).1 13 && Nat.ble (z_bs (tRi T r).1) j, (tRi T r).2.2.1[j - z_bs (tRi T r).1]? with
    | true, some (.inl iv) => iv
    | _, _ => (k32l, k32h)
  | _, _ => (k32l, k32h)
/-- what a region or a ghost holds: as known, or a number more -/
def gtM (T : Tt) (E : En) (k : Nat) (as : List Lin) : Option (En × Lin) := match lkM k as E.2.2.2.1 with
  | some f => some (E, f)
  | none => match k with
    | 0 => none
    | 1 => none
    | 2 => some (eM (eI E (k64l, k64h)) (2, as, lsy E.1.length), lsy E.1.length)
    | reg + 3 => match Nat.blt reg (tRG T).length with
      | true => match dfl T E reg as with
        | iv => some (eM (eI E iv) (reg + 3, as, lsy E.1.length), lsy E.1.length)
      | false => none
def isSy (f : Lin) (k : Nat) : Bool := match f with
  | (.ofNat 0, [(s, .ofNat 1)]) => Nat.beq s k
  | _ => false
def bnd (E : En) (kl kh : Int) (x : Itv) (f : Lin) : Option (En × Lin) := match (match rg E.1 f with
    | (a, b) => ile kl a && ile b kh) && inI E.1 E.2.2.1 f x.1 x.2 with
  | true => some (E, f)
  | false => match ile x.1 kl && ile kh x.2 with
    | true => some (eI E (kl, kh), lsy E.1.length)
    | false => none
def bndA (Is : List Itv) : List Vl → List Vl → En → List Lin → List Nat → Option (En × List Lin × List Nat)
  | [], [], E, θ, θr => some (E, θ, θr)
  | .inl t :: ts, .inl f :: vs, E, θ, θr => match isSy t θ.length with
    | true => match bnd E k32l k32h (nth (0, 0) Is θ.length) f with
      | some (E', f') => bndA Is ts vs E' (θ ++ [f']) θr
      | none => none
    | false => match wfB θ.length t && (lkM.lnEq f (sb θ t) || inI E.1 E.2.2.1 (lsub f (sb θ t)) 0 0) with
      | true => bndA Is ts vs E θ θr
      | false => none
  | .inr (.inl t) :: ts, .inr (.inl f) :: vs, E, θ, θr => match isSy t θ.length with
    | true => match bnd E k64l k64h (nth (0, 0) Is θ.length) f with
      | some (E', f') => bndA Is ts vs E' (θ ++ [f']) θr
      | none => none
    | false => match wfB θ.length t && (lkM.lnEq f (sb θ t) || inI E.1 E.2.2.1 (lsub f (sb θ t)) 0 0) with
      | true => bndA Is ts vs E θ θr
      | false => none
  | .inr (.inr (.inr (.inl i))) :: ts, .inr (.inr (.inr (.inl j))) :: vs, E, θ, θr => match Nat.beq i θr.length with
    | true => bndA Is ts vs E θ (θr ++ [j])
    | false => none
  | .inr (.inr (.inr (.inr i))) :: ts, .inr (.inr (.inr (.inr j))) :: vs, E, θ, θr => match Nat.beq i j with
    | true => bndA Is ts vs E θ θr
    | false => none
  | _, _, _, _, _ => none
def bndG (T : Tt) (Is : List Itv) : List (Nat × List Lin) → En → List Lin → Option (En × List Lin)
  | [], E, θ => some (E, θ)
  | q :: r, E, θ => match q.2.all (wfB θ.length), gtM T E q.1 (q.2.map (sb θ)) with
    | true, some (E', f) => match inI E'.1 E'.2.2.1 f (nth (0, 0) Is θ.length).1 (nth (0, 0) Is θ.length).2 with
      | true => bndG T Is r E' (θ ++ [f])
      | false => none
    | _, _ => none
/-- the references of a call are as the contract wants them -/
def refB (E : En) : List Nat → List (Bool × List Nat) → Bool
  | [], [] => true
  | j :: r, q :: t => match nth (true, []) E.2.1 j with
    | z => match (!z.1 || q.1) && sbs z.2 q.2 with
      | true => refB E r t
      | false => false
  | _, _ => false
section BND
variable {T : Tt} {ad : Nat → Nat} {gh : zS → Int → Int} {XI : zS → Prop} {S0 : zS} {ρ0 : Nat → Nat} {xs : Nat → Nat}
variable {E E' : En} {g : Nat → Int} {τ : Nat → Option Nat} {S : zS} {ρ : Nat → Nat}
theorem dfl_ok (hT : TOK T ad gh XI) {reg : Nat} {as : List Lin} (h : SatE T ad gh XI S0 ρ0 E g τ S ρ) (hr : reg < (tRG T).length) (w : ∀ a ∈ as, wfL E.1.length a) : (dfl T E reg as).1 ≤ RGv T ad S reg (nth 0 (as.map (ev g)) 0) ∧ RGv T ad S reg (nth 0 (as.map (ev g)) 0) ≤ (dfl T E reg as).2 := by
  have full : k32l ≤ RGv T ad S reg (nth 0 (as.map (ev g)) 0) ∧ RGv T ad S reg (nth 0 (as.map (ev g)) 0) ≤ k32h := by
    unfold RGv
    rw [k32l_eq, k32h_eq]
    exact RGq_rng
  have hq := RG_get hr
  have hu := hT.1 reg _ hq
  unfold dfl
  generalize hz : nth (0, false, 0) (tRG T) reg = z at hq hu
  obtain ⟨r, isA, j⟩ := z
  dsimp only at hu
  have hTy := h.2.2.2.2.2.2.2.2.1
  obtain ⟨k1, k2⟩ := hTy.2.1 r hu
  obtain ⟨ri, k3, k4⟩ := hTy.1 _ k1
  rw [k2] at k3
  have e3 := tRi_of k3
  split
  · rename_i r' j' ix heq
    cases heq
    split
    · rename_i hc
      rw [Bool.and_eq_true] at hc
      rw [e3] at hc ⊢
      have q13 := Nat.eq_of_beq_eq_true hc.2
      have wx := w ix List.mem_cons_self
      obtain ⟨b1, b2, b3⟩ := ixOK_ok h wx hc.1
      have hrg := rg_ok h.1 wx
      generalize rg E.1 ix = zz at hrg
      obtain ⟨lo, hi⟩ := zz
      dsimp only at hrg ⊢
      have := segH_ok (f := zA S (ad r)) (lo := lo) (hi := hi) (i := (ev g ix).toNat) (by omega) (by omega) (k4.2.2.2.1 q13)
      unfold RGv RGq
      rw [hz]
      exact this
    · exact full
  · rename_i r' j' heq
    cases heq
    split
    · rename_i iv hc hf
      rw [Bool.and_eq_true] at hc
      rw [e3] at hc hf
      have h13 : ri.1 < 13 := Nat.le_of_ble_eq_true hc.1
      have hle := Nat.le_of_ble_eq_true hc.2
      have := k4.2.2.1 h13 _ _ hf
      have e5 : z_bs ri.1 + (j - z_bs ri.1) = j := by omega
      rw [e5] at this
      unfold RGv RGq
      rw [hz]
      exact this
    · exact full
  · exact full
theorem gtM_ok (hT : TOK T ad gh XI) {k : Nat} {as : List Lin} {f : Lin} (h : SatE T ad gh XI S0 ρ0 E g τ S ρ) (w : ∀ a ∈ as, wfL E.1.length a) (hg : gtM T E k as = some (E', f)) : ∃ g', Xt E E' g g' τ τ ∧ SatE T ad gh XI S0 ρ0 E' g' τ S ρ ∧ wfL E'.1.length f ∧ GV T ad gh k S (as.map (ev g)) = ev g' f ∧ (∀ reg ∈ gfp T k, reg < (tRG T).length) ∧ (k = 2 ∨ k < 2 ∨ k - 3 < (tRG T).length) ∧ E'.2.1 = E.2.1 ∧ E'.2.2.2.2 = E.2.2.2.2 := by
  unfold gtM at hg
  split at hg
  · rename_i f0 hm
    cases hg
    have hm := h.2.2.2.1 _ (lkM_ok hm)
    refine ⟨g, Xt.refl, h, hm.2.1, hm.2.2.1, hm.2.2.2, ?_, rfl, rfl⟩
    rcases Nat.lt_or_ge k 3 with q | q
    · omega
    · right; right
      have := hm.2.2.2 (k - 3) (by
        show k - 3 ∈ gfp T k
        obtain ⟨r, rfl⟩ : ∃ r, k = r + 3 := ⟨k - 3, by omega⟩
        simp [gfp])
      exact this
  · split at hg
    · cases hg
    · cases hg
    · cases hg
      have hb := hT.2.2.2.2.2.2.1 S ((nth 0 (as.map (ev g)) 0).toNat : Int)
      have h1 := h.fresh (x := (k64l, k64h)) (n := gh S ((nth 0 (as.map (ev g)) 0).toNat : Int)) (by rw [k64l_eq, k64h_eq]; exact hb)
      have hx := Xt_eI (E := E) (g := g) (τ := τ) (x := (k64l, k64h)) (n := gh S ((nth 0 (as.map (ev g)) 0).toNat : Int))
      have e1 : as.map (ev (gup g E.1.length (gh S ((nth 0 (as.map (ev g)) 0).toNat : Int)))) = as.map (ev g) := map_ev_congr w hx.2.1
      refine ⟨_, ?_, h1.memo (m := (2, as, lsy E.1.length)) ⟨fun a ha => wf_mono (w a ha) hx.1, wf_lsy (by simp [eI]), ?_, hT.2.1⟩, wf_lsy (by simp [eI, eM]), ?_, hT.2.1, Or.inl rfl, rfl, rfl⟩
      · exact hx
      · show gh S ((nth 0 (as.map (ev _)) 0).toNat : Int) = ev _ (lsy E.1.length)
        rw [e1, ev_lsy, gup_self]
      · show gh S ((nth 0 (as.map (ev g)) 0).toNat : Int) = ev _ (lsy E.1.length)
        rw [ev_lsy, gup_self]
    · rename_i reg _
      split at hg
      · rename_i hr
        have hr : reg < (tRG T).length := Nat.le_of_ble_eq_true hr
        dsimp only at hg
        cases hg
        have hb := dfl_ok hT h hr w
        have h1 := h.fresh (x := dfl T E reg as) (n := RGv T ad S reg (nth 0 (as.map (ev g)) 0)) hb
        have hx := Xt_eI (E := E) (g := g) (τ := τ) (x := dfl T E reg as) (n := RGv T ad S reg (nth 0 (as.map (ev g)) 0))
        have e1 : as.map (ev (gup g E.1.length (RGv T ad S reg (nth 0 (as.map (ev g)) 0)))) = as.map (ev g) := map_ev_congr w hx.2.1
        have hreg : ∀ rg ∈ gfp T (reg + 3), rg < (tRG T).length := fun rg hrg => by
          have : rg ∈ [reg] := hrg
          rw [List.mem_singleton.mp this]; exact hr
        refine ⟨_, ?_, h1.memo (m := (reg + 3, as, lsy E.1.length)) ⟨fun a ha => wf_mono (w a ha) hx.1, wf_lsy (by simp [eI]), ?_, hreg⟩, wf_lsy (by simp [eI, eM]), ?_, hreg, Or.inr (Or.inr (by omega)), rfl, rfl⟩
        · exact hx
        · show RGv T ad S reg (nth 0 (as.map (ev _)) 0) = ev _ (lsy E.1.length)
          rw [e1, ev_lsy, gup_self]
        · show RGv T ad S reg (nth 0 (as.map (ev g)) 0) = ev _ (lsy E.1.length)
          rw [ev_lsy, gup_self]
      · cases hg
theorem isSy_ok {f : Lin} {k : Nat} (h : isSy f k = true) : f = lsy k := by
  unfold isSy at h
  split at h
  · rename_i s
    have := Nat.eq_of_beq_eq_true h
    subst this
    rfl
  · cases h
theorem bnd32 {x : Itv} {f f' : Lin} (h : SatE T ad gh XI S0 ρ0 E g τ S ρ) (w : wfL E.1.length f) (hb : bnd E k32l k32h x f = some (E', f')) : ∃ g', Xt E E' g g' τ τ ∧ SatE T ad gh XI S0 ρ0 E' g' τ S ρ ∧ wfL E'.1.length f' ∧ (x.1 ≤ ev g' f' ∧ ev g' f' ≤ x.2) ∧ Int32.ofInt (ev g' f') = Int32.ofInt (ev g f) ∧ E'.2 = E.2 := by
  unfold bnd at hb
  split at hb
  · rename_i e1
    cases hb
    rw [Bool.and_eq_true] at e1
    exact ⟨g, Xt.refl, h, w, h.inI w e1.2, rfl, rfl⟩
  · split at hb
    · rename_i e2
      cases hb
      simp only [Bool.and_eq_true, ile_iff] at e2
      have hr := i32_rng (Int32.ofInt (ev g f))
      refine ⟨_, Xt_eI, h.fresh (x := (k32l, k32h)) (n := (Int32.ofInt (ev g f)).toInt) hr, wf_lsy (by simp [eI]), ?_, ?_, rfl⟩
      · rw [ev_lsy, gup_self]; omega
      · rw [ev_lsy, gup_self, ofInt_toInt32]
    · cases hb
theorem bnd64 {x : Itv} {f f' : Lin} (h : SatE T ad gh XI S0 ρ0 E g τ S ρ) (w : wfL E.1.length f) (hb : bnd E k64l k64h x f = some (E', f')) : ∃ g', Xt E E' g g' τ τ ∧ SatE T ad gh XI S0 ρ0 E' g' τ S ρ ∧ wfL E'.1.length f' ∧ (x.1 ≤ ev g' f' ∧ ev g' f' ≤ x.2) ∧ Int64.ofInt (ev g' f') = Int64.ofInt (ev g f) ∧ E'.2 = E.2 := by
  unfold bnd at hb
  split at hb
  · rename_i e1
    cases hb
    rw [Bool.and_eq_true] at e1
    exact ⟨g, Xt.refl, h, w, h.inI w e1.2, rfl, rfl⟩
  · split at hb
    · rename_i e2
      cases hb
      simp only [Bool.and_eq_true, ile_iff] at e2
      have hr := i64_rng (Int64.ofInt (ev g f))
      refine ⟨_, Xt_eI, h.fresh (x := (k64l, k64h)) (n := (Int64.ofInt (ev g f)).toInt) hr, wf_lsy (by simp [eI]), ?_, ?_, rfl⟩
      · rw [ev_lsy, gup_self]; omega
      · rw [ev_lsy, gup_self, ofInt_toInt64]
    · cases hb
/-- the contract's numbers by the caller's -/
def gs (g : Nat → Int) (θ : List Lin) : Nat → Int := fun i => ev g (nth (0, []) θ i)
def ts (τ : Nat → Option Nat) (θr : List Nat) : Nat → Option Nat := fun i => τ (nth 0 θr i)
theorem gs_app {θ θ' : List Lin} {i : Nat} (h : i < θ.length) : gs g (θ ++ θ') i = gs g θ i := by unfold gs; rw [nth_app h]
theorem gs_xt {g' : Nat → Int} {θ : List Lin} (hx : Xt E E' g g' τ τ) (w : ∀ t ∈ θ, wfL E.1.length t) (i : Nat) : gs g' θ i = gs g θ i := (hx.f (wf_nth w i)).2
theorem bndA_ok {Is : List Itv} : ∀ {T1 V1 : List Vl} {E E' : En} {g : Nat → Int} {θ θ' : List Lin} {θr θr' : List Nat}, SatE T ad gh XI S0 ρ0 E g τ S ρ → wfK E V1 → (∀ t ∈ θ, wfL E.1.length t) → (∀ j ∈ θr, j < E.2.1.length) → (∀ i, i < θ.length → (nth (0, 0) Is i).1 ≤ gs g θ i ∧ gs g θ i ≤ (nth (0, 0) Is i).2) → bndA Is T1 V1 E θ θr = some (E', θ', θr') →
    ∃ g', Xt E E' g g' τ τ ∧ SatE T ad gh XI S0 ρ0 E' g' τ S ρ ∧ (∀ t ∈ θ', wfL E'.1.length t) ∧ (∀ j ∈ θr', j < E'.2.1.length) ∧ (∀ i, i < θ'.length → (nth (0, 0) Is i).1 ≤ gs g' θ' i ∧ gs g' θ' i ≤ (nth (0, 0) Is i).2) ∧ (∃ x, θ' = θ ++ x) ∧ (∃ x, θr' = θr ++ x) ∧ (∀ (ga : Nat → Int) (ta : Nat → Option Nat), (∀ i, i < θ'.length → ga i = gs g' θ' i) → (∀ i, i < θr'.length → ta i = ts τ θr' i) → γK ga ta xs T1 = γK g τ xs V1) ∧ E'.2 = E.2
  | [], V1, E, E', g, θ, θ', θr, θr', h, wV, wθ, wr, hI, hb => by
    cases V1 with
    | nil =>
      simp only [bndA] at hb
      cases hb
      exact ⟨g, Xt.refl, h, wθ, wr, hI, ⟨[], by simp⟩, ⟨[], by simp⟩, fun _ _ _ _ => rfl, rfl⟩
    | cons a b => simp [bndA] at hb
  | t :: T1, [], E, E', g, θ, θ', θr, θr', h, wV, wθ, wr, hI, hb => by
    rcases t with t | t | t | t | t <;> simp [bndA] at hb
  | t :: T1, v :: V1, E, E', g, θ, θ', θr, θr', h, wV, wθ, wr, hI, hb => by
    have wv := wfK_hd wV
    have wV1 := wfK_tl wV
    -- a template that is a form of what is bound already
    have form : ∀ (tf f : Lin), wfL E.1.length f → (wfB θ.length tf && (lkM.lnEq f (sb θ tf) || inI E.1 E.2.2.1 (lsub f (sb θ tf)) 0 0)) = true → ev (gs g θ) tf = ev g f ∧ wfL θ.length tf := by
      intro tf f wf he
      rw [Bool.and_eq_true, Bool.or_eq_true] at he
      refine ⟨?_, wfB_ok he.1⟩
      have e1 : ev g (sb θ tf) = ev (gs g θ) tf := ev_sb
      rcases he.2 with q | q
      · rw [← e1, ← lnEq_ok q]
      · have := h.inI (wf_lsub wf (wf_sb wθ tf)) q
        rw [ev_lsub, e1] at this
        omega
    -- a symbol bound to a form
    have bound : ∀ (f' : Lin) (E1 : En) (g1 : Nat → Int), Xt E E1 g g1 τ τ → E1.2 = E.2 → SatE T ad gh XI S0 ρ0 E1 g1 τ S ρ → wfL E1.1.length f' → ((nth (0, 0) Is θ.length).1 ≤ ev g1 f' ∧ ev g1 f' ≤ (nth (0, 0) Is θ.length).2) →
        (∀ z ∈ θ ++ [f'], wfL E1.1.length z) ∧ (∀ i, i < (θ ++ [f']).length → (nth (0, 0) Is i).1 ≤ gs g1 (θ ++ [f']) i ∧ gs g1 (θ ++ [f']) i ≤ (nth (0, 0) Is i).2) ∧ (∀ i, i < θ.length → gs g1 (θ ++ [f']) i = gs g θ i) ∧ gs g1 (θ ++ [f']) θ.length = ev g1 f' := by
      intro f' E1 g1 hX hE hS1 wf1 hb1
      have last : gs g1 (θ ++ [f']) θ.length = ev g1 f' := by
        unfold gs
        have := nth_app2 (d := ((0, []) : Lin)) (l := θ) (l' := [f']) (i := 0)
        rw [Nat.add_zero] at this
        rw [this]; rfl
      have old : ∀ i, i < θ.length → gs g1 (θ ++ [f']) i = gs g θ i := fun i hi => by rw [gs_app hi, gs_xt hX wθ]
      refine ⟨fun z hz => ?_, fun i hi => ?_, old, last⟩
      · rcases List.mem_append.mp hz with hz | hz
        · exact wf_mono (wθ z hz) hX.1
        · rw [List.mem_singleton.mp hz]; exact wf1
      · rcases Nat.lt_or_ge i θ.length with q | q
        · rw [old i q]; exact hI i q
        · have : i = θ.length := by simp at hi; omega
          rw [this, last]; exact hb1
    match t, v, wv, hb with
    | .inl tf, .inl f, wv, hb =>
      simp only [bndA] at hb
      split at hb
      · rename_i hs
        have ht := isSy_ok hs
        split at hb
        · rename_i E1 f' hbd
          obtain ⟨g1, a1, a2, a3, a4, a5, a6⟩ := bnd32 h wv hbd
          obtain ⟨b1, b2, b3, b4⟩ := bound f' E1 g1 a1 a6 a2 a3 a4
          obtain ⟨g', c1, c2, c3, c4, c5, ⟨x, c6⟩, c7, c8, c9⟩ := bndA_ok a2 (fun z hz => by have := (a1.K (xs := xs) wV1).1 z hz; exact this) b1 (fun j hj => by rw [a6]; exact wr j hj) b2 hb
          refine ⟨g', a1.trans c1, c2, c3, c4, c5, ⟨[f'] ++ x, by rw [c6, List.append_assoc]⟩, c7, fun ga ta h1 h2 => ?_, c9.trans a6⟩
          show Value.int (Int32.ofInt (ev ga tf)) :: γK ga ta xs T1 = Value.int (Int32.ofInt (ev g f)) :: γK g τ xs V1
          rw [c8 ga ta h1 h2, (a1.K (xs := xs) wV1).2]
          have hlen : θ.length < θ'.length := by rw [c6]; simp
          have : ev ga tf = ev g1 f' := by
            rw [ht, ev_lsy, h1 _ hlen, c6, gs_app (by simp), gs_xt c1 b1, b4]
          rw [this, a5]
        · cases hb
      · split at hb
        · rename_i hf
          obtain ⟨f1, f2⟩ := form tf f wv hf
          obtain ⟨g', c1, c2, c3, c4, c5, ⟨x, c6⟩, c7, c8, c9⟩ := bndA_ok h wV1 wθ wr hI hb
          refine ⟨g', c1, c2, c3, c4, c5, ⟨x, c6⟩, c7, fun ga ta h1 h2 => ?_, c9⟩
          show Value.int (Int32.ofInt (ev ga tf)) :: γK ga ta xs T1 = Value.int (Int32.ofInt (ev g f)) :: γK g τ xs V1
          rw [c8 ga ta h1 h2, ← f1]
          congr 3
          refine ev_congr f2 (fun i hi => ?_)
          rw [h1 i (by rw [c6]; simp; omega), c6, gs_app hi, gs_xt c1 wθ]
        · cases hb
    | .inr (.inl tf), .inr (.inl f), wv, hb =>
      simp only [bndA] at hb
      split at hb
      · rename_i hs
        have ht := isSy_ok hs
        split at hb
        · rename_i E1 f' hbd
          obtain ⟨g1, a1, a2, a3, a4, a5, a6⟩ := bnd64 h wv hbd
          obtain ⟨b1, b2, b3, b4⟩ := bound f' E1 g1 a1 a6 a2 a3 a4
          obtain ⟨g', c1, c2, c3, c4, c5, ⟨x, c6⟩, c7, c8, c9⟩ := bndA_ok a2 (fun z hz => by have := (a1.K (xs := xs) wV1).1 z hz; exact this) b1 (fun j hj => by rw [a6]; exact wr j hj) b2 hb
          refine ⟨g', a1.trans c1, c2, c3, c4, c5, ⟨[f'] ++ x, by rw [c6, List.append_assoc]⟩, c7, fun ga ta h1 h2 => ?_, c9.trans a6⟩
          show Value.long (Int64.ofInt (ev ga tf)) :: γK ga ta xs T1 = Value.long (Int64.ofInt (ev g f)) :: γK g τ xs V1
          rw [c8 ga ta h1 h2, (a1.K (xs := xs) wV1).2]
          have hlen : θ.length < θ'.length := by rw [c6]; simp
          have : ev ga tf = ev g1 f' := by
            rw [ht, ev_lsy, h1 _ hlen, c6, gs_app (by simp), gs_xt c1 b1, b4]
          rw [this, a5]
        · cases hb
      · split at hb
        · rename_i hf
          obtain ⟨f1, f2⟩ := form tf f wv hf
          obtain ⟨g', c1, c2, c3, c4, c5, ⟨x, c6⟩, c7, c8, c9⟩ := bndA_ok h wV1 wθ wr hI hb
          refine ⟨g', c1, c2, c3, c4, c5, ⟨x, c6⟩, c7, fun ga ta h1 h2 => ?_, c9⟩
          show Value.long (Int64.ofInt (ev ga tf)) :: γK ga ta xs T1 = Value.long (Int64.ofInt (ev g f)) :: γK g τ xs V1
          rw [c8 ga ta h1 h2, ← f1]
          congr 3
          refine ev_congr f2 (fun i hi => ?_)
          rw [h1 i (by rw [c6]; simp; omega), c6, gs_app hi, gs_xt c1 wθ]
        · cases hb
    | .inr (.inr (.inr (.inl i))), .inr (.inr (.inr (.inl j))), wv, hb =>
      simp only [bndA] at hb
      split at hb
      · rename_i hi
        have hi := Nat.eq_of_beq_eq_true hi
        have wv : j < E.2.1.length := wv
        obtain ⟨g', c1, c2, c3, c4, c5, c6, ⟨x, c7⟩, c8, c9⟩ := bndA_ok h wV1 wθ (fun z hz => by
          rcases List.mem_append.mp hz with hz | hz
          · exact wr z hz
          · rw [List.mem_singleton.mp hz]; exact wv) hI hb
        refine ⟨g', c1, c2, c3, c4, c5, c6, ⟨[j] ++ x, by rw [c7, List.append_assoc]⟩, fun ga ta h1 h2 => ?_, c9⟩
        show va_rf (ta i) :: γK ga ta xs T1 = va_rf (τ j) :: γK g τ xs V1
        rw [c8 ga ta h1 h2, h2 i (by rw [c7, hi]; simp)]
        have : ts τ θr' i = τ j := by
          unfold ts
          have e1 := nth_app2 (d := 0) (l := θr) (l' := [j] ++ x) (i := 0)
          rw [Nat.add_zero] at e1
          rw [c7, List.append_assoc, hi, e1]; rfl
        rw [this]
      · cases hb
    | .inr (.inr (.inr (.inr i))), .inr (.inr (.inr (.inr j))), wv, hb =>
      simp only [bndA] at hb
      split at hb
      · rename_i hi
        have hi := Nat.eq_of_beq_eq_true hi
        obtain ⟨g', c1, c2, c3, c4, c5, c6, c7, c8, c9⟩ := bndA_ok h wV1 wθ wr hI hb
        refine ⟨g', c1, c2, c3, c4, c5, c6, c7, fun ga ta h1 h2 => ?_, c9⟩
        show Value.ref (xs i) :: γK ga ta xs T1 = Value.ref (xs j) :: γK g τ xs V1
        rw [c8 ga ta h1 h2, hi]
      · cases hb
    | .inl _, .inr _, _, hb => simp [bndA] at hb
    | .inr (.inl _), .inl _, _, hb => simp [bndA] at hb
    | .inr (.inl _), .inr (.inr _), _, hb => simp [bndA] at hb
    | .inr (.inr (.inl _)), .inl _, _, hb => simp [bndA] at hb
    | .inr (.inr (.inl _)), .inr _, _, hb => simp [bndA] at hb
    | .inr (.inr (.inr (.inl _))), .inl _, _, hb => simp [bndA] at hb
    | .inr (.inr (.inr (.inl _))), .inr (.inl _), _, hb => simp [bndA] at hb
    | .inr (.inr (.inr (.inl _))), .inr (.inr (.inl _)), _, hb => simp [bndA] at hb
    | .inr (.inr (.inr (.inl _))), .inr (.inr (.inr (.inr _))), _, hb => simp [bndA] at hb
    | .inr (.inr (.inr (.inr _))), .inl _, _, hb => simp [bndA] at hb
    | .inr (.inr (.inr (.inr _))), .inr (.inl _), _, hb => simp [bndA] at hb
    | .inr (.inr (.inr (.inr _))), .inr (.inr (.inl _)), _, hb => simp [bndA] at hb
    | .inr (.inr (.inr (.inr _))), .inr (.inr (.inr (.inl _))), _, hb => simp [bndA] at hb
theorem bndG_ok (hT : TOK T ad gh XI) {Is : List Itv} : ∀ {G : List (Nat × List Lin)} {E E' : En} {g : Nat → Int} {θ θ' : List Lin}, SatE T ad gh XI S0 ρ0 E g τ S ρ → (∀ t ∈ θ, wfL E.1.length t) → (∀ i, i < θ.length → (nth (0, 0) Is i).1 ≤ gs g θ i ∧ gs g θ i ≤ (nth (0, 0) Is i).2) → bndG T Is G E θ = some (E', θ') →
    ∃ g', Xt E E' g g' τ τ ∧ SatE T ad gh XI S0 ρ0 E' g' τ S ρ ∧ (∀ t ∈ θ', wfL E'.1.length t) ∧ (∀ i, i < θ'.length → (nth (0, 0) Is i).1 ≤ gs g' θ' i ∧ gs g' θ' i ≤ (nth (0, 0) Is i).2) ∧ (∃ x, θ' = θ ++ x ∧ x.length = G.length) ∧ (∀ (j : Nat) (q : Nat × List Lin), G[j]? = some q → (∀ a ∈ q.2, wfL (θ.length + j) a) ∧ GV T ad gh q.1 S (q.2.map (ev (gs g' θ'))) = gs g' θ' (θ.length + j) ∧ (∀ reg ∈ gfp T q.1, reg < (tRG T).length)) ∧ E'.2.1 = E.2.1 ∧ E'.2.2.2.2 = E.2.2.2.2
  | [], E, E', g, θ, θ', h, wθ, hI, hb => by
    simp only [bndG] at hb
    cases hb
    exact ⟨g, Xt.refl, h, wθ, hI, ⟨[], by simp, rfl⟩, fun j q hq => by simp at hq, rfl, rfl⟩
  | q :: G, E, E', g, θ, θ', h, wθ, hI, hb => by
    simp only [bndG] at hb
    split at hb
    · rename_i E1 f hw hgm
      have hw : ∀ a ∈ q.2, wfL θ.length a := fun a ha => wfB_ok (List.all_eq_true.mp hw a ha)
      split at hb
      · rename_i hin
        obtain ⟨g1, a1, a2, a3, a4, a5, -, a6, a7⟩ := gtM_ok hT h (fun a ha => by
          obtain ⟨b, hb1, rfl⟩ := List.mem_map.mp ha
          exact wf_sb wθ b) hgm
        have last : gs g1 (θ ++ [f]) θ.length = ev g1 f := by
          unfold gs
          have := nth_app2 (d := ((0, []) : Lin)) (l := θ) (l' := [f]) (i := 0)
          rw [Nat.add_zero] at this
          rw [this]; rfl
        have old : ∀ i, i < θ.length → gs g1 (θ ++ [f]) i = gs g θ i := fun i hi => by rw [gs_app hi, gs_xt a1 wθ]
        have wn : ∀ z ∈ θ ++ [f], wfL E1.1.length z := fun z hz => by
          rcases List.mem_append.mp hz with hz | hz
          · exact wf_mono (wθ z hz) a1.1
          · rw [List.mem_singleton.mp hz]; exact a3
        have hbd := a2.inI a3 hin
        obtain ⟨g', c1, c2, c3, c4, ⟨x, c5, c6⟩, c7, c8, c9⟩ := bndG_ok hT a2 wn (fun i hi => by
          rcases Nat.lt_or_ge i θ.length with z | z
          · rw [old i z]; exact hI i z
          · have : i = θ.length := by simp at hi; omega
            rw [this, last]; exact hbd) hb
        have keep : ∀ i, i < θ.length + 1 → gs g' θ' i = gs g1 (θ ++ [f]) i := fun i hi => by rw [c5, gs_app (by simp; omega), gs_xt c1 wn]
        refine ⟨g', a1.trans c1, c2, c3, c4, ⟨[f] ++ x, by rw [c5, List.append_assoc], by simp [c6]⟩, fun j z hz => ?_, c8.trans a6, c9.trans a7⟩
        cases j with
        | zero =>
          have hz : q = z := by simpa using hz
          subst hz
          refine ⟨fun a ha => hw a ha, ?_, a5⟩
          have e1 : q.2.map (ev (gs g' θ')) = (q.2.map (sb θ)).map (ev g) := by
            rw [List.map_map]
            refine List.map_congr_left (fun a ha => ?_)
            show ev (gs g' θ') a = ev g (sb θ a)
            rw [ev_sb]
            exact ev_congr (hw a ha) (fun i hi => by rw [keep i (by omega), old i hi]; rfl)
          rw [e1, a4, Nat.add_zero, keep _ (by omega), last]
        | succ j =>
          have hz : G[j]? = some z := by simpa using hz
          have := c7 j z hz
          have e2 : (θ ++ [f]).length + j = θ.length + (j + 1) := by simp; omega
          rw [e2] at this
          exact this
      · cases hb
    · cases hb
theorem refB_ok : ∀ {θr : List Nat} {R : List (Bool × List Nat)}, SatE T ad gh XI S0 ρ0 E g τ S ρ → (∀ j ∈ θr, j < E.2.1.length) → refB E θr R = true → R.length = θr.length ∧ ∀ (i : Nat) (q : Bool × List Nat), R[i]? = some q → RefOK S ρ q.1 q.2 (ts τ θr i)
  | [], [], _, _, _ => ⟨rfl, fun i q hq => by simp at hq⟩
  | [], _ :: _, _, _, hb => by simp [refB] at hb
  | _ :: _, [], _, _, hb => by simp [refB] at hb
  | j :: θr, q0 :: R, h, w, hb => by
    simp only [refB] at hb
    split at hb
    · rename_i h1
      obtain ⟨i1, i2⟩ := refB_ok h (fun z hz => w z (List.mem_cons_of_mem _ hz)) hb
      refine ⟨by simp [i1], fun i q hq => ?_⟩
      cases i with
      | zero =>
        have hq : q0 = q := by simpa using hq
        subst hq
        have := h.2.1 j _ (nth_lt (d := (true, [])) (w j List.mem_cons_self))
        exact this.sub h1
      | succ i => exact i2 i q (by simpa using hq)
    · cases hb
end BND
