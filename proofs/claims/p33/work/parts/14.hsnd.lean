/-! reads and writes, sound -/
/-- the roles' types are those of the pool's fields -/
def TZ (T : Tt) : Prop := ∀ (r : Nat) (ri : RI), (tRT T)[r]? = some ri → ri.1 < 13 → ∀ (i : Nat) (t : FTy), ri.2.2.1[i]? = some t → (z_ft ri.1)[i]? = some (match t with
  | .inl _ => 0
  | .inr (.inl _) => 2
  | .inr (.inr _) => 1)
section HS
variable {T : Tt} {ad : Nat → Nat} {gh : zS → Int → Int} {XI : zS → Prop} {S0 : zS} {ρ0 : Nat → Nat} {xs : Nat → Nat} {cD : va_G} {cy : Nat → ClassId} {A : Nat → Prop}
variable {p : Program} {l : Launch} {e : Env} {R : Room} {s : State} {m : MethodId} {args : Array Value} {below : List Frame} {meth : Method} {c : Code} {Q : State → Prop} {cc : ByteArray} {nL : Nat} {Ts : List Cond} {own : String}
variable {L : Lc} {K : List Vl} {E E' : En} {n : Nn} {pc pc' : Nat} {sc : Suc} {g : Nat → Int} {τ : Nat → Option Nat} {S : zS} {ρ : Nat → Nat}
theorem tRi_of {r : Nat} {ri : RI} (h : (tRT T)[r]? = some ri) : tRi T r = ri := nth_get h
/-- a reference that isn't null -/
theorem SatE.ref {i : Nat} {rs : List Nat} (h : SatE T ad gh XI S0 ρ0 E g τ S ρ) (hi : nth (true, []) E.2.1 i = (false, rs)) : ∃ a, τ i = some a ∧ a ∈ zL S ∧ ρ a ∈ rs ∧ (tRT T)[ρ a]? = some (tRi T (ρ a)) ∧ CelOK S ρ (tRi T (ρ a)) a := by
  have hl : i < E.2.1.length := by
    rcases Nat.lt_or_ge i E.2.1.length with q | q
    · exact q
    · rw [nth_ge q] at hi; cases hi
  have h2 := h.2.1 i _ (nth_lt (d := (true, [])) hl)
  rw [hi] at h2
  cases ht : τ i with
  | none => rw [ht] at h2; cases h2
  | some a =>
    rw [ht] at h2
    obtain ⟨k1, k2⟩ := h2
    obtain ⟨ri, k3, k4⟩ := h.2.2.2.2.2.2.2.2.1.1 a k1
    have e := tRi_of k3
    exact ⟨a, rfl, k1, k2, by rw [e]; exact k3, by rw [e]; exact k4⟩
theorem sbTy_ok {a b : FTy} {j x : Nat} (h : FldOK S ρ a j x) (e : sbTy a b = true) : FldOK S ρ b j x := by
  match a, b, h, e with
  | .inl p, .inl q, h, e =>
    simp only [sbTy, Bool.and_eq_true, ile_iff] at e
    exact ⟨Int.le_trans e.1 h.1, Int.le_trans h.2 e.2⟩
  | .inr (.inl p), .inr (.inl q), h, e =>
    simp only [sbTy, Bool.and_eq_true, Bool.or_eq_true, Bool.not_eq_true'] at e
    show RefOK S ρ q.1 q.2 (zQ S j x)
    have h : RefOK S ρ p.1 p.2 (zQ S j x) := h
    cases hz : zQ S j x with
    | none =>
      rw [hz] at h
      have h : p.1 = true := h
      rcases e.1 with e1 | e1
      · rw [h] at e1; cases e1
      · exact e1
    | some y =>
      rw [hz] at h
      exact ⟨h.1, sbs_ok e.2 _ h.2⟩
  | .inr (.inr _), .inr (.inr _), _, _ => trivial
theorem RefOK.sub {n n' : Bool} {rs rs' : List Nat} {q : Option Nat} (h : RefOK S ρ n rs q) (e : ((!n || n') && sbs rs rs') = true) : RefOK S ρ n' rs' q := by
  simp only [Bool.and_eq_true, Bool.or_eq_true, Bool.not_eq_true'] at e
  cases q with
  | none =>
    have h : n = true := h
    rcases e.1 with e1 | e1
    · rw [h] at e1; cases e1
    · exact e1
  | some y => exact ⟨h.1, sbs_ok e.2 _ h.2⟩
theorem fTy_ok {rs kinds : List Nat} {i : Nat} {ty : FTy} (h : fTy T rs kinds i = some ty) : (∀ r ∈ rs, (tRi T r).1 ∈ kinds ∧ (tRi T r).1 < 13 ∧ ∃ t, (tRi T r).2.2.1[i]? = some t ∧ sbTy t ty = true) ∧ (tRi T (nth 0 rs 0)).2.2.1[i]? = some ty := by
  unfold fTy at h
  cases rs with
  | nil => cases h
  | cons r0 rs =>
    dsimp only at h
    cases h0 : (tRi T r0).2.2.1[i]? with
    | none => rw [h0] at h; cases h
    | some t0 =>
      rw [h0] at h
      dsimp only at h
      split at h
      · rename_i hall
        cases h
        refine ⟨fun r hr => ?_, h0⟩
        have := List.all_eq_true.mp hall r hr
        simp only [Bool.and_eq_true] at this
        obtain ⟨⟨k1, k2⟩, k3⟩ := this
        refine ⟨nin_iff.mp k1, Nat.le_of_ble_eq_true k2, ?_⟩
        split at k3
        · rename_i t ht; exact ⟨t, ht, k3⟩
        · cases k3
      · cases h
theorem tchL_inv {rs : List Nat} {isA : Bool} {j : Nat} : ∀ {G : List RGI} {n x : Nat}, x ∈ tchL rs isA j G n → ∃ (k : Nat) (q : RGI), x = n + k ∧ G[k]? = some q ∧ q.1 ∈ rs ∧ q.2.1 = isA ∧ q.2.2 = j
  | [], n, x, h => by simp [tchL] at h
  | a :: r, n, x, h => by
    simp only [tchL] at h
    split at h
    · rename_i e
      simp only [Bool.and_eq_true, Bool.or_eq_true, beq_iff_eq] at e
      rcases List.mem_cons.mp h with rfl | h
      · exact ⟨0, a, rfl, rfl, nin_iff.mp e.1.1, e.1.2, Nat.eq_of_beq_eq_true e.2⟩
      · obtain ⟨k, q, h1, h2, h3⟩ := tchL_inv h
        exact ⟨k + 1, q, by omega, by simpa using h2, h3⟩
    · obtain ⟨k, q, h1, h2, h3⟩ := tchL_inv h
      exact ⟨k + 1, q, by omega, by simpa using h2, h3⟩
theorem fRg_inv {rs : List Nat} {isA : Bool} {j reg : Nat} (h : fRg rs isA j T = some reg) : ∃ (r : Nat) (q : RGI), rs = [r] ∧ r < tU T ∧ tch T rs isA j = [reg] ∧ (tRG T)[reg]? = some q ∧ q.1 = r ∧ q.2.1 = isA ∧ q.2.2 = j := by
  unfold fRg at h
  split at h
  · rename_i r
    split at h
    · rename_i hb
      split at h
      · rename_i x hx
        cases h
        obtain ⟨k, q, h1, h2, h3, h4, h5⟩ := tchL_inv (G := tRG T) (n := 0) (show reg ∈ tchL [r] isA j (tRG T) 0 from by
          have : tch T [r] isA j = [reg] := hx
          unfold tch at this; rw [this]; exact List.mem_cons_self)
        rw [Nat.zero_add] at h1
        subst h1
        exact ⟨r, q, rfl, Nat.le_of_ble_eq_true hb, hx, h2, List.mem_singleton.mp h3, h4, h5⟩
      · cases h
    · cases h
  · cases h
theorem rgF_ok {rs : List Nat} {j reg a : Nat} (h : fRg rs false j T = some reg) (hT : Typed T ad S ρ) (ha : a ∈ zL S) (hr : ρ a ∈ rs) : reg < (tRG T).length ∧ ∀ i, RGv T ad S reg i = (zI S j a).toInt := by
  obtain ⟨r, q, rfl, hu, -, hq, h1, h2, h3⟩ := fRg_inv h
  have e : ρ a = r := List.mem_singleton.mp hr
  have ea : a = ad r := by rw [← e]; exact hT.2.2 a ha (by rw [e]; exact hu)
  refine ⟨(List.getElem?_eq_some_iff.mp hq).1, fun i => ?_⟩
  unfold RGv
  rw [nth_get hq]
  unfold RGq
  rw [h2, h1, ea, h3]
theorem rgA_ok {rs : List Nat} {reg a : Nat} (h : fRg rs true 0 T = some reg) (hT : Typed T ad S ρ) (ha : a ∈ zL S) (hr : ρ a ∈ rs) : reg < (tRG T).length ∧ ∀ i : Int, RGv T ad S reg i = (zA S a i.toNat).toInt := by
  obtain ⟨r, q, rfl, hu, -, hq, h1, h2, h3⟩ := fRg_inv h
  have e : ρ a = r := List.mem_singleton.mp hr
  have ea : a = ad r := by rw [← e]; exact hT.2.2 a ha (by rw [e]; exact hu)
  refine ⟨(List.getElem?_eq_some_iff.mp hq).1, fun i => ?_⟩
  unfold RGv
  rw [nth_get hq]
  unfold RGq
  rw [h2, h1, ea, h3]
theorem rgB_ok {rs : List Nat} {reg a : Nat} (h : fRg rs true 1 T = some reg) (hT : Typed T ad S ρ) (ha : a ∈ zL S) (hr : ρ a ∈ rs) : reg < (tRG T).length ∧ ∀ i : Int, RGv T ad S reg i = (zB S a i.toNat).toInt32.toInt := by
  obtain ⟨r, q, rfl, hu, -, hq, h1, h2, h3⟩ := fRg_inv h
  have e : ρ a = r := List.mem_singleton.mp hr
  have ea : a = ad r := by rw [← e]; exact hT.2.2 a ha (by rw [e]; exact hu)
  refine ⟨(List.getElem?_eq_some_iff.mp hq).1, fun i => ?_⟩
  unfold RGv
  rw [nth_get hq]
  unfold RGq
  rw [h2, h1, ea, h3]
theorem rgQ_ok {rs : List Nat} {reg a j : Nat} (h : fRg rs true (j + 2) T = some reg) (hT : Typed T ad S ρ) (ha : a ∈ zL S) (hr : ρ a ∈ rs) : reg < (tRG T).length ∧ ∀ i : Int, RGv T ad S reg i = match zQ S j a with
    | none => 0
    | some _ => 1 := by
  obtain ⟨r, q, rfl, hu, -, hq, h1, h2, h3⟩ := fRg_inv h
  have e : ρ a = r := List.mem_singleton.mp hr
  have ea : a = ad r := by rw [← e]; exact hT.2.2 a ha (by rw [e]; exact hu)
  refine ⟨(List.getElem?_eq_some_iff.mp hq).1, fun i => ?_⟩
  unfold RGv
  rw [nth_get hq]
  unfold RGq
  rw [h2, h1, ea, h3]
  rfl
/-- a field read -/
theorem oGetf_ok {lk : LK} (hM : MX xs cD cy A p s m args c cc nL Ts own) (hTZ : TZ T) (hL : LKOK own lk) {idx : Nat} (hd : decode cc pc = .ok (.getfield idx, 3)) (h : oGetf T lk idx L K E n pc = some sc) (hs : ∀ x ∈ sc, Gl T ad gh XI S0 ρ0 xs cD cy A p l e R s m args below meth c Q nL x.2 x.1) : Gl T ad gh XI S0 ρ0 xs cD cy A p l e R s m args below meth c Q nL pc ((L, K), E, n) := by
  intro g τ S ρ H locs cells slots ls hA
  unfold oGetf at h
  split at h
  · rename_i i K'
    have wK := wfK_tl (SatA_wfK hA)
    split at h
    · rename_i fi kinds rs hfe hri
      obtain ⟨a, ht, ha, hr, hro, hco⟩ := hA.1.ref hri
      show W p l e R s m args below meth c H locs cells slots Q (F0 m pc ls (va_rf (τ i) :: γK g τ xs K'))
      rw [ht]
      have hw := hA.2.2.2.2.2.2.1
      have hTy := hA.1.2.2.2.2.2.2.2.2.1
      cases hty : fTy T rs kinds fi with
      | none => rw [hty] at h; cases h
      | some ty =>
        rw [hty] at h
        obtain ⟨k1, k0⟩ := fTy_ok hty
        obtain ⟨k2, k3, t, k4, k5⟩ := k1 _ hr
        have hzf := hTZ _ _ hro k3 fi t k4
        have hfo := hco.2.2.1 k3 fi t k4
        have hfo2 := sbTy_ok hfo k5
        have rule := hL.1 idx _ (asc_ok hfe) _ k2 p l e R s m args below meth c H locs cells slots Q xs cD cy A cc nL Ts S a pc ls (γK g τ xs K') _ hM hw ha hco.1 hd hzf
        refine rule ?_
        match t, ty, k5, hfo2, h with
        | .inl iv0, .inl iv, k5, hfo2, h =>
          show W p l e R s m args below meth c H locs cells slots Q (F0 m (pc + 3) ls (.int (zI S (z_bs (tRi T (ρ a)).1 + fi) a) :: γK g τ xs K'))
          dsimp only at h
          cases hreg : fRg rs false (z_bs (tRi T (nth 0 rs 0)).1 + fi) T with
          | none => rw [hreg] at h; exact pI_ok h hs hA wK hfo2
          | some reg =>
            rw [hreg] at h
            dsimp only at h
            obtain ⟨r, q, hrs, -⟩ := fRg_inv hreg
            have er : nth 0 rs 0 = ρ a := by rw [hrs] at hr ⊢; exact (List.mem_singleton.mp hr).symm
            rw [er] at hreg
            obtain ⟨hlt, hval⟩ := rgF_ok hreg hTy ha hr
            cases hm : lkM (reg + 3) [] E.2.2.2.1 with
            | some f =>
              rw [hm] at h
              have hm := hA.1.2.2.2.1 _ (lkM_ok hm)
              have e1 : RGv T ad S reg (nth 0 [] 0) = ev g f := hm.2.2.1
              rw [hval] at e1
              exact pI_ok (r := .inl f) h hs hA wK ⟨hm.2.1, by rw [← e1, ofInt_toInt32]⟩
            | none =>
              rw [hm] at h
              cases h
              have hx := (Xt_eI (E := E) (g := g) (τ := τ) (x := iv) (n := (zI S (z_bs (tRi T (ρ a)).1 + fi) a).toInt))
              have hk := hx.K (xs := xs) wK
              have h1 := (hA.1.fresh (x := iv) (n := (zI S (z_bs (tRi T (ρ a)).1 + fi) a).toInt) hfo2).memo (m := (reg + 3, [], lsy E.1.length)) ⟨fun a ha => absurd ha List.not_mem_nil, wf_lsy (by simp [eI]), by
                show RGv T ad S reg (nth 0 [] 0) = ev _ (lsy E.1.length)
                rw [hval, ev_lsy, gup_self], fun rg hrg => by
                have : rg ∈ [reg] := hrg
                rw [List.mem_singleton.mp this]; exact hlt⟩
              have := hs _ List.mem_cons_self _ τ S ρ H locs cells slots ls (hA.xt (K' := .inl (lsy E.1.length) :: K') hx h1 (wfK_cons (wf_lsy (by simp [eI, eM])) hk.1) hw)
              have e1 : γK (gup g E.1.length (zI S (z_bs (tRi T (ρ a)).1 + fi) a).toInt) τ xs (.inl (lsy E.1.length) :: K') = .int (zI S (z_bs (tRi T (ρ a)).1 + fi) a) :: γK g τ xs K' := by
                show Value.int (Int32.ofInt (ev _ (lsy E.1.length))) :: γK _ τ xs K' = _
                rw [ev_lsy, gup_self, ofInt_toInt32, hk.2]
              rw [← e1]; exact this
        | .inr (.inl nr0), .inr (.inl nr), k5, hfo2, h =>
          dsimp only at h
          have hfo2 : RefOK S ρ nr.1 nr.2 (zQ S (z_bs (tRi T (ρ a)).1 + fi) a) := hfo2
          show W p l e R s m args below meth c H locs cells slots Q (F0 m (pc + 3) ls (va_rf (zQ S (z_bs (tRi T (ρ a)).1 + fi) a) :: γK g τ xs K'))
          split at h
          · rename_i reg hreg
            obtain ⟨r, q, hrs, -⟩ := fRg_inv hreg
            have er : nth 0 rs 0 = ρ a := by rw [hrs] at hr ⊢; exact (List.mem_singleton.mp hr).symm
            rw [er] at hreg
            obtain ⟨hlt, hval⟩ := rgQ_ok hreg hTy ha hr
            split at h
            · rename_i f hm
              split at h
              · rename_i h1
                have hm := hA.1.2.2.2.1 _ (lkM_ok hm)
                have e1 : RGv T ad S reg (nth 0 [] 0) = ev g f := hm.2.2.1
                rw [hval] at e1
                have r1 := (rg_ok hA.1.1 hm.2.1).1
                have h1 := ile_iff.mp h1
                refine pR_ok h hs hA wK ?_
                cases hz : zQ S (z_bs (tRi T (ρ a)).1 + fi) a with
                | none => rw [hz] at e1; dsimp only at e1 r1; omega
                | some b => rw [hz] at hfo2; exact hfo2
              · exact pR_ok h hs hA wK hfo2
            · exact pR_ok h hs hA wK hfo2
          · exact pR_ok h hs hA wK hfo2
        | .inr (.inr _), .inr (.inr _), k5, hfo2, h => exact pJ_ok h hs hA wK full64
    · cases h
  · rename_i k K'
    have wK := wfK_tl (SatA_wfK hA)
    split at h
    · rename_i x hx
      split at h
      · rename_i v hv
        cases h
        have rule := hL.2.2.2.2.2.2.1 idx x (asc_ok hx) k v (asc_ok hv) p l e R s m args below meth c H locs cells slots Q xs cD cy A cc nL Ts S pc ls (γK g τ xs K') hM hA.2.2.2.2.2.2.1 hd
        refine rule ?_
        have := hs _ List.mem_cons_self g τ S ρ H locs cells slots ls (hA.xt (K' := svV v :: K') Xt.refl hA.1 (wfK_cons svV_wf wK) hA.2.2.2.2.2.2.1)
        have e1 : γK g τ xs (svV v :: K') = svX xs v :: γK g τ xs K' := by
          show γ g τ xs (svV v) :: γK g τ xs K' = _
          rw [svV_ok]
        rw [← e1]; exact this
      · cases h
    · cases h
  · cases h
theorem inIv_ok {f : Lin} {x : Itv} (h : SatE T ad gh XI S0 ρ0 E g τ S ρ) (w : wfL E.1.length f) (e : inIv E f x = true) : x.1 ≤ (Int32.ofInt (ev g f)).toInt ∧ (Int32.ofInt (ev g f)).toInt ≤ x.2 := by
  unfold inIv at e
  split at e
  · rename_i e1
    simp only [Bool.and_eq_true, ile_iff] at e1
    have := i32_rng (Int32.ofInt (ev g f))
    omega
  · split at e
    · rename_i e2
      rw [fit32_of h.1 w e2]
      exact h.inI w e
    · cases e
/-- the same state after a write that touches no region -/
theorem SatE.step0 {md : List Nat} (h : SatE T ad gh XI S0 ρ0 E g τ S ρ) {S' : zS} (hT : TOK T ad gh XI) (hF : Fr T ad md S ρ S' ρ) (hmd : md = []) (hW : Typed T ad S' ρ) : SatE T ad gh XI S0 ρ0 E g τ S' ρ := by
  subst hmd
  obtain ⟨h1, h2, h3, h4, h5, h6, h7, h8, h9⟩ := h
  have hreg : ∀ reg, reg < (tRG T).length → ∀ i, RGv T ad S' reg i = RGv T ad S reg i := fun reg hr i => hF.2 reg hr List.not_mem_nil i
  refine ⟨h1, fun i q hq => (h2 i q hq).fr hF, h3, fun m hm => ?_, h5, h6.fr hT hF (fun _ _ _ _ _ => List.not_mem_nil), ?_, h8, hW, XI_fr hT hF (fun _ _ => List.not_mem_nil) h9.2⟩
  · obtain ⟨k1, k2, k3, k4⟩ := h4 m hm
    exact ⟨k1, k2, by rw [GV_same hT (S := S) (fun reg hr i => hreg reg (k4 reg hr) i)]; exact k3, k4⟩
  · have := h7.trans hF
    rwa [List.append_nil] at this
theorem anyin_or {a b : Bool} (h : (a || b) = false) : a = false ∧ b = false := by cases a <;> cases b <;> simp at h <;> exact ⟨rfl, rfl⟩
theorem cpl_no {td : List Nat} (h : anyin (cplR T) td = false) : ∀ (gi : Nat) (G : CGI), (tCG T)[gi]? = some G → ∀ c ∈ G.1, c.1 ∉ td := by
  intro gi G hG c hc
  exact anyin_no h c.1 (List.mem_flatMap.mpr ⟨G, List.mem_of_getElem? hG, List.mem_map.mpr ⟨c, hc, rfl⟩⟩)
theorem xr_no {td : List Nat} (h : anyin td (tXR T) = false) : ∀ reg ∈ tXR T, reg ∉ td := fun reg h1 h2 => anyin_no h reg h2 h1
/-- a field written -/
theorem oPutf_ok {lk : LK} {ini : Bool} (hM : MX xs cD cy A p s m args c cc nL Ts own) (hTZ : TZ T) (hT : TOK T ad gh XI) (hL : LKOK own lk) (hini : ini = true → meth.name = "<init>") {idx : Nat} (hd : decode cc pc = .ok (.putfield idx, 3)) (h : oPutf T lk ini idx L K E n pc = some sc) (hs : ∀ x ∈ sc, Gl T ad gh XI S0 ρ0 xs cD cy A p l e R s m args below meth c Q nL x.2 x.1) : Gl T ad gh XI S0 ρ0 xs cD cy A p l e R s m args below meth c Q nL pc ((L, K), E, n) := by
  intro g τ S ρ H locs cells slots ls hA
  unfold oPutf at h
  split at h
  · rename_i v i K'
    have wK0 := SatA_wfK hA
    have wv := wfK_hd wK0
    have wK := wfK_tl (wfK_tl wK0)
    split at h
    · rename_i fi bl fin kinds rs hfe hri
      obtain ⟨a, ht, ha, hr, hro, hco⟩ := hA.1.ref hri
      show W p l e R s m args below meth c H locs cells slots Q (F0 m pc ls (γ g τ xs v :: va_rf (τ i) :: γK g τ xs K'))
      rw [ht]
      have hw := hA.2.2.2.2.2.2.1
      have hTy := hA.1.2.2.2.2.2.2.2.2.1
      split at h
      · rename_i ty hf1 hty hall
        obtain ⟨k1, k0⟩ := fTy_ok hty
        obtain ⟨k2, k3, t, k4, k5⟩ := k1 _ hr
        have hall2 := List.all_eq_true.mp hall _ hr
        rw [k4, k0] at hall2
        have hall2 : sbTy ty t = true := hall2
        have hzf := hTZ _ _ hro k3 fi t k4
        have hfin : fin = true → meth.name = "<init>" := fun q => hini (by rw [q] at hf1; simpa using hf1)
        have rule := hL.2.1 idx _ (asc_ok hfe) _ k2
        -- the field's own type: any other of the role's fields has another number
        have uni : ∀ ri : RI, (tRT T)[ρ a]? = some ri → ri.1 < 13 → ∀ i t', ri.2.2.1[i]? = some t' → z_bs ri.1 + i = z_bs (tRi T (ρ a)).1 + fi → t' = t := by
          intro ri hri2 _ i2 t' ht' he
          rw [hro] at hri2
          cases hri2
          have : i2 = fi := by omega
          subst this
          rw [k4] at ht'
          exact (Option.some.inj ht').symm
        split at h
        · rename_i f iv _
          split at h
          · rename_i hin hkk
            rw [Bool.and_eq_true] at hin
            have hb := inIv_ok hA.1 wv hin.1
            have hbl : bl = true → 0 ≤ (Int32.ofInt (ev g f)).toInt ∧ (Int32.ofInt (ev g f)).toInt ≤ 1 := by
              intro q
              have h2 := hin.2
              rw [q] at h2
              simp only [Bool.not_true, Bool.false_or, Bool.and_eq_true] at h2
              rw [fit32_of hA.1.1 wv h2.1]
              exact hA.1.inI wv h2.2
            have hkk2 := Nat.eq_of_beq_eq_true (List.all_eq_true.mp hkk _ hr)
            match t, k5, hall2, hzf, uni with
            | .inl iv0, k5, hall2, hzf, uni =>
            simp only [sbTy, Bool.and_eq_true, ile_iff] at hall2
            unfold RPut at rule
            rw [hzf] at rule
            dsimp only at rule h
            rw [← hkk2] at h
            cases hany : anyin (tch T rs false (z_bs (tRi T (ρ a)).1 + fi)) (tXR T) || anyin (cplR T) (tch T rs false (z_bs (tRi T (ρ a)).1 + fi)) with
            | true => rw [hany] at h; cases h
            | false =>
              rw [hany] at h
              dsimp only at h
              obtain ⟨x1, x2⟩ := anyin_or hany
              refine rule p l e R s m args below meth c H locs cells slots Q xs cD cy A cc nL Ts S a pc ls (γK g τ xs K') (Int32.ofInt (ev g f)) hM hfin hbl hw ha hco.1 hd (fun H1 locs1 hw1 => ?_)
              have hfr := fr_I (S := S) (x := Int32.ofInt (ev g f)) hT hTy (a := a) (j := z_bs (tRi T (ρ a)).1 + fi) hr
              have hty' : Typed T ad (zsI S (z_bs (tRi T (ρ a)).1 + fi) a (Int32.ofInt (ev g f))) ρ := hTy.putI (fun ri h1 h2 i2 t' h3 h4 => ⟨iv0, uni ri h1 h2 i2 t' h3 h4, by omega, by omega⟩)
              have hE1 := hA.1.step hT hfr ⟨hty', XI_fr hT hfr (xr_no x1) hA.1.2.2.2.2.2.2.2.2.2⟩ hA.1.2.2.2.2.1 (hA.1.2.2.2.2.2.1.fr hT hfr (cpl_no x2))
              have hX : Xt E (eK T E (tch T rs false (z_bs (tRi T (ρ a)).1 + fi)) E.2.2.2.2.1) g g τ τ := ⟨Nat.le_refl _, fun _ _ => rfl, Nat.le_refl _, fun _ _ => rfl⟩
              split at h
              · rename_i reg hreg hfit
                cases h
                obtain ⟨hlt, hval⟩ := rgF_ok hreg hty' (by exact ha) hr
                have e2 : zI (zsI S (z_bs (tRi T (ρ a)).1 + fi) a (Int32.ofInt (ev g f))) (z_bs (tRi T (ρ a)).1 + fi) a = Int32.ofInt (ev g f) := zu2_self
                have hE2 := hE1.memo (m := (reg + 3, [], f)) ⟨fun a ha => absurd ha List.not_mem_nil, wv, by
                  show RGv T ad _ reg (nth 0 [] 0) = ev g f
                  rw [hval, e2, fit32_of hA.1.1 wv hfit], fun rg hrg => by
                  have : rg ∈ [reg] := hrg
                  rw [List.mem_singleton.mp this]; exact hlt⟩
                exact hs _ List.mem_cons_self g τ _ ρ H1 locs1 cells slots ls (hA.xt (K' := K') hX hE2 wK hw1)
              · cases h
                exact hs _ List.mem_cons_self g τ _ ρ H1 locs1 cells slots ls (hA.xt (K' := K') hX hE1 wK hw1)
          · cases h
        · rename_i f u _
          cases h
          match t, k5, hall2, hzf, uni with
          | .inr (.inr u2), k5, hall2, hzf, uni =>
          unfold RPut at rule
          rw [hzf] at rule
          dsimp only at rule
          refine rule p l e R s m args below meth c H locs cells slots Q xs cD cy A cc nL Ts S a pc ls (γK g τ xs K') (Int64.ofInt (ev g f)) hM hfin hw ha hco.1 hd (fun H1 locs1 hw1 => ?_)
          exact hs _ List.mem_cons_self g τ _ ρ H1 locs1 cells slots ls (hA.xt (K' := K') Xt.refl (hA.1.step0 hT fr_J rfl hTy.putJ) wK hw1)
        · rename_i j nr _
          dsimp only at h
          split at h
          · rename_i hsub hkk
            have hkk2 := Nat.eq_of_beq_eq_true (List.all_eq_true.mp hkk _ hr)
            rw [← hkk2] at h
            match t, k5, hall2, hzf, uni with
            | .inr (.inl nr0), k5, hall2, hzf, uni =>
            unfold RPut at rule
            rw [hzf] at rule
            dsimp only at rule
            have hj : j < E.2.1.length := wv
            have hrj0 := hA.1.2.1 j _ (nth_lt (d := (true, [])) hj)
            have hrj := hrj0.sub hsub
            have hrj : RefOK S ρ nr0.1 nr0.2 (τ j) := hrj.sub hall2
            refine rule p l e R s m args below meth c H locs cells slots Q xs cD cy A cc nL Ts S a pc ls (γK g τ xs K') (τ j) hM hfin hw ha hco.1 hd (fun H1 locs1 hw1 => ?_)
            have hfr := fr_Q (S := S) (x := τ j) hT hTy (a := a) (j := z_bs (tRi T (ρ a)).1 + fi) hr
            have hty' : Typed T ad (zsQ S (z_bs (tRi T (ρ a)).1 + fi) a (τ j)) ρ := hTy.putQ (fun ri h1 h2 i2 t' h3 h4 => ⟨nr0, uni ri h1 h2 i2 t' h3 h4, hrj⟩)
            split at h
            · rename_i htd
              cases h
              exact hs _ List.mem_cons_self g τ _ ρ H1 locs1 cells slots ls (hA.xt (K' := K') Xt.refl (hA.1.step0 hT hfr htd hty') wK hw1)
            · rename_i t0 tr htd
              split at h
              · cases h
              · rename_i hany
                rw [htd] at hfr
                obtain ⟨x1, x2⟩ := anyin_or hany
                have hE1 := hA.1.step hT hfr ⟨hty', XI_fr hT hfr (xr_no x1) hA.1.2.2.2.2.2.2.2.2.2⟩ hA.1.2.2.2.2.1 (hA.1.2.2.2.2.2.1.fr hT hfr (cpl_no x2))
                have hX : Xt E (eK T E (t0 :: tr) E.2.2.2.2.1) g g τ τ := ⟨Nat.le_refl _, fun _ _ => rfl, Nat.le_refl _, fun _ _ => rfl⟩
                split at h
                · rename_i reg hreg hnn
                  cases h
                  obtain ⟨hlt, hval⟩ := rgQ_ok hreg hty' (by exact ha) hr
                  have e2 : zQ (zsQ S (z_bs (tRi T (ρ a)).1 + fi) a (τ j)) (z_bs (tRi T (ρ a)).1 + fi) a = τ j := zu2_self
                  have hE2 := hE1.memo (m := (reg + 3, [], lc 1)) ⟨fun a ha => absurd ha List.not_mem_nil, wf_lc, by
                    show RGv T ad _ reg (nth 0 [] 0) = ev g (lc 1)
                    rw [hval, e2, ev_lc]
                    cases hz : τ j with
                    | some b => rfl
                    | none => rw [hz, hnn] at hrj0; exact absurd hrj0 (by simp [RefOK]), fun rg hrg => by
                    have : rg ∈ [reg] := hrg
                    rw [List.mem_singleton.mp this]; exact hlt⟩
                  exact hs _ List.mem_cons_self g τ _ ρ H1 locs1 cells slots ls (hA.xt (K' := K') hX hE2 wK hw1)
                · cases h
                  exact hs _ List.mem_cons_self g τ _ ρ H1 locs1 cells slots ls (hA.xt (K' := K') hX hE1 wK hw1)
          · cases h
        · cases h
      · cases h
    · cases h
  · cases h
end HS
