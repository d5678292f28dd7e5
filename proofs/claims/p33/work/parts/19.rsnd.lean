/-! ops, places with invariants, ends: sound -/
section RS
variable {T : Tt} {ad : Nat → Nat} {gh : zS → Int → Int} {XI : zS → Prop} {S0 : zS} {ρ0 : Nat → Nat} {xs : Nat → Nat} {cD : va_G} {cy : Nat → ClassId} {A : Nat → Prop}
variable {p : Program} {l : Launch} {e : Env} {R : Room} {s : State} {m : MethodId} {args : Array Value} {below : List Frame} {meth : Method} {c : Code} {Q : State → Prop} {cc : ByteArray} {nL : Nat} {Ts : List Cond} {own : String}
variable {L : Lc} {K : List Vl} {E E' : En} {n : Nn} {pc pc' : Nat} {sc : Suc} {g : Nat → Int} {τ : Nat → Option Nat} {S S' : zS} {ρ ρ' : Nat → Nat}
theorem grpV_ok (hT : TOK T ad gh XI) {t : Lin} : ∀ {cs : List (Nat × Nat)} {E E' : En} {g : Nat → Int} {fs : List Lin}, SatE T ad gh XI S0 ρ0 E g τ S ρ → wfL E.1.length t → grpV T t cs E = some (E', fs) →
    ∃ g', Xt E E' g g' τ τ ∧ SatE T ad gh XI S0 ρ0 E' g' τ S ρ ∧ fs.length = cs.length ∧ (∀ (i : Nat) (q : Nat × Nat) (f : Lin), cs[i]? = some q → fs[i]? = some f → wfL E'.1.length f ∧ ev g' f = RGv T ad S q.1 (ev g t + (q.2 : Int))) ∧ E'.2.1 = E.2.1 ∧ E'.2.2.2.2 = E.2.2.2.2
  | [], E, E', g, fs, h, w, hb => by
    cases hb
    exact ⟨g, Xt.refl, h, rfl, fun i q f hq => by simp at hq, rfl, rfl⟩
  | q :: cs, E, E', g, fs, h, w, hb => by
    simp only [grpV] at hb
    split at hb
    · rename_i E1 f h1
      split at hb
      · rename_i E2 fs' h2
        cases hb
        obtain ⟨g1, a1, a2, a3, a4, a5, -, a6, a7⟩ := gtM_ok hT h (fun a ha => by rw [List.mem_singleton.mp ha]; exact wf_lpl w) h1
        have xf := a1.f w
        obtain ⟨g2, b1, b2, b3, b4, b5, b6⟩ := grpV_ok hT a2 xf.1 h2
        refine ⟨g2, a1.trans b1, b2, by simp [b3], fun i z f0 hz hf => ?_, b5.trans a6, b6.trans a7⟩
        cases i with
        | zero =>
          have hz : q = z := by simpa using hz
          have hf : f = f0 := by simpa using hf
          subst hz; subst hf
          have yf := b1.f a3
          refine ⟨yf.1, ?_⟩
          rw [yf.2, ← a4]
          show RGv T ad S q.1 (ev g (lpl t (Int.ofNat q.2))) = _
          rw [ev_lpl]; rfl
        | succ i =>
          have := b4 i z f0 (by simpa using hz) (by simpa using hf)
          rw [xf.2] at this
          exact this
      · cases hb
    · cases hb
theorem ivF_ok {k : Nat} : ∀ {fs : List Lin} {o : List Itv}, (∀ (i : Nat) (f : Lin) (x : Itv), fs[i]? = some f → o[i]? = some x → wfL k f ∧ x.1 ≤ ev g f ∧ ev g f ≤ x.2) → ∀ z ∈ ivF fs o, wfL k z ∧ 0 ≤ ev g z
  | [], _, _, z, hz => by simp [ivF] at hz
  | f :: fs, [], _, z, hz => by simp [ivF] at hz
  | f :: fs, x :: o, h, z, hz => by
    simp only [ivF] at hz
    obtain ⟨w, h1, h2⟩ := h 0 f x rfl rfl
    rcases List.mem_cons.mp hz with rfl | hz
    · exact ⟨wf_lpl w, by rw [ev_lpl]; omega⟩
    · rcases List.mem_cons.mp hz with rfl | hz
      · exact ⟨wf_lpl (wf_lneg w), by rw [ev_lpl, ev_lneg]; omega⟩
      · exact ivF_ok (fun i f x hf hx => h (i + 1) f x (by simpa using hf) (by simpa using hx)) z hz
theorem ivB_ok (h : SatE T ad gh XI S0 ρ0 E g τ S ρ) : ∀ {fs : List Lin} {o : List Itv}, (∀ f ∈ fs, wfL E.1.length f) → ivB E fs o = true → fs.length = o.length ∧ ∀ (i : Nat) (f : Lin) (x : Itv), fs[i]? = some f → o[i]? = some x → x.1 ≤ ev g f ∧ ev g f ≤ x.2
  | [], [], _, _ => ⟨rfl, fun i f x hf => by simp at hf⟩
  | [], _ :: _, _, hb => by simp [ivB] at hb
  | _ :: _, [], _, hb => by simp [ivB] at hb
  | f :: fs, x :: o, w, hb => by
    simp only [ivB] at hb
    split at hb
    · rename_i h1
      obtain ⟨i1, i2⟩ := ivB_ok h (fun z hz => w z (List.mem_cons_of_mem _ hz)) hb
      have h1 := h.inI (w f List.mem_cons_self) h1
      refine ⟨by simp [i1], fun i f0 x0 hf hx => ?_⟩
      cases i with
      | zero =>
        have hf : f = f0 := by simpa using hf
        have hx : x = x0 := by simpa using hx
        subst hf; subst hx
        exact h1
      | succ i => exact i2 i f0 x0 (by simpa using hf) (by simpa using hx)
    · cases hb
theorem noD_ok {gi : Nat} : ∀ {D : List (Nat × Lin)}, noD gi D = true → ∀ d ∈ D, d.1 ≠ gi
  | [], _, d, hd => by simp at hd
  | a :: D, h, d, hd => by
    simp only [noD] at h
    split at h
    · cases h
    · rename_i h1
      rcases List.mem_cons.mp hd with rfl | hd
      · intro q; rw [q] at h1; simp at h1
      · exact noD_ok h d hd
theorem usO_mem {fs : List Lin} {o : List Itv} : ∀ {os : List (List Itv)}, o ∈ os → ∀ x ∈ br L K E n (ivF fs o) pc, x ∈ usO L K E n fs pc os
  | [], h, _, _ => by simp at h
  | a :: os, h, x, hx => by
    simp only [usO]
    rcases List.mem_cons.mp h with rfl | h
    · exact List.mem_append_left _ hx
    · exact List.mem_append_right _ (usO_mem h x hx)
theorem rmD_ok {gi : Nat} {t : Lin} : ∀ {D D' : List (Nat × Lin)}, rmD gi t D = some D' → (∀ d ∈ D', d ∈ D) ∧ ∀ d ∈ D, d = (gi, t) ∨ d ∈ D'
  | [], D', h => by cases h
  | a :: D, D', h => by
    simp only [rmD] at h
    split at h
    · rename_i h1
      cases h
      rw [Bool.and_eq_true] at h1
      have e1 : a = (gi, t) := Prod.ext (Nat.eq_of_beq_eq_true h1.1) (lnEq_ok h1.2)
      refine ⟨fun d hd => List.mem_cons_of_mem _ hd, fun d hd => ?_⟩
      rcases List.mem_cons.mp hd with rfl | hd
      · exact Or.inl e1
      · exact Or.inr hd
    · split at h
      · rename_i x hx
        cases h
        obtain ⟨i1, i2⟩ := rmD_ok hx
        refine ⟨fun d hd => ?_, fun d hd => ?_⟩
        · rcases List.mem_cons.mp hd with rfl | hd
          · exact List.mem_cons_self
          · exact List.mem_cons_of_mem _ (i1 d hd)
        · rcases List.mem_cons.mp hd with rfl | hd
          · exact Or.inr List.mem_cons_self
          · rcases i2 d hd with q | q
            · exact Or.inl q
            · exact Or.inr (List.mem_cons_of_mem _ q)
      · cases h
theorem powO_ok (hT : TOK T ad gh XI) {b m hi top : Int} {t : Lin} (h : SatE T ad gh XI S0 ρ0 E g τ S ρ) (wt : wfL E.1.length t) (hb : 0 ≤ b) (hl : ∀ i : Int, 0 ≤ i → i ≤ hi → gh S (i + (b + 1)) = m * gh S (i + b) ∧ 1 ≤ gh S (i + (b + 1)) ∧ gh S (i + (b + 1)) ≤ top) (hd : powO b m hi top t E = some E') : Xt E E' g g τ τ ∧ SatE T ad gh XI S0 ρ0 E' g τ S ρ := by
  unfold powO at hd
  split at hd
  · rename_i f hf hin
    cases hd
    obtain ⟨i1, i2⟩ := h.inI wt hin
    have hm := h.2.2.2.1 _ (lkM_ok hf)
    have hv : gh S ((ev g (lpl t b)).toNat : Int) = ev g f := hm.2.2.1
    rw [ev_lpl, Int.toNat_of_nonneg (by omega)] at hv
    obtain ⟨l1, l2, l3⟩ := hl _ i1 i2
    have wf := hm.2.1
    have wargs : ∀ a ∈ [lpl t (b + 1)], wfL E.1.length a := fun a ha => by rw [List.mem_singleton.mp ha]; exact wf_lpl wt
    have h1 := h.memo (m := (2, [lpl t (b + 1)], lsc m f)) ⟨wargs, wf_lsc wf, by
      show gh S ((ev g (lpl t (b + 1))).toNat : Int) = ev g (lsc m f)
      rw [ev_lpl, Int.toNat_of_nonneg (by omega), l1, hv, ev_lsc], hT.2.1⟩
    have h2 := SatE.facts (F := [lpl (lsc m f) (Int.negSucc 0), lpl (lneg (lsc m f)) top]) h1 (fun z hz => by
      have n1 : Int.negSucc 0 = (-1 : Int) := rfl
      simp only [List.mem_cons, List.not_mem_nil, or_false] at hz
      rcases hz with rfl | rfl
      · exact ⟨wf_lpl (wf_lsc wf), by rw [ev_lpl, ev_lsc, n1, ← hv, ← l1]; omega⟩
      · exact ⟨wf_lpl (wf_lneg (wf_lsc wf)), by rw [ev_lpl, ev_lneg, ev_lsc, ← hv, ← l1]; omega⟩)
    exact ⟨⟨by rw [eFs_len]; exact Nat.le_refl _, fun _ _ => rfl, by rw [eFs_R]; exact Nat.le_refl _, fun _ _ => rfl⟩, h2⟩
  · cases hd
theorem doOp_ok (hT : TOK T ad gh XI) {q : Pop} (h : doOp T q L K E n pc = some sc) (hs : ∀ x ∈ sc, Gl T ad gh XI S0 ρ0 xs cD cy A p l e R s m args below meth c Q nL x.2 x.1) : Gl T ad gh XI S0 ρ0 xs cD cy A p l e R s m args below meth c Q nL pc ((L, K), E, n) := by
  intro g τ S ρ H locs cells slots ls hA
  have wK := SatA_wfK hA
  have hw := hA.2.2.2.2.2.2.1
  unfold doOp at h
  split at h
  · split at h
    · cases h
      exact hs _ List.mem_cons_self g τ S ρ H locs cells slots ls hA
    · cases h
  · rename_i t ht
    have wt : wfL E.1.length t := opT_wf hA.2.1 hA.1.2.2.2.2.1 ht
    split at h
    · -- a coupled row used
      split at h
      · rename_i G hG hc
        rw [Bool.and_eq_true] at hc
        split at h
        · rename_i E1 fs hv
          cases h
          obtain ⟨g1, a1, a2, a3, a4, a5, a6⟩ := grpV_ok hT hA.1 wt hv
          have hb := hA.1.inI wt hc.2
          have hno := noD_ok hc.1
          obtain ⟨o, ho, hk⟩ := hA.1.2.2.2.2.2.1 q.2.1 G hG (ev g t).toNat (by omega) (fun d hd hd2 => absurd hd2 (hno d hd))
          have e0 : ((ev g t).toNat : Int) = ev g t := by omega
          have hk1 := (a1.K (xs := xs) wK)
          rw [show (((L, K), E, n) : As).1.2 = K from rfl, ← hk1.2]
          refine br_ok (fun x hx => hs x (usO_mem ho x hx)) (hA.xt (K' := K) a1 a2 hk1.1 hw) hk1.1 (ivF_ok (fun i f x hf hx => ?_))
          have hi : i < G.1.length := by rw [← a3]; exact (List.getElem?_eq_some_iff.mp hf).1
          obtain ⟨w1, w2⟩ := a4 i _ f (List.getElem?_eq_getElem hi) hf
          have := hk i _ x (List.getElem?_eq_getElem hi) hx
          refine ⟨w1, ?_⟩
          rw [w2]
          have e3 : ((G.1[i].2 + (ev g t).toNat : Nat) : Int) = ev g t + (G.1[i].2 : Int) := by omega
          rw [e3] at this
          exact this
        · cases h
      · cases h
    · -- a place cleaned
      split at h
      · rename_i G D' hG hr
        split at h
        · rename_i E1 fs hv
          split at h
          · rename_i hany
            cases h
            obtain ⟨g1, a1, a2, a3, a4, a5, a6⟩ := grpV_ok hT hA.1 wt hv
            obtain ⟨d1, d2⟩ := rmD_ok hr
            obtain ⟨o, ho, hio⟩ := List.any_eq_true.mp hany
            obtain ⟨k1, k2⟩ := ivB_ok a2 (fun f hf => by
              obtain ⟨i, hi⟩ := List.getElem?_of_mem hf
              have hil : i < G.1.length := by rw [← a3]; exact (List.getElem?_eq_some_iff.mp hi).1
              exact (a4 i _ f (List.getElem?_eq_getElem hil) hi).1) hio
            have hk1 := (a1.K (xs := xs) wK)
            have xt := a1.f wt
            have hE2 : SatE T ad gh XI S0 ρ0 (E1.1, E1.2.1, E1.2.2.1, E1.2.2.2.1, D', E1.2.2.2.2.2) g1 τ S ρ := by
              obtain ⟨h1, h2, h3, h4, h5, h6, h7, h8, h9⟩ := a2
              rw [a6] at h5 h6
              refine ⟨h1, h2, h3, h4, fun d hd => h5 d (d1 d hd), fun gi G' hG' u hu hd => ?_, h7, h8, h9⟩
              by_cases hcase : gi = q.2.1 ∧ ev g1 t = (u : Int)
              · obtain ⟨rfl, hu2⟩ := hcase
                rw [hG] at hG'
                cases hG'
                refine ⟨o, ho, fun i cq iv hcq hiv => ?_⟩
                have hil : i < fs.length := by rw [k1]; exact (List.getElem?_eq_some_iff.mp hiv).1
                have := k2 i _ iv (List.getElem?_eq_getElem hil) hiv
                have w2 := (a4 i cq _ hcq (List.getElem?_eq_getElem hil)).2
                rw [w2, ← xt.2, hu2] at this
                have e3 : ((cq.2 + u : Nat) : Int) = (u : Int) + (cq.2 : Int) := by omega
                rw [e3]; exact this
              · refine h6 gi G' hG' u hu (fun d hd1 hd2 => ?_)
                rcases d2 d hd1 with z | z
                · rw [z] at hd2 ⊢
                  exact fun q2 => hcase ⟨hd2.symm, q2⟩
                · exact hd d z hd2
            have hX2 : Xt E (E1.1, E1.2.1, E1.2.2.1, E1.2.2.2.1, D', E1.2.2.2.2.2) g g1 τ τ := a1
            rw [show (((L, K), E, n) : As).1.2 = K from rfl, ← hk1.2]
            exact hs _ List.mem_cons_self g1 τ S ρ H locs cells slots ls (hA.xt (K' := K) hX2 hE2 hk1.1 hw)
          · cases h
        · cases h
      · cases h
    · cases h
      by_cases hz : 0 ≤ ev g t
      · exact br_ok (fun x hx => hs x (List.mem_append_left _ hx)) hA wK (fun f hf => by rw [List.mem_singleton.mp hf]; exact ⟨wt, hz⟩)
      · refine br_ok (fun x hx => hs x (List.mem_append_right _ hx)) hA wK (fun f hf => ?_)
        rw [List.mem_singleton.mp hf]
        refine ⟨wf_lpl (wf_lneg wt), ?_⟩
        rw [ev_lpl, ev_lneg]
        have : Int.negSucc 0 = (-1 : Int) := rfl
        omega
    · split at h
      · rename_i he
        cases h
        have := hA.1.ok wt he
        exact br_ok hs hA wK (fun f hf => by rw [List.mem_singleton.mp hf]; exact ⟨wt, this⟩)
      · cases h
    · split at h
      · rename_i E1 f1 h1
        cases h
        obtain ⟨g1, a1, a2, a3, a4, a5, -, a6, a7⟩ := gtM_ok hT hA.1 (fun a ha => by rw [List.mem_singleton.mp ha]; exact wt) h1
        have hk1 := (a1.K (xs := xs) wK)
        rw [show (((L, K), E, n) : As).1.2 = K from rfl, ← hk1.2]
        exact hs _ List.mem_cons_self g1 τ S ρ H locs cells slots ls (hA.xt (K' := K) a1 a2 hk1.1 hw)
      · cases h
    · split at h
      · rename_i E1 h1
        cases h
        obtain ⟨a1, a2⟩ := powO_ok hT hA.1 wt (by decide) (fun i hi h2 => ((hT.2.2.2.2.2.2.2 S).2.2.1 i hi h2)) h1
        have hk1 := (a1.K (xs := xs) wK)
        exact hs _ List.mem_cons_self g τ S ρ H locs cells slots ls (hA.xt (K' := K) a1 a2 hk1.1 hw)
      · cases h
    · split at h
      · rename_i E1 h1
        cases h
        obtain ⟨a1, a2⟩ := powO_ok hT hA.1 wt (by decide) (fun i hi h2 => ((hT.2.2.2.2.2.2.2 S).2.2.2 i hi h2)) h1
        have hk1 := (a1.K (xs := xs) wK)
        exact hs _ List.mem_cons_self g τ S ρ H locs cells slots ls (hA.xt (K' := K) a1 a2 hk1.1 hw)
      · cases h
    · cases h
      have hp := hT.2.2.2.2.2.2.2 S
      have w0 : ∀ a ∈ [lc 2000], wfL E.1.length a := fun a ha => by rw [List.mem_singleton.mp ha]; exact wf_lc
      have w1 : ∀ a ∈ [lc 3000], wfL E.1.length a := fun a ha => by rw [List.mem_singleton.mp ha]; exact wf_lc
      have hE2 := hA.1.memo (m := (2, [lc 2000], lc 1)) ⟨w0, wf_lc, by
        show gh S ((ev g (lc 2000)).toNat : Int) = ev g (lc 1)
        rw [ev_lc, ev_lc]; exact hp.1, hT.2.1⟩
      have hE3 := hE2.memo (m := (2, [lc 3000], lc 1)) ⟨w1, wf_lc, by
        show gh S ((ev g (lc 3000)).toNat : Int) = ev g (lc 1)
        rw [ev_lc, ev_lc]; exact hp.2.1, hT.2.1⟩
      exact hs _ List.mem_cons_self g τ S ρ H locs cells slots ls (hA.xt (K' := K) (E' := eM (eM E (2, [lc 2000], lc 1)) (2, [lc 3000], lc 1)) ⟨Nat.le_refl _, fun _ _ => rfl, Nat.le_refl _, fun _ _ => rfl⟩ hE3 wK hw)
    · split at h
      · rename_i f hf
        cases h
        obtain ⟨a, h1, h2⟩ := eqM_ok hf
        obtain ⟨k1, k2, k3, k4⟩ := hA.1.2.2.2.1 _ h1
        have wa : wfL E.1.length a := k1 a List.mem_cons_self
        obtain ⟨i1, i2⟩ := hA.1.inI (wf_lsub wa wt) h2
        rw [ev_lsub] at i1 i2
        have hE2 := hA.1.memo (m := (q.2.1, [t], f)) ⟨fun z hz => by rw [List.mem_singleton.mp hz]; exact wt, k2, by
          have e : ([t] : List Lin).map (ev g) = ([a] : List Lin).map (ev g) := by
            show [ev g t] = [ev g a]
            rw [show ev g t = ev g a by omega]
          show GV T ad gh q.2.1 S (([t] : List Lin).map (ev g)) = ev g f
          rw [e]; exact k3, k4⟩
        exact hs _ List.mem_cons_self g τ S ρ H locs cells slots ls (hA.xt (K' := K) (E' := eM E (q.2.1, [t], f)) ⟨Nat.le_refl _, fun _ _ => rfl, Nat.le_refl _, fun _ _ => rfl⟩ hE2 wK hw)
      · cases h
    · split at h
      · rename_i E1 f1 h1
        split at h
        · rename_i he
          cases h
          obtain ⟨g1, a1, a2, a3, a4, a5, -, a6, a7⟩ := gtM_ok hT hA.1 (fun a ha => by cases ha) h1
          have hk1 := (a1.K (xs := xs) wK)
          have xt := a1.f wt
          have w2 : wfL E1.1.length (ladd f1 t) := wf_ladd a3 xt.1
          rw [show (((L, K), E, n) : As).1.2 = K from rfl, ← hk1.2]
          exact br_ok hs (hA.xt (K' := K) a1 a2 hk1.1 hw) hk1.1 (fun f hf => by rw [List.mem_singleton.mp hf]; exact ⟨w2, a2.ok w2 he⟩)
        · cases h
      · cases h
    · cases h
theorem stepAll_ok {q : Pop} : ∀ {sc s1 : Suc}, doOps.stepAll T q sc = some s1 → ∀ x ∈ sc, ∃ s2, doOp T q x.1.1.1 x.1.1.2 x.1.2.1 x.1.2.2 x.2 = some s2 ∧ ∀ z ∈ s2, z ∈ s1
  | [], s1, _, x, hx => by simp at hx
  | a :: sc, s1, h, x, hx => by
    simp only [doOps.stepAll] at h
    split at h
    · rename_i b d h1 h2
      cases h
      rcases List.mem_cons.mp hx with rfl | hx
      · exact ⟨b, h1, fun z hz => List.mem_append_left _ hz⟩
      · obtain ⟨s2, k1, k2⟩ := stepAll_ok h2 x hx
        exact ⟨s2, k1, fun z hz => List.mem_append_right _ (k2 z hz)⟩
    · cases h
theorem doOps_ok (hT : TOK T ad gh XI) : ∀ {qs : List Pop} {sc s1 : Suc}, doOps T qs sc = some s1 → (∀ x ∈ s1, Gl T ad gh XI S0 ρ0 xs cD cy A p l e R s m args below meth c Q nL x.2 x.1) → ∀ x ∈ sc, Gl T ad gh XI S0 ρ0 xs cD cy A p l e R s m args below meth c Q nL x.2 x.1
  | [], sc, s1, h, hs, x, hx => by
    cases h
    exact hs x hx
  | q :: qs, sc, s1, h, hs, x, hx => by
    simp only [doOps] at h
    split at h
    · rename_i s2 h2
      obtain ⟨s3, k1, k2⟩ := stepAll_ok h2 x hx
      have ih := doOps_ok hT h hs
      exact doOp_ok hT k1 (fun z hz => ih z (k2 z hz))
    · cases h
/-! places with invariants -/
theorem gtLs_ok {L : Lc} : ∀ {is : List Nat} {vs : List Vl}, gtLs is L = some vs → vs.length = is.length ∧ ∀ q ∈ zipL is vs, ∃ k : Nat, L[k]? = some q
  | [], vs, h => by cases h; exact ⟨rfl, fun q hq => by simp [zipL] at hq⟩
  | i :: is, vs, h => by
    simp only [gtLs] at h
    split at h
    · rename_i v vs' h1 h2
      cases h
      obtain ⟨i1, i2⟩ := gtLs_ok h2
      refine ⟨by simp [i1], fun q hq => ?_⟩
      rcases List.mem_cons.mp hq with rfl | hq
      · exact gtL_ok h1
      · exact i2 q hq
    · cases h
theorem γL_zip {g1 : Nat → Int} {t1 : Nat → Option Nat} : ∀ {is : List Nat} {T1 vs : List Vl}, is.length ≤ T1.length → is.length ≤ vs.length → γK g1 t1 xs (T1.take is.length) = γK g τ xs (vs.take is.length) → γL g1 t1 xs (zipL is T1) = γL g τ xs (zipL is vs)
  | [], _, _, _, _, _ => rfl
  | i :: is, [], _, h, _, _ => by simp at h
  | i :: is, _ :: _, [], _, h, _ => by simp at h
  | i :: is, a :: T1, b :: vs, h1, h2, h => by
    have h : γ g1 t1 xs a :: γK g1 t1 xs (T1.take is.length) = γ g τ xs b :: γK g τ xs (vs.take is.length) := h
    have e1 := (List.cons.inj h).1
    have e2 := (List.cons.inj h).2
    show (i, γ g1 t1 xs a) :: γL g1 t1 xs (zipL is T1) = (i, γ g τ xs b) :: γL g τ xs (zipL is vs)
    rw [e1, γL_zip (by simpa using h1) (by simpa using h2) e2]
theorem zipL_app {is : List Nat} {a b : List Vl} (h : a.length = is.length) : zipL is (a ++ b) = zipL is a := by
  induction is generalizing a with
  | nil => cases a with
    | nil => cases b <;> rfl
    | cons x y => simp at h
  | cons i is ih => cases a with
    | nil => simp at h
    | cons x y =>
      show (i, x) :: zipL is (y ++ b) = (i, x) :: zipL is y
      rw [ih (by simpa using h)]
theorem zipL_wf {E : En} : ∀ {is : List Nat} {vs : List Vl}, wfK E vs → wfLc E (zipL is vs)
  | [], _, _ => fun q hq => by simp [zipL] at hq
  | _ :: _, [], _ => fun q hq => by simp [zipL] at hq
  | i :: is, v :: vs, h => fun q hq => by
    rcases List.mem_cons.mp hq with rfl | hq
    · exact h v List.mem_cons_self
    · exact zipL_wf (wfK_tl h) q hq
theorem gmM_mem {mm : Mem} : ∀ {G : List (Nat × List Lin)} {nA : Nat}, mm ∈ gmM nA G → ∃ (j : Nat) (q : Nat × List Lin), G[j]? = some q ∧ mm = (q.1, q.2, lsy (nA + j))
  | [], nA, h => by simp [gmM] at h
  | q :: G, nA, h => by
    simp only [gmM] at h
    rcases List.mem_cons.mp h with rfl | h
    · exact ⟨0, q, rfl, rfl⟩
    · obtain ⟨j, z, h1, h2⟩ := gmM_mem h
      exact ⟨j + 1, z, by simpa using h1, by rw [h2, show nA + 1 + j = nA + (j + 1) by omega]⟩
theorem bndO_ok (hT : TOK T ad gh XI) {Is : List Itv} : ∀ {ms : List Mem} {E E' : En} {g : Nat → Int} {θ θ' : List Lin}, SatE T ad gh XI S0 ρ0 E g τ S ρ → (∀ t ∈ θ, wfL E.1.length t) → (∀ i, i < θ.length → (nth (0, 0) Is i).1 ≤ gs g θ i ∧ gs g θ i ≤ (nth (0, 0) Is i).2) → bndO T Is ms E θ = some (E', θ') →
    ∃ g', Xt E E' g g' τ τ ∧ SatE T ad gh XI S0 ρ0 E' g' τ S ρ ∧ (∀ t ∈ θ', wfL E'.1.length t) ∧ (∀ i, i < θ'.length → (nth (0, 0) Is i).1 ≤ gs g' θ' i ∧ gs g' θ' i ≤ (nth (0, 0) Is i).2) ∧ (∃ x, θ' = θ ++ x) ∧ (∀ q ∈ ms, GV T ad gh q.1 S (q.2.1.map (ev (gs g' θ'))) = ev (gs g' θ') q.2.2 ∧ ∀ reg ∈ gfp T q.1, reg < (tRG T).length) ∧ E'.2.1 = E.2.1 ∧ E'.2.2.2.2 = E.2.2.2.2
  | [], E, E', g, θ, θ', h, wθ, hI, hb => by
    simp only [bndO] at hb
    cases hb
    exact ⟨g, Xt.refl, h, wθ, hI, ⟨[], by simp⟩, fun q hq => by simp at hq, rfl, rfl⟩
  | q :: r, E, E', g, θ, θ', h, wθ, hI, hb => by
    simp only [bndO] at hb
    split at hb
    · rename_i E1 f hw hg
      have hww : ∀ a ∈ q.2.1, wfL θ.length a := fun a ha => wfB_ok (List.all_eq_true.mp hw a ha)
      have wsb : ∀ a ∈ q.2.1.map (sb θ), wfL E.1.length a := by
        intro a ha
        obtain ⟨b, hb, rfl⟩ := List.mem_map.mp ha
        exact wf_sb wθ b
      obtain ⟨g1, x1, h1, wf1, v1, r1, -, e8, e9⟩ := gtM_ok hT h wsb hg
      have wθ1 : ∀ t ∈ θ, wfL E1.1.length t := fun t ht => wf_mono (wθ t ht) x1.1
      have eθ : ∀ i, gs g1 θ i = gs g θ i := fun i => gs_xt x1 wθ i
      have eargs : ∀ g2 : Nat → Int, (∀ i, i < θ.length → g2 i = gs g θ i) → q.2.1.map (ev g2) = (q.2.1.map (sb θ)).map (ev g) := by
        intro g2 hg2
        rw [List.map_map]
        refine List.map_congr_left (fun a ha => ?_)
        show ev g2 a = ev g (sb θ a)
        rw [ev_sb]
        exact ev_congr (hww a ha) hg2
      split at hb
      · rename_i hs
        have hs := isSy_ok hs
        split at hb
        · rename_i hi
          obtain ⟨i1, i2⟩ := h1.inI wf1 hi
          have hl : (θ ++ [f]).length = θ.length + 1 := by simp
          have hI1 : ∀ i, i < (θ ++ [f]).length → (nth (0, 0) Is i).1 ≤ gs g1 (θ ++ [f]) i ∧ gs g1 (θ ++ [f]) i ≤ (nth (0, 0) Is i).2 := by
            intro i hi
            rcases Nat.lt_or_ge i θ.length with z | z
            · rw [gs_app z, eθ]; exact hI i z
            · have : i = θ.length + 0 := by omega
              rw [this]
              unfold gs
              rw [nth_app2]
              exact ⟨i1, i2⟩
          have wθ2 : ∀ t ∈ θ ++ [f], wfL E1.1.length t := by
            intro t ht
            rcases List.mem_append.mp ht with z | z
            · exact wθ1 t z
            · rw [List.mem_singleton.mp z]; exact wf1
          obtain ⟨g2, y1, y2, y3, y4, ⟨x, y5⟩, y6, y7, y8⟩ := bndO_ok hT h1 wθ2 hI1 hb
          have eg : ∀ i, i < θ.length → gs g2 θ' i = gs g θ i := by
            intro i hi
            rw [y5, gs_app (by omega : i < (θ ++ [f]).length), gs_xt y1 wθ2, gs_app hi, eθ]
          refine ⟨g2, x1.trans y1, y2, y3, y4, ⟨[f] ++ x, by rw [y5, List.append_assoc]⟩, fun z hz => ?_, y7.trans e8, y8.trans e9⟩
          rcases List.mem_cons.mp hz with rfl | hz
          · refine ⟨?_, r1⟩
            rw [eargs _ eg, v1, hs, ev_lsy, y5, gs_app (by omega : θ.length < (θ ++ [f]).length)]
            show _ = ev g2 (nth (0, []) (θ ++ [f]) (θ.length + 0))
            rw [nth_app2]
            exact (y1.f wf1).2.symm
          · exact y6 z hz
        · cases hb
      · split at hb
        · rename_i hi
          rw [Bool.and_eq_true] at hi
          have wq := wfB_ok hi.1
          obtain ⟨i1, i2⟩ := h1.inI (wf_lsub wf1 (wf_sb wθ1 _)) hi.2
          rw [ev_lsub, ev_sb] at i1 i2
          obtain ⟨g2, y1, y2, y3, y4, ⟨x, y5⟩, y6, y7, y8⟩ := bndO_ok hT h1 wθ1 (fun i hi => by rw [eθ]; exact hI i hi) hb
          have eg : ∀ i, i < θ.length → gs g2 θ' i = gs g θ i := by
            intro i hi
            rw [y5, gs_app hi, gs_xt y1 wθ1, eθ]
          refine ⟨g2, x1.trans y1, y2, y3, y4, ⟨x, y5⟩, fun z hz => ?_, y7.trans e8, y8.trans e9⟩
          rcases List.mem_cons.mp hz with rfl | hz
          · refine ⟨?_, r1⟩
            rw [eargs _ eg, v1]
            have e1 : ev (gs g2 θ') z.2.2 = ev (fun i => ev g1 (nth (0, []) θ i)) z.2.2 := ev_congr wq (fun i hi => by rw [eg i hi, ← eθ i]; rfl)
            rw [e1]; omega
          · exact y6 z hz
        · cases hb
    · cases hb
theorem arrv_ok (hT : TOK T ad gh XI) {mu : Option Lin} {ct : Cut} (hwc : wfCut ct = true) (hmw : ∀ m0, mu = some m0 → wfL E.1.length m0) (h : arrv T mu ct ((L, K), E, n) = true)
    {H : Heap} {locs : List Loc} {cells slots : Nat} {ls : Array Slot} (hA : SatA T ad gh XI S0 ρ0 xs cD cy A s nL ((L, K), E, n) g τ S ρ H locs cells slots ls) :
    ∃ (g1 : Nat → Int) (t1 : Nat → Option Nat), SatA T ad gh XI S0 ρ0 xs cD cy A s nL (cutS ct) g1 t1 S ρ H locs cells slots ls ∧ γK g1 t1 xs (cutS ct).1.2 = γK g τ xs K ∧ ∀ m0, mu = some m0 → 0 ≤ ev g1 ct.2.2.2.2.1 ∧ ev g1 ct.2.2.2.2.1 < ev g m0 := by
  unfold arrv at h
  split at h
  · cases h
  · rename_i vs hvs
    obtain ⟨lv, hin⟩ := gtLs_ok hvs
    dsimp only at h
    split at h
    · rename_i sg hD
      generalize hsg : ct.2.2.1 = sg at h
      have wK := SatA_wfK hA
      have wvs : wfK E vs := by
        intro v hv
        obtain ⟨i, hi⟩ := List.getElem?_of_mem hv
        have hil : i < ct.2.1.length := by rw [← lv]; exact (List.getElem?_eq_some_iff.mp hi).1
        have : ∀ {is : List Nat} {vs : List Vl} {i : Nat} {v : Vl}, vs.length = is.length → vs[i]? = some v → ∃ k, (k, v) ∈ zipL is vs := by
          intro is
          induction is with
          | nil => intro vs i v h1 h2; cases vs with
            | nil => simp at h2
            | cons a b => simp at h1
          | cons a is ih => intro vs i v h1 h2; cases vs with
            | nil => simp at h1
            | cons b vs => cases i with
              | zero => have h2 : b = v := by simpa using h2
                        subst h2
                        exact ⟨a, List.mem_cons_self⟩
              | succ i => obtain ⟨k, hk⟩ := ih (by simpa using h1) (by simpa using h2)
                          exact ⟨k, List.mem_cons_of_mem _ hk⟩
        obtain ⟨k, hk⟩ := this lv hi
        obtain ⟨j, hj⟩ := hin _ hk
        exact hA.2.1 _ (List.mem_of_getElem? hj)
      have wAll : wfK E (vs ++ K) := fun v hv => (List.mem_append.mp hv).elim (wvs v) (wK v)
      cases hb : bndA (sI sg) (sA sg) (vs ++ K) E [] [] with
      | none => rw [hb] at h; cases h
      | some z =>
        obtain ⟨E1, θ, θr⟩ := z
        rw [hb] at h
        dsimp only at h
        obtain ⟨g1, a1, a2, a3, a4, a5, -, -, a8, a9⟩ := bndA_ok (xs := xs) hA.1 wAll (fun t ht => by simp at ht) (fun t ht => by simp at ht) (fun i hi => by simp at hi) hb
        cases hb2 : bndO T (sI sg) ct.2.2.2.2.2.2 E1 θ with
        | none => rw [hb2] at h; cases h
        | some z =>
          obtain ⟨E2, θ'⟩ := z
          rw [hb2] at h
          dsimp only at h
          obtain ⟨g2, b1, b2, b3, b4, ⟨x, b5⟩, b7, b8, b9⟩ := bndO_ok hT a2 a3 a5 hb2
          simp only [Bool.and_eq_true] at h
          obtain ⟨⟨⟨⟨⟨⟨⟨d1, d2⟩, d3⟩, d4⟩, d5⟩, d6⟩, d7⟩, d8⟩ := h
          have d1 := Nat.eq_of_beq_eq_true d1
          have hwr : ∀ j ∈ θr, j < E2.2.1.length := fun j hj => by rw [b8]; exact a4 j hj
          obtain ⟨e1, e2⟩ := refB_ok b2 hwr d2
          have hX := a1.trans b1
          unfold wfCut at hwc
          rw [hsg] at hwc
          simp only [Bool.and_eq_true] at hwc
          obtain ⟨⟨⟨⟨⟨⟨w1, w2⟩, w3⟩, w4⟩, w6⟩, w7⟩, w8⟩ := hwc
          have w1 := Nat.le_of_ble_eq_true w1
          have eargs : γK (gs g2 θ') (ts τ θr) xs (sA sg) = γK g τ xs (vs ++ K) := by
            refine a8 (gs g2 θ') (ts τ θr) (fun i hi => ?_) (fun i _ => rfl)
            rw [b5, gs_app hi, gs_xt b1 a3]
          have hlenA : (sA sg).length = (vs ++ K).length := by
            have := congrArg List.length eargs
            simpa [γK] using this
          have etake : γK (gs g2 θ') (ts τ θr) xs ((sA sg).take ct.2.1.length) = γK g τ xs ((vs ++ K).take ct.2.1.length) := by
            show List.map _ _ = List.map _ _
            rw [List.map_take, List.map_take]; exact congrArg (List.take ct.2.1.length) eargs
          have edrop : γK (gs g2 θ') (ts τ θr) xs ((sA sg).drop ct.2.1.length) = γK g τ xs K := by
            have e3 : γK g τ xs ((vs ++ K).drop ct.2.1.length) = γK g τ xs K := by rw [← lv, List.drop_left]
            rw [← e3]
            show List.map _ _ = List.map _ _
            rw [List.map_drop, List.map_drop]; exact congrArg (List.drop ct.2.1.length) eargs
          have elocs : γL (gs g2 θ') (ts τ θr) xs (zipL ct.2.1 (sA sg)) = γL g τ xs (zipL ct.2.1 vs) := by
            rw [γL_zip w1 (by rw [List.length_append]; omega) etake, zipL_app lv]
          have wA : ∀ v ∈ sA sg, wfV (sI sg).length (sR sg).length v := fun v hv => wfVB_ok (List.all_eq_true.mp w2 v hv)
          have hsat : SatE T ad gh XI S0 ρ0 (sI sg, sR sg, sF sg, ct.2.2.2.2.2.2, [], sM sg, ct.2.2.2.2.2.1) (gs g2 θ') (ts τ θr) S ρ := by
            refine ⟨fun i hi => b4 i (by rw [d1]; exact hi), e2, fun f hf => ⟨wfB_ok (List.all_eq_true.mp w3 f hf), ?_⟩, fun mm hm => ?_, fun d hd => by simp at hd, ?_, ?_, fun i hi => ?_, b2.2.2.2.2.2.2.2.2⟩
            · have hff := List.all_eq_true.mp d3 f hf
              have := b2.ok (wf_sb b3 f) hff
              rw [ev_sb] at this
              exact this
            · obtain ⟨k1, k2⟩ := b7 mm hm
              have hw4 := List.all_eq_true.mp w4 mm hm
              rw [Bool.and_eq_true] at hw4
              exact ⟨fun a ha => wfB_ok (List.all_eq_true.mp hw4.1 a ha), wfB_ok hw4.2, k1, k2⟩
            · have hD2 : E2.2.2.2.2.1 = [] := by rw [b9, a9]; exact hD
              have := b2.2.2.2.2.2.1
              rw [hD2] at this
              exact fun gi G hG t ht _ => this gi G hG t ht (fun d hd => by simp at hd)
            · have hF := b2.2.2.2.2.2.2.1
              have hmd : E2.2.2.2.2.2.1 = E.2.2.2.2.2.1 := by rw [b9, a9]
              rw [hmd] at hF
              exact hF.mono (sbs_ok d4)
            · have := List.all_eq_true.mp d5 i hi
              rw [Bool.and_eq_true] at this
              have hlt : i < θr.length := Nat.le_of_ble_eq_true this.2
              exact ⟨by show i < (sR sg).length; omega, (b2.2.2.2.2.2.2.2.1 _ (nin_iff.mp this.1)).2⟩
          have hn1 := hX.f hA.2.2.2.1.1
          have hn2 := hX.f hA.2.2.2.1.2
          have c1 := b2.ok (wf_lsub (wf_sb b3 _) hn1.1) d6
          have c2 := b2.ok (wf_lsub (wf_sb b3 _) hn2.1) d7
          rw [ev_lsub, ev_sb, hn1.2] at c1
          rw [ev_lsub, ev_sb, hn2.2] at c2
          have m1 := hA.2.2.2.2.1
          have m2 := hA.2.2.2.2.2.1
          dsimp only at m1 m2
          refine ⟨gs g2 θ', ts τ θr, ⟨?_, ?_, ?_, ⟨?_, ?_⟩, ?_, ?_, hA.2.2.2.2.2.2.1, ?_⟩, ?_, fun m0 hm0 => ?_⟩
          · show SatE T ad gh XI S0 ρ0 (cutS ct).2.1 _ _ S ρ
            unfold cutS; rw [hsg]; exact hsat
          · unfold cutS; rw [hsg]; exact zipL_wf (E := (sI sg, sR sg, sF sg, _, [], _, _)) wA
          · unfold cutS; rw [hsg]; exact fun v hv => wA v (List.mem_of_mem_drop hv)
          · unfold cutS; rw [hsg]; exact wfB_ok w6
          · unfold cutS; rw [hsg]; exact wfB_ok w7
          · unfold cutS; show (cells : Int) ≤ ev (gs g2 θ') ct.2.2.2.1.1
            have c1 : 0 ≤ ev (gs g2 θ') ct.2.2.2.1.1 - ev g n.1 := c1
            omega
          · unfold cutS; show (slots : Int) ≤ ev (gs g2 θ') ct.2.2.2.1.2
            have c2 : 0 ≤ ev (gs g2 θ') ct.2.2.2.1.2 - ev g n.2 := c2
            omega
          · unfold cutS; rw [hsg]
            show lv_has ls nL (γL (gs g2 θ') (ts τ θr) xs (zipL ct.2.1 (sA sg)))
            rw [elocs]
            obtain ⟨y1, y2, y3⟩ := hA.2.2.2.2.2.2.2
            refine ⟨y1, y2, fun q hq => ?_⟩
            obtain ⟨q0, hq0, rfl⟩ := List.mem_map.mp hq
            obtain ⟨k, hk⟩ := hin q0 hq0
            exact y3 _ (List.mem_map.mpr ⟨q0, List.mem_of_getElem? hk, rfl⟩)
          · unfold cutS; rw [hsg]; exact edrop
          · subst hm0
            dsimp only at d8
            rw [Bool.and_eq_true] at d8
            have wm := hX.f (hmw m0 rfl)
            have f1 := b2.ok (wf_lpl (wf_lsub wm.1 (wf_sb b3 _))) d8.1
            have f2 := b2.ok (wf_sb b3 _) d8.2
            rw [ev_lpl, ev_lsub, ev_sb, wm.2] at f1
            rw [ev_sb] at f2
            have : ev (fun i => ev g2 (nth (0, []) θ' i)) ct.2.2.2.2.1 = ev (gs g2 θ') ct.2.2.2.2.1 := rfl
            have hneg : Int.negSucc 0 = (-1 : Int) := rfl
            omega
    · cases h
end RS
