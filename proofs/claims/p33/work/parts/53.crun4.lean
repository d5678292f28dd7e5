/-! a constructor run to its end -/
abbrev CMt : Type := Nat × Nat × Nat × CB × Pg × Nat
def crun : Nat → CB → Nat → Nat × Nat → Pg → List (Nat × CMt) → Nat → CX → Option CX
  | 0, _, _, _, _, _, _, _ => none
  | f + 1, B, nL, lim, P, subs, t, (c, iv, K, nc, ns, pc) => match gtP P pc with
    | none => none
    | some (ins, ln) => match Nat.beq ln (clen ins) && Nat.ble K.length 8 with
      | false => none
      | true => match ins, K with
        | .return_, [] => some (c, iv, [], nc, ns, pc)
        | ins, K => match cstep B lim t ins (c, iv, K, nc, ns, pc) with
          | some x' => match (match x'.2.1 with
              | none => true
              | some _ => Nat.ble 2 nL) with
            | true => crun f B nL lim P subs t x'
            | false => none
          | none => match ins, K with
            | .invokespecial idx, .inr (some i) :: K' => match asc idx subs with
              | some (k, mc, ms, B', P', nL') => match Nat.beq (nth co0 c i).1 k && Nat.blt i c.length && Nat.blt k 13 && Nat.ble (nc + mc) lim.1 && Nat.ble (ns + ms) lim.2 with
                | true => match crun f B' nL' (mc, ms) P' [] i (c, none, [], 0, 0, 0) with
                  | some y => match Nat.ble c.length y.1.length with
                    | true => crun f B nL lim P subs t (y.1, iv, K', nc + mc, ns + ms, pc + 3)
                    | false => none
                  | none => none
                | false => none
              | none => none
            | _, _ => none
def CPost (r0 : Nat → Nat) (n0 : Nat) (c : CSt) : Option Value → zS → (Nat → Nat) → Prop := fun rv S _ => rv = none ∧ ∃ r, (∀ i, i < n0 → r i = r0 i) ∧ CS r c S
def SOK (own : String) (idx : Nat) (M : CMt) : Prop := ∃ (y : MethodName) (cc : ByteArray) (own' : String), RCall own 1 idx 1 M.1 y cc M.2.2.2.2.2 none ∧ BOK own' M.2.2.2.1 ∧ (∀ b ∈ M.2.2.2.2.1, ∀ q ∈ b, decode cc q.1 = .ok (q.2.1, q.2.2)) ∧ plainName y.cls = true ∧ y.cls = own' ∧ y.name = "<init>" ∧ 1 ≤ M.2.2.2.2.2 ∧ M.2.2.2.2.2 ≤ 4
theorem gtP_m {P : Pg} {pc : Nat} {q : ClassFile.Instr × Nat} (h : gtP P pc = some q) : ∃ b ∈ P, (pc, q) ∈ b := by
  unfold gtP at h
  have h1 := asc_ok h
  rcases nth_mem_or (d := ([] : List (Nat × ClassFile.Instr × Nat))) (l := P) (i := pc / 32) with z | z
  · exact ⟨_, z, h1⟩
  · rw [z] at h1; cases h1
theorem cNw_cnt {lim : Nat × Nat} {k n : Nat} {c : CSt} {iv : Option Int} {K : List CV} {nc ns M pc' : Nat} {x' : CX} (h : cNw lim k n c iv K nc ns M pc' = some x') : x'.2.2.2.1 ≤ lim.1 ∧ x'.2.2.2.2.1 ≤ lim.2 := by
  have := cNw_rm h
  unfold cNw at h
  split at h
  · cases h; exact this
  · cases h
theorem cstep_cnt {B : CB} {lim : Nat × Nat} {t : Nat} {ins : ClassFile.Instr} {c : CSt} {iv : Option Int} {K : List CV} {nc ns pc : Nat} {x' : CX} (h : cstep B lim t ins (c, iv, K, nc, ns, pc) = some x') (h1 : nc ≤ lim.1) (h2 : ns ≤ lim.2) : x'.2.2.2.1 ≤ lim.1 ∧ x'.2.2.2.2.1 ≤ lim.2 := by
  unfold cstep at h
  dsimp only at h
  repeat' split at h
  all_goals first
    | exact cNw_cnt h
    | (cases h; exact ⟨h1, h2⟩)
    | cases h
section CRX
variable {xs : Nat → Nat} {cD : va_G} {cy : Nat → ClassId} {l : Launch}
/-- what a run says of a method -/
def CMet (xs : Nat → Nat) (cD : va_G) (cy : Nat → ClassId) (l : Launch) (f : Nat) : Prop :=
  ∀ (own : String) (B : CB) (nL : Nat) (lim : Nat × Nat) (P : Pg) (subs : List (Nat × CMt)) (y : MethodName) (cc : ByteArray) (fr lo : Nat) (t : Nat) (x' : CX) (r : Nat → Nat) (c : CSt) (S : zS) (sz : Nat),
    BOK own B → (∀ idx M, (idx, M) ∈ subs → SOK own idx M) → (∀ b ∈ P, ∀ q ∈ b, decode cc q.1 = .ok (q.2.1, q.2.2)) → plainName y.cls = true → y.cls = own → y.name = "<init>" → 1 ≤ nL → nL ≤ 4 → 1 ≤ fr → 40 ≤ lo → (subs ≠ [] → 2 ≤ fr ∧ 100 ≤ lo) →
    crun f B nL lim P subs t (c, none, [], 0, 0, 0) = some x' → CS r c S → t < c.length →
    Met l y (Cond.code y cc nL none :: TB) { frames := fr, cells := lim.1, slots := lim.2, locals := lo } (va_Pc [.ref (r t)] (zPre xs cD cy S sz)) (QX cD cy (CPost r c.length x'.1) (zAd cy S sz)) lim.1 lim.2 (zAd cy S sz)
theorem crun_ok {F : Nat} (ih : ∀ f, f < F → CMet xs cD cy l f) : ∀ (f : Nat), f ≤ F → ∀ {A : Nat → Prop} {p : Program} {e : Env} {R : Room} {s : State} {m : MethodId} {args : Array Value} {below : List Frame} {meth : Method} {c0 : Code} {cc : ByteArray} {nL : Nat} {Ts : List Cond} {own : String} {B : CB} {lim : Nat × Nat} {P : Pg} {subs : List (Nat × CMt)} {t : Nat} {x x' : CX} {r0 : Nat → Nat} {n0 : Nat},
    MX xs cD cy A p s m args c0 cc nL Ts own → c0.maxLocals = nL → meth.sig.returnType = none → meth.locks = false → meth.name = "<init>" → BOK own B → (∀ idx M, (idx, M) ∈ subs → SOK own idx M) → (∀ b ∈ P, ∀ q ∈ b, decode cc q.1 = .ok (q.2.1, q.2.2)) → nL ≤ 4 → 1 ≤ R.frames → 40 ≤ R.locals → (subs ≠ [] → 2 ≤ R.frames ∧ 100 ≤ R.locals) → R.cells = lim.1 → R.slots = lim.2 → x.2.2.2.1 ≤ lim.1 → x.2.2.2.2.1 ≤ lim.2 →
    crun f B nL lim P subs t x = some x' → CGl cD cy A p l e R s m args below meth c0 (MQ below (QX cD cy (CPost r0 n0 x'.1) A) args s lim.1 lim.2 A) nL r0 n0 t x := by
  intro f
  induction f with
  | zero => intro hf A p e R s m args below meth c0 cc nL Ts own B lim P subs t x x' r0 n0 hM h1 h2 h3 h4 h5 h6 h7 h8 h9 h10 h11 h12 h13 h14 h15 h; cases h
  | succ f ihf => ?_
  intro hf A p e R s m args below meth c0 cc nL Ts own B lim P subs t x x' r0 n0 hM hml hret hlk hnm hB hS hP hnL hfr hlo hsub hcl hsl hx1 hx2 h
  obtain ⟨c, iv, K, nc, ns, pc⟩ := x
  unfold crun at h
  split at h
  · cases h
  · rename_i ins ln hg
    obtain ⟨b, hb1, hb2⟩ := gtP_m hg
    have hd := hP b hb1 _ hb2
    dsimp only at hd
    split at h
    · cases h
    · rename_i hc
      rw [Bool.and_eq_true] at hc
      have hln := Nat.eq_of_beq_eq_true hc.1
      have hK8 := Nat.le_of_ble_eq_true hc.2
      rw [hln] at hd
      split at h
      · -- the end
        cases h
        intro r S H locs cells slots ls hC hw hl ht hK hcc hss hn hr
        refine W.widen (Nat.le_trans hcc hx1) (Nat.le_trans hss hx2) (W.vret hM.1.1 hM.1.2.1 hret (fun t ht hW => ⟨⟨none, S, fun _ => 0, rfl, ⟨rfl, r, hr, hC⟩, by rw [ht]; exact hw.1, hw.2.1⟩, hw.2.2.F ht⟩) hw.2.2.2.2 hd hlk)
      · split at h
        · rename_i x1 hstep
          split at h
          · rename_i hiv
            have hcnt := cstep_cnt hstep hx1 hx2
            exact cstep_ok (x' := x1) hM hml hB hnm hnL ⟨hfr, by omega, by omega, hlo⟩ hK8 hd hstep (ihf (by omega) hM hml hret hlk hnm hB hS hP hnL hfr hlo hsub hcl hsl hcnt.1 hcnt.2 h) (fun hne => by
              cases hz : x1.2.1 with
              | none => exact absurd hz hne
              | some v => rw [hz] at hiv; exact Nat.le_of_ble_eq_true hiv)
          · cases h
        · split at h
          · -- a call
            rename_i _ i K1 _ _
            split at h
            · rename_i k mc ms B' P' nL' ha
              split at h
              · rename_i hc2
                simp only [Bool.and_eq_true] at hc2
                obtain ⟨⟨⟨⟨d1, d2⟩, d5⟩, d3⟩, d4⟩ := hc2
                have d1 := Nat.eq_of_beq_eq_true d1
                have d2 : i < c.length := Nat.le_of_ble_eq_true d2
                have d5 : k < 13 := Nat.le_of_ble_eq_true d5
                have d3 := Nat.le_of_ble_eq_true d3
                have d4 := Nat.le_of_ble_eq_true d4
                split at h
                · rename_i y hy
                  split at h
                  · rename_i hlen
                    have hlen := Nat.le_of_ble_eq_true hlen
                    obtain ⟨y', cc', own', s1, s2, s3, s4, s5, s6, s7, s8⟩ := hS _ _ (asc_ok ha)
                    obtain ⟨u1, u2⟩ := hsub (by intro q; rw [q] at ha; cases ha)
                    intro r S H locs cells slots ls hC hw hl ht hK hcc hss hn hr
                    dsimp only at hC hl ht hK hcc hss hn hd hK8 s1 s2 s3 s7 s8 ⊢
                    have hmet := ih f (by omega) own' B' nL' (mc, ms) P' [] y' cc' 1 40 i y r c S H.size s2 (fun _ _ q => by cases q) s3 s4 s5 s6 s7 s8 (Nat.le_refl _) (Nat.le_refl _) (fun q => absurd rfl q) hy hC d2
                    have ho : c[i]? = some (nth co0 c i) := nth_lt d2
                    obtain ⟨g1, -⟩ := hC.2.2.2 i _ ho
                    have hrun := s1 p l e R s m args below meth c0 H locs cells slots xs cD cy A cc nL Ts S pc ls (K1.map (cv r)) [.ref (r i)] (QX cD cy (CPost r c.length y.1) (zAd cy S H.size)) { frames := 1, cells := mc, slots := ms, locals := 40 } mc ms (zAd cy S H.size) hM hw rfl (Or.inr (Or.inl ⟨d5, r i, [], rfl, hC.mem d2, g1.trans d1⟩)) hmet rfl rfl (by show 1 + 1 ≤ _; omega) (by show 8 + (nL' + 11) + 40 ≤ _; omega) (by rw [cv_sum]; have : K1.length + 1 ≤ 8 := hK8; omega) hd ⟨by omega, by omega⟩ hl.1
                    refine z_call hw hM.2.2.2.2.2 hrun (fun rv S1 ρ1 H1 locs1 hp hw1 => ?_)
                    obtain ⟨rfl, r1, hr1, hC1⟩ := hp
                    have := ihf (by omega) (r0 := r0) (n0 := n0) (e := e) (R := R) (below := below) hM hml hret hlk hnm hB hS hP hnL hfr hlo hsub hcl hsl (x := (y.1, iv, K1, nc + mc, ns + ms, pc + 3)) (by show nc + mc ≤ _; omega) (by show ns + ms ≤ _; omega) h r1 S1 H1 locs1 (cells + mc) (slots + ms) ls hC1 hw1 (by rw [lvs_cong (hr1 t ht)]; exact hl) (by show t < y.1.length; omega) (cw_mono (cw_tl hK) hlen) (by show cells + mc ≤ nc + mc; omega) (by show slots + ms ≤ ns + ms; omega) (by show n0 ≤ y.1.length; omega) (fun i hi => by rw [hr1 i (by omega)]; exact hr i hi)
                    have e1 : K1.map (cv r1) = K1.map (cv r) := cv_cong hr1 (cw_tl hK)
                    dsimp only at this
                    rw [e1] at this
                    exact this
                  · cases h
                · cases h
              · cases h
            · cases h
          · cases h
theorem cmet_ok : ∀ F, CMet xs cD cy l F := by
  intro F
  induction F using Nat.strongRecOn with
  | _ F ih =>
    intro own B nL lim P subs y cc fr lo t x' r c S sz hB hS hP hy ho hnm h1 h4 hfr hlo hsub h hC ht
    refine z_ofW (QQ := QX cD cy (CPost r c.length x'.1)) hy ho rfl (by show 1 ≤ nL; exact h1) ?_
    intro p e s m args below meth c0 A ls hcf hr hlk hnm2 hK hE hZ hw hA hl
    have hM : MX xs cD cy A p s m args c0 cc nL (Cond.code y cc nL none :: TB) own := ⟨hcf, fun w hw => List.mem_cons_of_mem _ hw, hK, hE, hZ, hA⟩
    exact crun_ok ih F (Nat.le_refl _) (r0 := r) (n0 := c.length) hM hcf.2.2.1 hr hlk (hnm2.trans hnm) hB hS hP h4 hfr hlo hsub rfl rfl (Nat.zero_le _) (Nat.zero_le _) h r S s.heap [] 0 0 ls hC hw hl ht (fun v hv => by cases hv) (Nat.le_refl _) (Nat.le_refl _) (Nat.le_refl _) (fun _ _ => rfl)
end CRX
