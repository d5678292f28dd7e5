/-! a method held against its contract -/
def entL : Nat → List Vl → Lc
  | _, [] => []
  | i, v :: r => (i, v) :: entL (i + vcat v) r
def ancM : Nat → Nat → List Mem
  | _, 0 => []
  | i, k + 1 => (0, [lc 0, lc 0, lc (Int.negSucc (i + 1))], lsy i) :: ancM (i + 1) k
def rcvR (rcv : List Nat) (Rs : List (Bool × List Nat)) : List (Bool × List Nat) := match rcv, Rs with
  | [], Rs => Rs
  | _ :: _, [] => []
  | a :: r, q :: t => (q.1, a :: r) :: t
def entA (sg : Sg) (rcv : List Nat) : As := ((entL 0 (sA sg), []), (sI sg, rcvR rcv (sR sg), sF sg, gmM ((sI sg).length - (sG sg).length) (sG sg) ++ ancM 0 (sI sg).length, [], [], []), (lc 0, lc 0))
def cutE (ct : Cut) (mk : Nat) : As := ((cutS ct).1, eM (cutS ct).2.1 (0, [lc 0, lc 0, lc (Int.negSucc mk)], ct.2.2.2.2.1), (cutS ct).2.2)
def okG (mk : Nat) (q : Nat × List Lin) : Bool := match q.1 with
  | 0 => match q.2 with
    | [_, _, (.negSucc j, [])] => Nat.blt j mk
    | _ => false
  | _ => true
def chk (C : Cg) (sg : Sg) (rcv : List Nat) (ret : Option FieldType) (cuts : List Cut) (pops : List (Nat × List Pop)) (P : Pg) (fuel nL : Nat) : Bool :=
  wfSg sg && noA sg && (sI sg).all (fun x => ile k64l x.1 && ile x.2 k64h) && Nat.ble (catS (sA sg)) nL && cuts.all (fun ct => wfCut ct && ct.2.2.2.2.2.2.all (fun q => okG ((sI sg).length + 1) (q.1, q.2.1)) && fit64 (sI ct.2.2.1) ct.2.2.2.2.1) &&
  run C sg ret cuts pops P ((sI sg).length + 1) true fuel false (entA sg rcv) 0 && cuts.all (fun ct => run C sg ret cuts pops P ((sI sg).length + 1) false fuel true (cutE ct ((sI sg).length + 1)) ct.1)
def negA (g0 : Nat → Int) (nI : Nat) (N : Int) : Int → Int := fun t => match t with
  | .negSucc (i + 1) => if i < nI then g0 i else if i = nI then N else 0
  | _ => 0
def bndN (f : Int → Int) : Prop := ∀ t, -9223372036854775808 ≤ f t ∧ f t ≤ 9223372036854775807
theorem entL_ok {g : Nat → Int} {τ : Nat → Option Nat} {xs : Nat → Nat} : ∀ {vs : List Vl} {i : Nat}, γL g τ xs (entL i vs) = lv_args i (γK g τ xs vs)
  | [], _ => rfl
  | v :: r, i => by
    show (i, γ g τ xs v) :: γL g τ xs (entL (i + vcat v) r) = (i, γ g τ xs v) :: lv_args (if (γ g τ xs v).category = 2 then i + 2 else i + 1) (γK g τ xs r)
    rw [entL_ok, γ_cat]
    congr 2
    match v with
    | .inl _ => rfl
    | .inr (.inl _) => rfl
    | .inr (.inr (.inl _)) => rfl
    | .inr (.inr (.inr (.inl _))) => rfl
    | .inr (.inr (.inr (.inr _))) => rfl
theorem entL_wf {E : En} : ∀ {vs : List Vl} {i : Nat}, wfK E vs → wfLc E (entL i vs)
  | [], _, _ => fun q hq => by simp [entL] at hq
  | v :: r, i, h => fun q hq => by
    rcases List.mem_cons.mp hq with rfl | hq
    · exact wfK_hd h
    · exact entL_wf (wfK_tl h) q hq
theorem lgl_len {g : Nat → Int} {τ : Nat → Option Nat} {xs : Nat → Nat} : ∀ {vs : List Vl}, (lg_sl (γK g τ xs vs)).length = catS vs
  | [] => rfl
  | v :: r => by
    show ((if (γ g τ xs v).category = 2 then [Slot.val (γ g τ xs v), .second] else [Slot.val (γ g τ xs v)]) ++ lg_sl (γK g τ xs r)).length = vcat v + catS r
    rw [List.length_append, lgl_len, γ_cat]
    match v with
    | .inl _ => rfl
    | .inr (.inl _) => rfl
    | .inr (.inr (.inl _)) => rfl
    | .inr (.inr (.inr (.inl _))) => rfl
    | .inr (.inr (.inr (.inr _))) => rfl
theorem ancM_mem {mm : Mem} : ∀ {k i : Nat}, mm ∈ ancM i k → ∃ j, j < k ∧ mm = (0, [lc 0, lc 0, lc (Int.negSucc (i + j + 1))], lsy (i + j))
  | 0, i, h => by simp [ancM] at h
  | k + 1, i, h => by
    simp only [ancM] at h
    rcases List.mem_cons.mp h with rfl | h
    · exact ⟨0, by omega, rfl⟩
    · obtain ⟨j, h1, h2⟩ := ancM_mem h
      exact ⟨j + 1, by omega, by rw [h2, show i + 1 + j = i + (j + 1) by omega]⟩
section CHK
variable {T : Tt} {ad : Nat → Nat} {C : zS → Int → Int} {neg neg0 : Int → Int} {XI : zS → Prop} {S0 : zS} {ρ0 : Nat → Nat} {xs : Nat → Nat} {cD : va_G} {cy : Nat → ClassId} {A : Nat → Prop}
variable {l : Launch} {cc : ByteArray} {nL : Nat} {own : String}
variable {E E' : En} {g g0 : Nat → Int} {τ τ0 : Nat → Option Nat} {S : zS} {ρ : Nat → Nat}
theorem SatE.chg {gh gh' : zS → Int → Int} (h : SatE T ad gh XI S0 ρ0 E g τ S ρ) (hm : ∀ m ∈ E.2.2.2.1, GV T ad gh' m.1 S (m.2.1.map (ev g)) = GV T ad gh m.1 S (m.2.1.map (ev g))) : SatE T ad gh' XI S0 ρ0 E g τ S ρ := by
  obtain ⟨h1, h2, h3, h4, h5, h6, h7, h8, h9⟩ := h
  refine ⟨h1, h2, h3, fun m hmm => ?_, h5, h6, h7, h8, h9⟩
  obtain ⟨k1, k2, k3, k4⟩ := h4 m hmm
  exact ⟨k1, k2, by rw [hm m hmm]; exact k3, k4⟩
theorem negA_b {nI : Nat} {N : Int} {I : List Itv} (hl : I.length = nI) (h : SatI I g0) (hI : I.all (fun x => ile k64l x.1 && ile x.2 k64h) = true) (hN : k64l ≤ N ∧ N ≤ k64h) : bndN (negA g0 nI N) := by
  rw [k64l_eq, k64h_eq] at hN
  intro t
  unfold negA
  split
  · rename_i i
    split
    · rename_i hi
      have h1 := h i (by omega)
      have h2 := List.all_eq_true.mp hI _ (List.mem_of_getElem? (nth_lt (d := ((0, 0) : Itv)) (by omega : i < I.length)))
      rw [Bool.and_eq_true] at h2
      have e1 := ile_iff.mp h2.1
      have e2 := ile_iff.mp h2.2
      rw [k64l_eq] at e1
      rw [k64h_eq] at e2
      omega
    · split <;> omega
  · omega
theorem ghN_neg {j : Nat} {S : zS} : ghN C neg S (Int.negSucc j) = neg (Int.negSucc j) := by
  unfold ghN
  rw [if_pos (Int.negSucc_lt_zero _)]
theorem con_ok {mY : Nat → MethodName} {mC : Nat → ByteArray} {mL : Nat → Nat} {mR : Nat → Option FieldType} {lk : LK} {SA SB : List (Nat × List Int)} {oi ML : List Nat} {ST : List Sg} {KT : List KC} {nK : Nat} {ini : Bool} {cs : List (Nat × List Alt)} {sg : Sg} {rcv : List Nat} {ret : Option FieldType} {cuts : List Cut} {pops : List (Nat × List Pop)} {P : Pg} {fuel fr lo : Nat} {y : MethodName}
    (hC : ∀ neg, bndN neg → CgOK ad (ghN C neg) XI xs cD cy l own mY mC mL mR T lk SA SB oi ML ST KT nK) (hy : plainName y.cls = true) (ho : y.cls = own) (hini : ini = true → y.name = "<init>") (hP : ∀ b ∈ P, ∀ q ∈ b, decode cc q.1 = .ok (q.2.1, q.2.2) ∧ lenB q = true)
    (h : chk (T, lk, ((SA, SB), (false, ini, oi)), (nL, ML, ST, KT, nK), (fr, (sC sg).1, (sC sg).2, lo), cs) sg rcv ret cuts pops P fuel nL = true) (hb0 : bndN neg0) : Con T ad (ghN C neg0) XI xs cD cy l y cc nL ret fr lo sg rcv := by
  unfold chk at h
  simp only [Bool.and_eq_true] at h
  obtain ⟨⟨⟨⟨⟨⟨h1, h2⟩, h3⟩, h4⟩, h5⟩, h6⟩, h7⟩ := h
  have h4 := Nat.le_of_ble_eq_true h4
  intro g0 τ0 S0 ρ0 sz hpre
  obtain ⟨p1, p2, p3, p4, p5, p6, p7⟩ := hpre
  refine z_ofW (QQ := QX cD cy (PostOK T ad (ghN C neg0) XI xs sg g0 τ0 S0 ρ0)) hy ho rfl (by rw [lgl_len]; exact h4) ?_
  intro p e s m args below meth c A ls hcf hr hlk hnm hK hE hZ hw hA hl
  have hM : MX xs cD cy A p s m args c cc nL (Cond.code y cc nL ret :: TB) own := ⟨hcf, fun w hw => List.mem_cons_of_mem _ hw, hK, hE, hZ, hA⟩
  have hwc : ∀ ct ∈ cuts, wfCut ct = true := fun ct hct => by
    have := List.all_eq_true.mp h5 ct hct
    simp only [Bool.and_eq_true] at this
    exact this.1.1
  have hanc : ∀ N i, i < (sI sg).length → negA g0 (sI sg).length N (Int.negSucc (i + 1)) = g0 i := fun N i hi => if_pos hi
  have hmkv : ∀ N, negA g0 (sI sg).length N (Int.negSucc ((sI sg).length + 1)) = N := fun N => by
    show (if (sI sg).length < (sI sg).length then _ else if (sI sg).length = (sI sg).length then N else 0) = N
    rw [if_neg (by omega), if_pos rfl]
  have hini' : ini = true → meth.name = "<init>" := fun h => hnm.trans (hini h)
  have hscr : ∀ (gh : zS → Int → Int) (Qc : State → Prop), false = true → RScr gh xs cD cy A p l e { frames := fr, cells := (sC sg).1, slots := (sC sg).2, locals := lo } s m args below meth c Qc cc := fun _ _ h => by cases h
  -- from a place with an invariant
  have hcl : ∀ (k : Nat) (N : Int), k64l ≤ N ∧ N ≤ k64h → ∀ ct ∈ cuts, ∀ g τ S ρ H locs cells slots ls, SatA T ad (ghN C (negA g0 (sI sg).length N)) XI S0 ρ0 xs cD cy A s nL (cutS ct) g τ S ρ H locs cells slots ls → (ev g ct.2.2.2.2.1 + 1).toNat ≤ k → W p l e { frames := fr, cells := (sC sg).1, slots := (sC sg).2, locals := lo } s m args below meth c H locs cells slots (MQ below (QX cD cy (PostOK T ad (ghN C neg0) XI xs sg g0 τ0 S0 ρ0) A) args s (sC sg).1 (sC sg).2 A) (F0 m ct.1 ls (γK g τ xs (cutS ct).1.2)) := by
    intro k
    induction k with
    | zero => ?_
    | succ k ih => ?_
    all_goals
      intro N hN ct hct g τ S ρ H locs cells slots ls hA hk
      have hc5 := List.all_eq_true.mp h5 ct hct
      simp only [Bool.and_eq_true] at hc5
      obtain ⟨⟨w1, w2⟩, w3⟩ := hc5
      have w8 : wfL (sI ct.2.2.1).length ct.2.2.2.2.1 := by
        unfold wfCut at w1
        simp only [Bool.and_eq_true] at w1
        exact wfB_ok w1.2
      have hfit : k64l ≤ ev g ct.2.2.2.2.1 ∧ ev g ct.2.2.2.2.1 ≤ k64h := fit64_ok hA.1.1 w8 w3
      have hbn : bndN (negA g0 (sI sg).length (ev g ct.2.2.2.2.1)) := negA_b rfl p1 h3 hfit
      have hE1 : SatE T ad (ghN C (negA g0 (sI sg).length (ev g ct.2.2.2.2.1))) XI S0 ρ0 (cutS ct).2.1 g τ S ρ := by
        refine hA.1.chg (fun mm hmm => ?_)
        obtain ⟨qk, qa, qv⟩ := mm
        have hok := List.all_eq_true.mp w2 _ hmm
        unfold okG at hok
        dsimp only at hok ⊢
        split at hok
        · split at hok
          · rename_i a1 a2 jj
            have hjj := Nat.le_of_ble_eq_true hok
            show ghN C (negA g0 (sI sg).length (ev g ct.2.2.2.2.1)) zS0 (ev g (Int.negSucc jj, [])) = ghN C (negA g0 (sI sg).length N) zS0 (ev g (Int.negSucc jj, []))
            have e0 : ev g (Int.negSucc jj, []) = Int.negSucc jj := by show Int.negSucc jj + 0 = _; omega
            rw [e0, ghN_neg, ghN_neg]
            match jj, hjj with
            | 0, _ => rfl
            | i + 1, hjj => rw [hanc _ i (by omega), hanc _ i (by omega)]
          · cases hok
        · rename_i hne
          exact GV_ghN (by cases qk with
            | zero => exact absurd rfl hne
            | succ k => rfl)
      have hA1 : SatA T ad (ghN C (negA g0 (sI sg).length (ev g ct.2.2.2.2.1))) XI S0 ρ0 xs cD cy A s nL (cutE ct ((sI sg).length + 1)) g τ S ρ H locs cells slots ls := by
        obtain ⟨a1, a2, a3, a4, a5, a6, a7, a8⟩ := hA
        refine ⟨hE1.memo ⟨fun a ha => ?_, w8, ?_, fun reg hr => by simp [gfp] at hr⟩, a2, a3, a4, a5, a6, a7, a8⟩
        · simp only [List.mem_cons, List.not_mem_nil, or_false] at ha
          rcases ha with rfl | rfl | rfl <;> exact wf_lc
        · show ghN C (negA g0 (sI sg).length (ev g ct.2.2.2.2.1)) zS0 (ev g (lc (Int.negSucc ((sI sg).length + 1)))) = ev g ct.2.2.2.2.1
          rw [ev_lc, ghN_neg, hmkv]
      have hrun := List.all_eq_true.mp h7 ct hct
      refine run_ok hM (hC _ hbn) ⟨Nat.le_refl _, Nat.le_refl _, Nat.le_refl _, Nat.le_refl _⟩ hini' hr hlk h1 h2 p1 (hanc _) (hscr _ _) hwc hP ?_ hrun g τ S ρ H locs cells slots ls hA1
      intro ct' hct' g' τ' S' ρ' H' locs' cells' slots' ls' hA' hm
      have hm := hm rfl
      rw [hmkv] at hm
      first
        | exact ih _ hfit ct' hct' g' τ' S' ρ' H' locs' cells' slots' ls' hA' (by omega)
        | (exfalso; omega)
  have hbn : bndN (negA g0 (sI sg).length 0) := negA_b rfl p1 h3 (by rw [k64l_eq, k64h_eq]; omega)
  refine run_ok hM (hC _ hbn) ⟨Nat.le_refl _, Nat.le_refl _, Nat.le_refl _, Nat.le_refl _⟩ hini' hr hlk h1 h2 p1 (hanc _) (hscr _ _) hwc hP ?_ h6 g0 τ0 S0 ρ0 s.heap [] 0 0 ls ?_
  · intro ct hct g τ S ρ H locs cells slots ls hA _
    exact hcl _ 0 (by rw [k64l_eq, k64h_eq]; omega) ct hct g τ S ρ H locs cells slots ls hA (Nat.le_refl _)
  · unfold wfSg at h1
    simp only [Bool.and_eq_true] at h1
    obtain ⟨⟨⟨⟨v1, v2⟩, v3⟩, v4⟩, v5⟩ := h1
    have v5 := Nat.le_of_ble_eq_true v5
    have hRl : (rcvR rcv (sR sg)).length = (sR sg).length := by
      unfold rcvR; split <;> simp_all
    have wA : wfK (entA sg rcv).2.1 (sA sg) := fun v hv => by
      have := wfVB_ok (List.all_eq_true.mp v3 v hv)
      show wfV (sI sg).length (rcvR rcv (sR sg)).length v
      rw [hRl]; exact this
    refine ⟨⟨p1, fun i q hq => ?_, fun f hf => ⟨wfB_ok (List.all_eq_true.mp v2 f hf), p4 f hf⟩, fun mm hmm => ?_, fun d hd => by simp [entA] at hd, p7, Fr.refl, fun i hi => by simp [entA] at hi, p6⟩, entL_wf wA, fun v hv => by simp [entA] at hv, ⟨wf_lc, wf_lc⟩, ?_, ?_, hw, ?_⟩
    · have hq : (rcvR rcv (sR sg))[i]? = some q := hq
      unfold rcvR at hq
      split at hq
      · exact p2 i q hq
      · simp at hq
      · rename_i a r q0 t hR hqq
        match i, hq with
        | 0, hq =>
          cases hq
          have hold := p2 0 q0 (by rw [hR]; rfl)
          cases ht : τ0 0 with
          | none => rw [ht] at hold; exact hold
          | some b =>
            rw [ht] at hold
            exact ⟨hold.1, p3 (by simp) b ht⟩
        | i + 1, hq => exact p2 (i + 1) q (by rw [hR]; exact hq)
    · have hmm : mm ∈ gmM ((sI sg).length - (sG sg).length) (sG sg) ++ ancM 0 (sI sg).length := hmm
      rcases List.mem_append.mp hmm with hmm | hmm
      · obtain ⟨j, q, hq, rfl⟩ := gmM_mem hmm
        obtain ⟨k1, k2⟩ := p5 j q hq
        have hj : j < (sG sg).length := (List.getElem?_eq_some_iff.mp hq).1
        refine ⟨fun a ha => wfB_ok (List.all_eq_true.mp (List.all_eq_true.mp v4 q (List.mem_of_getElem? hq)) a ha), wf_lsy (by show _ < (sI sg).length; omega), ?_, k2⟩
        dsimp only
        rw [ev_lsy, ← k1]
        unfold noA at h2
        rw [Bool.and_eq_true] at h2
        have := List.all_eq_true.mp h2.1 q (List.mem_of_getElem? hq)
        exact GV_ghN (by simpa using this)
      · obtain ⟨j, hj, rfl⟩ := ancM_mem hmm
        refine ⟨fun a ha => ?_, wf_lsy (by show _ < (sI sg).length; omega), ?_, fun reg hr => by simp [gfp] at hr⟩
        · simp only [List.mem_cons, List.not_mem_nil, or_false] at ha
          rcases ha with rfl | rfl | rfl <;> exact wf_lc
        · show ghN C (negA g0 (sI sg).length 0) zS0 (ev g0 (lc (Int.negSucc (0 + j + 1)))) = ev g0 (lsy (0 + j))
          rw [ev_lc, ghN_neg, ev_lsy, Nat.zero_add, hanc _ j hj]
    · show ((0 : Nat) : Int) ≤ ev g0 (lc 0)
      rw [ev_lc]; omega
    · show ((0 : Nat) : Int) ≤ ev g0 (lc 0)
      rw [ev_lc]; omega
    · show lv_has ls nL (γL g0 τ0 xs (entL 0 (sA sg)))
      rw [entL_ok]; exact hl
end CHK
