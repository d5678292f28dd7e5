/-! the law's loop -/
def ngL (L : Int) (f : Nat → Int) (N : Int) : Int → Int := fun t => if t = -1 then L else if t = -2 then N else if t ≤ -1000 then f (-1000 - t).toNat else 0
theorem ngL_b {L N : Int} {f : Nat → Int} (hL : k64l ≤ L ∧ L ≤ k64h) (hf : ∀ j, k32l ≤ f j ∧ f j ≤ k32h) (hN : k64l ≤ N ∧ N ≤ k64h) : bndN (ngL L f N) := by
  intro t
  unfold ngL
  have h := hf (-1000 - t).toNat
  rw [k64l_eq, k64h_eq] at hL hN
  rw [k32l_eq, k32h_eq] at h
  split
  · exact hL
  · split
    · exact hN
    · split
      · omega
      · omega
theorem cg_mk {ad xs : Nat → Nat} {cD : va_G} {cy : Nat → ClassId} {l : Launch} {own : String} {lk : LK} {oi ML : List Nat} {MT : MTt} {ST : List Sg} {KT : List KC}
    (hlk : LKOK own lk) (hlc : LKC own lk (mtY MT) (mtC MT) (mtL MT) (mtR MT)) (hML : MT.map (fun q => q.2.2.1) = ML) (hmid : lk.2.2.1.all (fun x => x.2.2.2.all (fun q => Nat.blt q.2 ML.length)) = true) (hST : ST.all wfSg = true)
    (hKT : ∀ neg, bndN neg → ∀ q ∈ KT, q.2.1 < ST.length ∧ Con zT ad (ghN (zC ad) neg) (zXI ad) xs cD cy l (mtY MT q.1) (mtC MT q.1) (mtL MT q.1) (mtR MT q.1) q.2.2.2.1 q.2.2.2.2 (nth ([], [], [], [], [], [], (0, 0), none, []) ST q.2.1) q.2.2.1)
    (hoi : ∀ idx ∈ oi, ROI own idx) {neg : Int → Int} (hb : bndN neg) : CgOK ad (ghN (zC ad) neg) (zXI ad) xs cD cy l own (mtY MT) (mtC MT) (mtL MT) (mtR MT) zT lk zSA zSB oi ML ST KT KT.length := by
  refine ⟨zT_ok hb, zT_z, zT_a, hlk, zSA_ok, zSB_ok, hlc, fun i => ?_, fun idx x hx rc mid hm => ?_, fun s hs => List.all_eq_true.mp hST s hs, fun pos hpos mid sgi rv fr lo hk => ?_, hoi⟩
  · rcases Nat.lt_or_ge i MT.length with q | q
    · rw [← hML]; exact Or.inl (nth_map q)
    · rw [← hML, List.length_map]; exact Or.inr q
  · exact Nat.le_of_ble_eq_true (List.all_eq_true.mp (List.all_eq_true.mp hmid _ hx) _ hm)
  · have hm : (mid, sgi, rv, fr, lo) ∈ KT := by rw [← hk]; exact List.mem_of_getElem? (nth_lt hpos)
    exact hKT neg hb _ hm
section LOP
variable {ad xs : Nat → Nat} {cD : va_G} {cy : Nat → ClassId} {A : Nat → Prop} {S0 : zS} {ρ0 : Nat → Nat} {g0 : Nat → Int} {τ0 : Nat → Option Nat} {neg0 : Int → Int}
variable {p : Program} {l : Launch} {e : Env} {R : Room} {s : State} {m : MethodId} {args : Array Value} {below : List Frame} {meth : Method} {c : Code} {cc : ByteArray} {Ts : List Cond} {own : String}
variable {mY : Nat → MethodName} {mC : Nat → ByteArray} {mL : Nat → Nat} {mR : Nat → Option FieldType} {lk : LK} {oi ML : List Nat} {ST : List Sg} {KT : List KC} {nK : Nat} {lim : Lim} {cs : List (Nat × List Alt)}
theorem law_loop {sg : Sg} {ct : Cut} {pops : List (Nat × List Pop)} {P : Pg} {fuel : Nat} {L : Int} {f : Nat → Int} (hM : MX xs cD cy A p s m args c cc 4 Ts own)
    (hC : ∀ neg, bndN neg → CgOK ad (ghN (zC ad) neg) (zXI ad) xs cD cy l own mY mC mL mR zT lk zSA zSB oi ML ST KT nK) (hR : lim.1 ≤ R.frames ∧ lim.2.1 ≤ R.cells ∧ lim.2.2.1 ≤ R.slots ∧ lim.2.2.2 ≤ R.locals)
    (hr : meth.sig.returnType = some .boolean) (hlk : meth.locks = false) (hsg : wfSg sg = true) (hnA : noA sg = true) (hI : sI sg = []) (hL : k64l ≤ L ∧ L ≤ k64h) (hf : ∀ j, k32l ≤ f j ∧ f j ≤ k32h)
    (hScr : ∀ (N : Int) (Qc : State → Prop), RScr (ghN (zC ad) (ngL L f N)) xs cD cy A p l e R s m args below meth c Qc cc)
    (hwc : wfCut ct = true) (hok : ct.2.2.2.2.2.2.all (fun q => okG 1 (q.1, q.2.1)) = true) (hfi : fit64 (sI ct.2.2.1) ct.2.2.2.2.1 = true) (hP : ∀ b ∈ P, ∀ q ∈ b, decode cc q.1 = .ok (q.2.1, q.2.2) ∧ lenB q = true)
    (hrun : run (zT, lk, ((zSA, zSB), (true, false, oi)), (4, ML, ST, KT, nK), lim, cs) sg (some .boolean) [ct] pops P 1 false fuel true (cutE ct 1) ct.1 = true) :
    ∀ (k : Nat) (N : Int), k64l ≤ N ∧ N ≤ k64h → ∀ g τ S ρ H locs cells slots ls, SatA zT ad (ghN (zC ad) (ngL L f N)) (zXI ad) S0 ρ0 xs cD cy A s 4 (cutS ct) g τ S ρ H locs cells slots ls → (ev g ct.2.2.2.2.1 + 1).toNat ≤ k → W p l e R s m args below meth c H locs cells slots (MQ below (QX cD cy (PostOK zT ad (ghN (zC ad) neg0) (zXI ad) xs sg g0 τ0 S0 ρ0) A) args s (sC sg).1 (sC sg).2 A) (F0 m ct.1 ls (γK g τ xs (cutS ct).1.2)) := by
  have p1 : SatI (sI sg) g0 := by
    rw [hI]; intro i hi; simp at hi
  have hm2 : ∀ N, ngL L f N (Int.negSucc 1) = N := fun N => by
    have e : Int.negSucc 1 = (-2 : Int) := rfl
    rw [e]; unfold ngL; rw [if_neg (by omega), if_pos rfl]
  have hm1 : ∀ N, ngL L f N (Int.negSucc 0) = L := fun N => by
    have e : Int.negSucc 0 = (-1 : Int) := rfl
    rw [e]; unfold ngL; rw [if_pos rfl]
  intro k
  induction k with
  | zero => ?_
  | succ k ih => ?_
  all_goals
    intro N hN g τ S ρ H locs cells slots ls hA hk
    have w8 : wfL (sI ct.2.2.1).length ct.2.2.2.2.1 := by
      have w1 := hwc
      unfold wfCut at w1
      simp only [Bool.and_eq_true] at w1
      exact wfB_ok w1.2
    have hfit : k64l ≤ ev g ct.2.2.2.2.1 ∧ ev g ct.2.2.2.2.1 ≤ k64h := fit64_ok hA.1.1 w8 hfi
    have hE1 : SatE zT ad (ghN (zC ad) (ngL L f (ev g ct.2.2.2.2.1))) (zXI ad) S0 ρ0 (cutS ct).2.1 g τ S ρ := by
      refine hA.1.chg (fun mm hmm => ?_)
      obtain ⟨qk, qa, qv⟩ := mm
      have hok := List.all_eq_true.mp hok _ hmm
      unfold okG at hok
      dsimp only at hok ⊢
      split at hok
      · split at hok
        · rename_i a1 a2 jj
          have hjj : jj = 0 := by have := Nat.le_of_ble_eq_true hok; omega
          subst hjj
          show ghN (zC ad) (ngL L f (ev g ct.2.2.2.2.1)) zS0 (ev g (Int.negSucc 0, [])) = ghN (zC ad) (ngL L f N) zS0 (ev g (Int.negSucc 0, []))
          have e0 : ev g (Int.negSucc 0, []) = Int.negSucc 0 := by show Int.negSucc 0 + 0 = _; omega
          rw [e0, ghN_neg, ghN_neg, hm1, hm1]
        · cases hok
      · rename_i hne
        exact GV_ghN (by cases qk with
          | zero => exact absurd rfl hne
          | succ k => rfl)
    have hA1 : SatA zT ad (ghN (zC ad) (ngL L f (ev g ct.2.2.2.2.1))) (zXI ad) S0 ρ0 xs cD cy A s 4 (cutE ct 1) g τ S ρ H locs cells slots ls := by
      obtain ⟨a1, a2, a3, a4, a5, a6, a7, a8⟩ := hA
      refine ⟨hE1.memo ⟨fun a ha => ?_, w8, ?_, fun reg hr => by simp [gfp] at hr⟩, a2, a3, a4, a5, a6, a7, a8⟩
      · simp only [List.mem_cons, List.not_mem_nil, or_false] at ha
        rcases ha with rfl | rfl | rfl <;> exact wf_lc
      · show ghN (zC ad) (ngL L f (ev g ct.2.2.2.2.1)) zS0 (ev g (lc (Int.negSucc 1))) = ev g ct.2.2.2.2.1
        rw [ev_lc, ghN_neg, hm2]
    refine run_ok hM (hC _ (ngL_b hL hf hfit)) hR (fun h => by cases h) hr hlk hsg hnA p1 (fun i hi => by rw [hI] at hi; simp at hi) (fun _ => hScr _ _) (fun ct' h => by rw [List.mem_singleton.mp h]; exact hwc) hP ?_ hrun g τ S ρ H locs cells slots ls hA1
    intro ct' hct' g' τ' S' ρ' H' locs' cells' slots' ls' hA' hm
    have hct' := List.mem_singleton.mp hct'
    subst hct'
    have hm := hm rfl
    rw [hm2] at hm
    first
      | exact ih _ hfit g' τ' S' ρ' H' locs' cells' slots' ls' hA' (by omega)
      | (exfalso; omega)
end LOP
