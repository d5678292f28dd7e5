/-! THE CLAIM OUT OF ONE WALK OF THE LAW'S BODY. Your part is whole_start (and what it stands on); all else here is the same for every law, but numbers. -/
def R_law : String := "FoldedInHalfLaw"
def lw_P (b : Addr) (xs : List Int32) (args : Array Value) (s : State) : Prop := args = #[.ref b] ∧ s.IntsAt b xs ∧ xs.length ≤ 3584 ∧ (Jvm.Cond.and given_1 narrow_1).before args s = true
def lw_Q (_ : Array Value) (s : State) (o : Outcome) (t : State) : Prop := o = .returned (some (.int 1)) ∧ Framed s o t [] 600000 7302250
def lw_Z (below : List Frame) (a : Array Value) (s : State) : State → Prop := fun t => ∃ o, t.status = .running ∧ Ended t below o ∧ lw_Q a s o t
/-- the law's own end, with 1 on the stack, nothing written that was there before, its room as the claim has it -/
theorem lw_ret {p : Program} {l : Launch} {e : Env} {s : State} {m : MethodId} {below : List Frame} {meth : Method} {c : Code} {b : Nat} (hx : p.tables.exec = Jvm.exec) (hb : c.code = code) (hr : meth.sig.returnType = ret) (hlocks : meth.locks = false) {pc : Nat} {H : Heap} {ls : Array Slot} (hdg : decode code pc = .ok (.ireturn, 1)) : W p l e room_1 s m #[Value.ref b] below meth c H [] 600000 7302250 (lw_Z below #[Value.ref b] s) (F0 m pc ls [.int 1]) := by
  intro T hT X
  obtain ⟨fs, hret, hrun, hended, hW, hframe⟩ := X.leave (v := some (.int 1)) (hlocks := hlocks) (fun h => by rw [hr] at h; cases h)
  have hmeth' : T.vm.method? m = some meth := X.method'
  refine ⟨T.setFrames fs, ?_, .returned (some (.int 1)), hrun, hended, rfl, ⟨_, rfl⟩, hW, hframe⟩
  jvm_step X.here [X.here.top, hx, hb, hdg, hmeth', hr, ret, narrow_b1]
  (try refine ⟨rfl, ?_⟩); (try refine ⟨rfl, ?_⟩)
  first | (intro acts; rw [hret _ acts rfl rfl rfl]) | rw [hret _ _ rfl rfl rfl]
  exact Steps.refl _
/-- what holds at the law's entry: the machine, the code, the tables' words (any of lw_tbl by 'hts w (by decide +kernel)'), the script of L ints xs at the cell b, what the Statement gives of the start (any of its parts by flat_of_before) -/
def lw_At (p : Program) (s : State) (m : MethodId) (meth : Method) (c : Code) (b L : Nat) (xs : Nat → Int32) : Prop :=
  p.tables.exec = Jvm.exec ∧ c.code = code ∧ meth.sig.returnType = ret ∧ c.maxLocals = 4 ∧ s.vm.findClass R_law = some m.cls ∧ (∀ w ∈ lw_tbl, w.before #[Value.ref b] s = true) ∧ va_X b L xs s s.heap ∧ b < s.heap.size ∧ meth.locks = false ∧ (Jvm.Cond.and given_1 narrow_1).before #[Value.ref b] s = true
theorem law_fin {ad xs : Nat → Nat} {cD : va_G} {cy : Nat → ClassId} {gh : zS → Int → Int} {XI : zS → Prop} {S0 : zS} {ρ0 : Nat → Nat} {g0 : Nat → Int} {τ0 : Nat → Option Nat} {p : Program} {l : Launch} {e : Env} {R : Room} {s : State} {m : MethodId} {args : Array Value} {below : List Frame} {meth : Method} {c : Code} {H : Heap} {locs : List Loc} {cells slots k n : Nat} {G : JFrame} (hk : k ≤ 600000) (hn : n ≤ 7302250) (h : W p l e R s m args below meth c H locs cells slots (MQ below (QX cD cy (PostOK zT ad gh XI xs sg_L g0 τ0 S0 ρ0) (fun q => s.heap.size ≤ q)) args s k n (fun q => s.heap.size ≤ q)) G) : W p l e R s m args below meth c H locs cells slots (lw_Z below args s) G := fun T hT X => by
  obtain ⟨t, st, o, h1, h2, hq, L, hf, hL⟩ := h T hT X
  refine ⟨t, st, o, h1, h2, ?_, hf.1, hf.2.1, hf.2.2.weaken (fun y hy hlt => absurd hlt (Nat.not_lt.mpr (hL y hy))) hk hn⟩
  obtain ⟨⟨rv, S', ρ', ho, hp, -⟩, -⟩ := hq
  obtain ⟨-, -, -, oc, hoc, g', τ', -, -, hpo⟩ := hp
  have hoc : oc = ([], [], [.inl (lc 1)], [], []) := List.mem_singleton.mp hoc
  subst hoc
  have hv := hpo.2.2.1
  have hv : rv.toList = [.int 1] := hv
  cases rv with
  | none => cases hv
  | some v => cases hv; exact ho
theorem in_tbl : ∀ w ∈ TB, w ∈ lw_tbl := fun w h => (List.mem_filter.mp h).1
set_option maxHeartbeats 4000000 in
theorem whole_start {p : Program} {e : Env} {s : State} {m : MethodId} {below : List Frame} {meth : Method} {c : Code} (l : Launch) (hflags : l.flags = flags0) {b L : Nat} {xs : Nat → Int32} (hL : L ≤ 3584) (C0 : lw_At p s m meth c b L xs) : W p l e room_1 s m #[Value.ref b] below meth c s.heap [] 0 0 (lw_Z below #[Value.ref b] s) (entryFrame m ([Value.ref b] : List Value).toArray 4) := by
  obtain ⟨hx, hb, hr, hml, hown, hts, hX, hbl, hlocks, hgv⟩ := id C0
  have hcf : CallFix p m c cL_law 4 s #[Value.ref b] TB RL := ⟨hx, hb, hml, hown, fun w hw => hts w (in_tbl w hw)⟩
  have hE : zE s := zE.tab (fun w h => hts w (List.mem_append_right _ h))
  obtain ⟨cD, cy, hK⟩ := z_start hts
  have hA : ∀ q : Nat, s.heap.size ≤ q → (fun q : Nat => s.heap.size ≤ q) q := fun _ h => h
  obtain ⟨xs9, x9, hZ⟩ := zH_start (A := fun q : Nat => s.heap.size ≤ q) hts hgv (fun a h => Nat.not_le.mpr h) b
  have hM : MX xs9 cD cy (fun q : Nat => s.heap.size ≤ q) p s m #[Value.ref b] c cL_law 4 TB RL := ⟨hcf, fun _ h => h, hK, hE, hZ, hA⟩
  have hw := zPw_0 cD cy (fun q : Nat => s.heap.size ≤ q) s.heap
  have hl := lv_entry ([.ref b]) (n := 4) (Nat.le_of_ble_eq_true rfl)
  rw [lg_entry_eq]
  generalize (lg_sl ([.ref b]) ++ List.replicate (4 - (lg_sl ([.ref b])).length) Slot.unset).toArray = ls at hl ⊢
  have hl : lv_has ls 4 [(0, .ref b)] := hl
  -- the run of the constructors
  have hrn := rn_ok
  unfold rnB at hrn
  cases h11 : rn11 with
  | none => rw [h11] at hrn; cases hrn
  | some y1 =>
  rw [h11] at hrn
  dsimp only at hrn
  cases h12 : rn12 y1.1 with
  | none => rw [h12] at hrn; cases hrn
  | some y2 =>
  rw [h12] at hrn
  dsimp only at hrn
  rw [Bool.and_eq_true] at hrn
  have hlen : y1.1.length = 33 := Nat.eq_of_beq_eq_true hrn.2
  refine nw_RL_7 p l e room_1 s m #[Value.ref b] below meth c s.heap [] 0 0 _ xs9 cD cy _ cL_law 4 TB zS0 0 ls [] hM hw (by decide +kernel) (Nat.le_of_ble_eq_true rfl) (Nat.le_of_ble_eq_true rfl) (fun q1 H1 hq1 hw1 => ?_)
  obtain ⟨hC1, -⟩ := (cs_0 (fun _ => 0)).new (k := 11) (n := 0) hq1
  have hC1 : CS (va_up (fun _ => 0) 0 q1) [cnew 11 0] (zNew zS0 q1 11 0) := hC1
  have hr1 : va_up (fun _ => 0) 0 q1 0 = q1 := by simp [va_up]
  refine lv_dup hx hb (by decide +kernel) rfl ?_
  have hmet := cmet_ok (xs := xs9) (cD := cD) (cy := cy) (l := l) 2000 RX11 bu_X11_init 2 (32, 19935) qg_X11_init su_X11 yX11_init cX11_init 2 100 0 y1 _ [cnew 11 0] _ H1.size bk_X11_init sk_X11 dq_X11_init (by decide +kernel) rfl rfl (by decide) (by decide) (by decide) (by decide) (fun _ => ⟨by decide, by decide⟩) h11 hC1 (by decide)
  rw [hr1] at hmet
  have hrun := rl_RL_1_9_11 p l e room_1 s m #[Value.ref b] below meth c H1 [] (0 + 1) (0 + 13) xs9 cD cy _ cL_law 4 TB (zNew zS0 q1 11 0) 4 ls [.ref q1] [.ref q1] _ _ _ _ _ hM hw1 rfl (Or.inr (Or.inl ⟨by decide, q1, [], rfl, by rw [← hr1]; exact hC1.mem (by decide), by show va_up (zK zS0) q1 11 q1 = 11; simp [va_up]⟩)) hmet rfl rfl (by decide +kernel) (by decide +kernel) (Nat.le_of_ble_eq_true rfl) (by decide +kernel) ⟨by decide +kernel, by decide +kernel⟩ hl.1
  refine z_call hw1 hA hrun (fun rv S2 ρ2 H2 locs2 hp hw2 => ?_)
  obtain ⟨rfl, r2, hr2, hC2⟩ := hp
  have hr20 : r2 0 = q1 := (hr2 0 (by decide)).trans hr1
  refine lv_astore_n (k := 1) (i := 1) (lv' := [(1, .ref q1), (0, .ref b)]) hx hb (by decide +kernel) rfl hl (by decide) rfl (fun ls hl => ?_)
  refine nw_RL_10 p l e room_1 s m #[Value.ref b] below meth c H2 locs2 _ _ _ xs9 cD cy _ cL_law 4 TB S2 8 ls [] hM hw2 (by decide +kernel) (Nat.le_of_ble_eq_true rfl) (Nat.le_of_ble_eq_true rfl) (fun q3 H3 hq3 hw3 => ?_)
  obtain ⟨hC3, hr3⟩ := hC2.new (k := 12) (n := 0) hq3
  have hr33 : va_up r2 y1.1.length q3 y1.1.length = q3 := by simp [va_up]
  have hl3 : (y1.1 ++ [cnew 12 0]).length = 34 := by simp [hlen]
  refine lv_dup hx hb (by decide +kernel) rfl ?_
  have hmet3 := cmet_ok (xs := xs9) (cD := cD) (cy := cy) (l := l) 2000 RX12 bu_X12_init 1 (38, 69369) qg_X12_init [] yX12_init cX12_init 1 40 y1.1.length y2 _ (y1.1 ++ [cnew 12 0]) _ H3.size bk_X12_init (fun _ _ h => by cases h) dq_X12_init (by decide +kernel) rfl rfl (by decide) (by decide) (by decide) (by decide) (fun h => absurd rfl h) h12 hC3 (by rw [hl3, hlen]; decide)
  rw [hr33] at hmet3
  have hrun3 := rl_RL_1_12_12 p l e room_1 s m #[Value.ref b] below meth c H3 locs2 (0 + 1 + (32, 19935).1 + 1) (0 + 13 + (32, 19935).2 + 56) xs9 cD cy _ cL_law 4 TB (zNew S2 q3 12 0) 12 ls [.ref q3] [.ref q3] _ _ _ _ _ hM hw3 rfl (Or.inr (Or.inl ⟨by decide, q3, [], rfl, by show q3 ∈ zL S2 ++ [q3]; simp, by show va_up (zK S2) q3 12 q3 = 12; simp [va_up]⟩)) hmet3 rfl rfl (by decide +kernel) (by decide +kernel) (Nat.le_of_ble_eq_true rfl) (by decide +kernel) ⟨by decide +kernel, by decide +kernel⟩ hl.1
  refine z_call hw3 hA hrun3 (fun rv S4 ρ4 H4 locs4 hp hw4 => ?_)
  obtain ⟨rfl, r4, hr4, hC4⟩ := hp
  rw [hl3] at hr4
  have hr40 : r4 0 = q1 := by rw [hr4 0 (by decide), hr3 0 (by rw [hlen]; decide)]; exact hr20
  have hr433 : r4 33 = q3 := by rw [hr4 33 (by decide), ← hlen]; exact hr33
  refine lv_astore_n (k := 2) (i := 2) (lv' := [(2, .ref q3), (1, .ref q1), (0, .ref b)]) hx hb (by decide +kernel) rfl hl (by decide) rfl (fun ls hl => ?_)
  refine lv_iconst (n := 0) (v := 0) hx hb (by decide +kernel) (by decide) ?_
  refine lv_istore_n (k := 3) (i := 3) (lv' := [(3, .int 0), (2, .ref q3), (1, .ref q1), (0, .ref b)]) hx hb (by decide +kernel) rfl hl (by decide) rfl (fun ls hl => ?_)
  obtain ⟨hT1, hT2, hT3⟩ := typ_ok hC4 hrn.1
  have h34 := hw4
  have hbig : 34 ≤ y2.1.length := by
    have hb3 := hrn.1
    unfold tyB at hb3
    simp only [Bool.and_eq_true] at hb3
    have := Nat.eq_of_beq_eq_true hb3.1.1.1.1.1.1.1
    rw [← this]; decide
  have m0 : q1 ∈ zL S4 := by rw [← hr40]; exact hC4.mem (by omega)
  have m33 : q3 ∈ zL S4 := by rw [← hr433]; exact hC4.mem (by omega)
  have ro0 : rhoC r4 y2.1.length RO0 q1 = 0 := by rw [← hr40, rhoC_ok hC4.2.1 (by omega)]; rfl
  have ro33 : rhoC r4 y2.1.length RO0 q3 = 17 := by rw [← hr433, rhoC_ok hC4.2.1 (by omega)]; rfl
  refine law_fin (by decide +kernel) (by decide +kernel) (loop_L (ad := adC r4 PS0) (S0 := S4) (ρ0 := rhoC r4 y2.1.length RO0) (g0 := fun _ => 0) (τ0 := fun _ => none) (neg0 := fun _ => 0) (L := (L : Int)) (f := fun j => (xs j).toInt) (N := 0) (g := fun i => if i = 1 then (L : Int) else 0) (τ := fun i => if i = 0 then some q1 else some q3) (S := S4) (ρ := rhoC r4 y2.1.length RO0) hM (by decide +kernel) hr hlocks (by rw [k64l_eq, k64h_eq]; omega) (fun j => i32_rng _) (fun N Qc => rscr_L hx hb hX hbl x9 hL N Qc) (by rw [k64l_eq, k64h_eq]; omega) ?_)
  have w0 : wfL 2 ((.ofNat 0, [(1, .ofNat 1)]) : Lin) := fun q hq => by rw [List.mem_singleton.mp hq]; decide
  refine ⟨⟨?_, ?_, ?_, ?_, ?_, hT3 _, Fr.refl, ?_, hT1, hT2⟩, ?_, ?_, ?_, ?_, ?_, hw4, ?_⟩
  · intro i hi
    have hi : i < 2 := hi
    obtain rfl | rfl : i = 0 ∨ i = 1 := by omega
    · exact ⟨by show (0 : Int) ≤ 0; omega, by show (0 : Int) ≤ 3584; omega⟩
    · exact ⟨by show (0 : Int) ≤ (L : Int); omega, by show (L : Int) ≤ 3584; omega⟩
  · intro i q hq
    have hq : ([(false, [0]), (false, [17])] : List (Bool × List Nat))[i]? = some q := hq
    match i, hq with
    | 0, hq => cases hq; exact ⟨m0, by rw [ro0]; exact List.mem_cons_self⟩
    | 1, hq => cases hq; exact ⟨m33, by rw [ro33]; exact List.mem_cons_self⟩
    | i + 2, hq => cases hq
  · intro f hf; cases hf
  · intro mm hm
    have hm := List.mem_singleton.mp hm
    subst hm
    refine ⟨fun a ha => ?_, w0, ?_, fun reg hr => by simp [gfp] at hr⟩
    · simp only [List.mem_cons, List.not_mem_nil, or_false] at ha
      rcases ha with rfl | rfl | rfl
      · intro q hq; cases hq
      · intro q hq; cases hq
      · intro q hq; cases hq
    · show ghN (zC (adC r4 PS0)) (ngL (L : Int) (fun j => (xs j).toInt) 0) zS0 (Int.negSucc 0 + 0) = 0 + (1 * (L : Int) + 0)
      unfold ghN ngL
      have e1 : Int.negSucc 0 + 0 = (-1 : Int) := rfl
      rw [e1, if_pos (by omega), if_pos rfl]
      omega
  · intro d hd; cases hd
  · intro i hi; cases hi
  · intro q hq
    have hq : q ∈ ([(0, .inr (.inr (.inr (.inr 9)))), (1, .inr (.inr (.inr (.inl 0)))), (2, .inr (.inr (.inr (.inl 1)))), (3, .inl (.ofNat 0, [(0, .ofNat 1)]))] : Lc) := hq
    simp only [List.mem_cons, List.not_mem_nil, or_false] at hq
    rcases hq with rfl | rfl | rfl | rfl
    · trivial
    · show 0 < 2; decide
    · show 1 < 2; decide
    · intro q hq; rw [List.mem_singleton.mp hq]; show 0 < 2; decide
  · intro v hv; cases hv
  · exact ⟨fun q hq => by rw [List.mem_singleton.mp hq]; show 0 < 2; decide, fun q hq => by rw [List.mem_singleton.mp hq]; show 0 < 2; decide⟩
  · show ((0 + 1 + 32 + 1 + 38 : Nat) : Int) ≤ 72 + (23 * 0 + 0); omega
  · show ((0 + 13 + 19935 + 56 + 69369 : Nat) : Int) ≤ 89373 + (92 * 0 + 0); omega
  · have e1 : γL (fun i => if i = 1 then (L : Int) else 0) (fun i => if i = 0 then some q1 else some q3) xs9 (cutS ct_L).1.1 = [(0, .ref (xs9 9)), (1, .ref q1), (2, .ref q3), (3, .int 0)] := rfl
    show lv_has ls 4 (γL _ _ xs9 (cutS ct_L).1.1)
    rw [e1, x9]
    exact lv_sub hl [3, 2, 1, 0] rfl
set_option maxHeartbeats 4000000 in
theorem lw_walk (l : Launch) (hflags : l.flags = flags0) (b : Addr) (xs : List Int32) : MetFree l x (headSpec (Jvm.Cond.code x code maxLocals ret :: tables_1) room_1) (lw_P b xs) (fun _ _ _ _ _ => True) lw_Q := by
  refine MetFree.of_bodyS (code := code) (maxLocals := maxLocals) (ret := ret) (by decide) ?_ ?_
  · intro args s m h hn
    obtain ⟨meth, c, h1, h2, h3, h4, h5, h6, -, -⟩ := Cond.code_spec hn (atoms_spec (ws := Jvm.Cond.code x code maxLocals ret :: tables_1) h _ List.mem_cons_self)
    exact ⟨meth, c, h1, h2, h3, h4, h5, h6⟩
  · intro p e s m args below meth c s₁ B hml0 hP _
    obtain ⟨rfl, hx, hbd, hgv⟩ := hP
    obtain ⟨scr, harrAt, hlist, hof, hsmall⟩ := hx
    obtain ⟨hcb, hkn, -, -⟩ := State.arrayAt?_spec harrAt
    have hown : s.vm.findClass R_law = some m.cls := findClass_of_methodNamed B.named
    have hts0 : ∀ c ∈ (Jvm.Cond.code x code maxLocals ret :: tables_1), c.before #[Value.ref b] s = true := atoms_spec (ws := Jvm.Cond.code x code maxLocals ret :: tables_1) B.pre
    have hts : ∀ w ∈ lw_tbl, w.before #[Value.ref b] s = true := k2_hts_sels lw_privs (fun w hw => hts0 w (List.mem_cons_of_mem _ hw)) lw_privs_ok
    have hml : c.maxLocals = 4 := B.maxLocals_eq (hts0 _ List.mem_cons_self)
    have X₀ : Stand p l e room_1 s m #[Value.ref b] below meth c s₁ [] 0 0 := Stand.of_body B
    have hh0 : s₁.heap = s.heap := by rw [B.state]; rfl
    have hsz : scr.slots.size = xs.length := by rw [← Array.length_toList, hlist, List.length_map]
    have hval : ∀ j : Nat, j < xs.length → scr.slots[j]? = some (.int (xs.getD j 0)) := fun j hj => by
      rw [← Array.getElem?_toList, hlist]
      simp [hj]
    have hbl : b < s.heap.size := (Array.getElem?_eq_some_iff.mp hcb).1
    have hX : va_X b xs.length (fun j => xs.getD j 0) s s.heap := ⟨scr, hcb, hof, hkn, hsz, hval⟩
    have K : W p l e room_1 s m #[Value.ref b] below meth c s₁.heap [] 0 0 (lw_Z below #[Value.ref b] s) (entryFrame m ([Value.ref b] : List Value).toArray 4) := by
      rw [hh0]
      exact whole_start l hflags hbd ⟨B.exec, B.bytes, B.returns, hml, hown, hts, hX, hbl, B.notSynchronized, hgv⟩
    obtain ⟨t, a1, o, b1, b2, b3⟩ := K s₁ rfl X₀
    exact ⟨t, o, a1, b1, b2, b3⟩
theorem lw_pre_spec {args : Array Value} {s : State} (h : (Jvm.Cond.and given_1 narrow_1).before args s = true) (hr : rest_1_c.before args s = true) : ∃ (b : Addr) (xs : List Int32), lw_P b xs args s := by
  have hs := flat_of_before _ h
  have hq := flat_of_before _ hr
  have hc : (Cond.count 1).before args s = true := hs _ (by decide +kernel)
  have harr : (Cond.arrayOf (.arg 0) .int).before args s = true := hs _ (by decide +kernel)
  have hle : (Cond.le (.length (.arg 0)) (.int 3584)).before args s = true := hs _ (by decide +kernel)
  have hlen : (Cond.isInt (.length (.arg 0))).before args s = true := hq _ (by decide +kernel)
  have hall : (Cond.all (.arg 0) (.isInt (.elem (.arg 0) (.index 0)))).before args s = true := hq _ (by decide +kernel)
  obtain ⟨b, xs, hb, hx⟩ := State.ints_of_pre rfl harr hlen hall
  have hsm : xs.length < 2 ^ 31 := hx.choose_spec.2.2.2
  have hev : (Term.length (.arg 0)).eval args s none [] s = some (.int xs.length.toInt32) := hx.length_eval hb
  have hv := Cond.le_ints hev (show (Term.int 3584).eval args s none [] s = some (.int 3584) from rfl)
  have hd : xs.length.toInt32 ≤ 3584 := by
    simpa [Cond.before, Cond.holds, hv] using hle
  have hN : xs.length ≤ 3584 := (Int32.ofNat_le_ofNat hsm (by decide)).mp (show Int32.ofNat xs.length ≤ Int32.ofNat 3584 from hd)
  exact ⟨b, xs, Cond.one_arg hc (show args[0]? = some (.ref b) from hb), hx, hN, h⟩
theorem lw_comes (l : Launch) (hflags : l.flags = flags0) : Comes l x (Jvm.Cond.code x code maxLocals ret :: tables_1) room_1 (fun tb e args s => Calls_1 tb e args s ∧ rest_1 tb e args s ∧ Pre_1 tb e args s)
    (fun _ _ args s o t => lw_Q args s o t) := by
  intro p e ha hc hk s m args below hf hfit hheap happ hpre
  obtain ⟨b, xs, hP⟩ := lw_pre_spec hpre.2.2 hpre.2.1
  obtain ⟨k, o, h1, h2, h3, hQ⟩ := lw_walk l hflags b xs p e ha hc hk s m args below hf ((Spec.applies_iff_loose hf).mp happ).1 hP trivial
  exact ⟨k, o, h1, h2, h3, hQ⟩
theorem lw_frame {s t : State} {o : Outcome} {args : Array Value} (h : Framed s o t [] 600000 7302250) :
    Framed s o t (fieldLocs frame_1_writes args s ++ arrayLocs frame_1_arrays args s ++ staticLocs frame_1_statics s) 600000 7302250 := h
theorem lw_limb (L : Cond) (hL : ∀ (args : Array Value) (s t : State), L.after args s (.returned (some (.int 1))) t = true) :
    ArmFor flags0 classFile x code maxLocals ret World_1 tables_1 room_1 Calls_1 rest_1 Pre_1
      (fun tb e a s o t => postC L tb e a s o t ∧ Framed s o t (fieldLocs frame_1_writes a s ++ arrayLocs frame_1_arrays a s ++ staticLocs frame_1_statics s) 600000 7302250) := by
  intro l hflags _ _ p e ha hc hk s m args below hf hfit hheap happ hpre
  obtain ⟨k, o, h1, h2, h3, rfl, hF⟩ := lw_comes l hflags p e ha hc hk s m args below hf hfit hheap happ hpre
  exact ⟨k, _, h1, h2, h3, hL args s _, lw_frame hF⟩
theorem i_vc : Claimed_1_1 ∧ Claimed_1_2 := ⟨lw_limb limb_1_1 (fun args s t => by simp [limb_1_1, Cond.after, Cond.holds, Cond.value]), lw_limb limb_1_2 (fun args s t => Cond.after_iff.mpr (by
  first | (rw [show limb_1_2 = Cond.eq .result (.int 1) from rfl, Cond.eq_ints (x := 1) (y := 1) rfl rfl]; simp; done) | (simp [limb_1_2, Cond.value, Term.eval]; done)))⟩
