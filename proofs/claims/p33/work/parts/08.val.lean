/-! values by symbols; a state of the machine by an abstract one; straight instructions and branches -/
abbrev Vl : Type := Lin ⊕ (Lin ⊕ (Lin ⊕ (Nat ⊕ Nat)))
def γ (g : Nat → Int) (τ : Nat → Option Nat) (xs : Nat → Nat) (v : Vl) : Value := match v with
  | .inl f => .int (Int32.ofInt (ev g f))
  | .inr (.inl f) => .long (Int64.ofInt (ev g f))
  | .inr (.inr (.inl f)) => .int (cmpI (ev g f))
  | .inr (.inr (.inr (.inl i))) => va_rf (τ i)
  | .inr (.inr (.inr (.inr k))) => .ref (xs k)
def vcat (v : Vl) : Nat := match v with
  | .inr (.inl _) => 2
  | _ => 1
theorem γ_cat {g : Nat → Int} {τ : Nat → Option Nat} {xs : Nat → Nat} {v : Vl} : (γ g τ xs v).category = vcat v := by
  match v with
  | .inl f => rfl
  | .inr (.inl f) => rfl
  | .inr (.inr (.inl f)) => rfl
  | .inr (.inr (.inr (.inl i))) => show (va_rf (τ i)).category = 1
                                   cases τ i <;> rfl
  | .inr (.inr (.inr (.inr k))) => rfl
def wfV (n r : Nat) (v : Vl) : Prop := match v with
  | .inl f => wfL n f
  | .inr (.inl f) => wfL n f
  | .inr (.inr (.inl f)) => wfL n f
  | .inr (.inr (.inr (.inl i))) => i < r
  | .inr (.inr (.inr (.inr _))) => True
theorem wfV_mono {n n' r r' : Nat} {v : Vl} (h : wfV n r v) (hn : n ≤ n') (hr : r ≤ r') : wfV n' r' v := by
  match v, h with
  | .inl f, h => exact wf_mono h hn
  | .inr (.inl f), h => exact wf_mono h hn
  | .inr (.inr (.inl f)), h => exact wf_mono h hn
  | .inr (.inr (.inr (.inl i))), h => exact Nat.lt_of_lt_of_le h hr
  | .inr (.inr (.inr (.inr _))), _ => trivial
theorem γ_congr {n r : Nat} {g g' : Nat → Int} {τ τ' : Nat → Option Nat} {xs : Nat → Nat} {v : Vl} (w : wfV n r v) (e : ∀ i, i < n → g' i = g i) (e2 : ∀ i, i < r → τ' i = τ i) : γ g' τ' xs v = γ g τ xs v := by
  match v, w with
  | .inl f, w => show Value.int (Int32.ofInt (ev g' f)) = _
                 rw [ev_congr w e]; rfl
  | .inr (.inl f), w => show Value.long (Int64.ofInt (ev g' f)) = _
                        rw [ev_congr w e]; rfl
  | .inr (.inr (.inl f)), w => show Value.int (cmpI (ev g' f)) = _
                               rw [ev_congr w e]; rfl
  | .inr (.inr (.inr (.inl i))), w => show va_rf (τ' i) = _
                                      rw [e2 i w]; rfl
  | .inr (.inr (.inr (.inr _))), _ => rfl
abbrev Lc : Type := List (Nat × Vl)
abbrev Nn : Type := Lin × Lin
abbrev As : Type := (Lc × List Vl) × En × Nn
def γL (g : Nat → Int) (τ : Nat → Option Nat) (xs : Nat → Nat) (L : Lc) : List (Nat × Value) := L.map (fun q => (q.1, γ g τ xs q.2))
def γK (g : Nat → Int) (τ : Nat → Option Nat) (xs : Nat → Nat) (K : List Vl) : List Value := K.map (γ g τ xs)
def wfK (E : En) (K : List Vl) : Prop := ∀ v ∈ K, wfV E.1.length E.2.1.length v
def wfLc (E : En) (L : Lc) : Prop := ∀ q ∈ L, wfV E.1.length E.2.1.length q.2
def wfN (E : En) (n : Nn) : Prop := wfL E.1.length n.1 ∧ wfL E.1.length n.2
theorem γK_congr {g g' : Nat → Int} {τ τ' : Nat → Option Nat} {xs : Nat → Nat} {E : En} : ∀ {K : List Vl}, wfK E K → (∀ i, i < E.1.length → g' i = g i) → (∀ i, i < E.2.1.length → τ' i = τ i) → γK g' τ' xs K = γK g τ xs K
  | [], _, _, _ => rfl
  | v :: K, w, e1, e2 => by
    show γ g' τ' xs v :: γK g' τ' xs K = γ g τ xs v :: γK g τ xs K
    rw [γ_congr (w v List.mem_cons_self) e1 e2, γK_congr (K := K) (fun z hz => w z (List.mem_cons_of_mem _ hz)) e1 e2]
theorem γL_congr {g g' : Nat → Int} {τ τ' : Nat → Option Nat} {xs : Nat → Nat} {E : En} : ∀ {L : Lc}, wfLc E L → (∀ i, i < E.1.length → g' i = g i) → (∀ i, i < E.2.1.length → τ' i = τ i) → γL g' τ' xs L = γL g τ xs L
  | [], _, _, _ => rfl
  | q :: L, w, e1, e2 => by
    show (q.1, γ g' τ' xs q.2) :: γL g' τ' xs L = (q.1, γ g τ xs q.2) :: γL g τ xs L
    rw [γ_congr (w q List.mem_cons_self) e1 e2, γL_congr (L := L) (fun z hz => w z (List.mem_cons_of_mem _ hz)) e1 e2]
/-- E' says at least what E does, with more symbols perhaps -/
def Xt (E E' : En) (g g' : Nat → Int) (τ τ' : Nat → Option Nat) : Prop := E.1.length ≤ E'.1.length ∧ (∀ i, i < E.1.length → g' i = g i) ∧ E.2.1.length ≤ E'.2.1.length ∧ (∀ i, i < E.2.1.length → τ' i = τ i)
theorem Xt.refl {E : En} {g : Nat → Int} {τ : Nat → Option Nat} : Xt E E g g τ τ := ⟨Nat.le_refl _, fun _ _ => rfl, Nat.le_refl _, fun _ _ => rfl⟩
theorem Xt.trans {E E1 E2 : En} {g g1 g2 : Nat → Int} {τ τ1 τ2 : Nat → Option Nat} (h : Xt E E1 g g1 τ τ1) (k : Xt E1 E2 g1 g2 τ1 τ2) : Xt E E2 g g2 τ τ2 :=
  ⟨Nat.le_trans h.1 k.1, fun i hi => (k.2.1 i (Nat.lt_of_lt_of_le hi h.1)).trans (h.2.1 i hi), Nat.le_trans h.2.2.1 k.2.2.1, fun i hi => (k.2.2.2 i (Nat.lt_of_lt_of_le hi h.2.2.1)).trans (h.2.2.2 i hi)⟩
theorem Xt.K {E E' : En} {g g' : Nat → Int} {τ τ' : Nat → Option Nat} {xs : Nat → Nat} {K : List Vl} (h : Xt E E' g g' τ τ') (w : wfK E K) : wfK E' K ∧ γK g' τ' xs K = γK g τ xs K := ⟨fun v hv => wfV_mono (w v hv) h.1 h.2.2.1, γK_congr w h.2.1 h.2.2.2⟩
theorem Xt.L {E E' : En} {g g' : Nat → Int} {τ τ' : Nat → Option Nat} {xs : Nat → Nat} {L : Lc} (h : Xt E E' g g' τ τ') (w : wfLc E L) : wfLc E' L ∧ γL g' τ' xs L = γL g τ xs L := ⟨fun v hv => wfV_mono (w v hv) h.1 h.2.2.1, γL_congr w h.2.1 h.2.2.2⟩
theorem Xt.f {E E' : En} {g g' : Nat → Int} {τ τ' : Nat → Option Nat} {f : Lin} (h : Xt E E' g g' τ τ') (w : wfL E.1.length f) : wfL E'.1.length f ∧ ev g' f = ev g f := ⟨wf_mono w h.1, ev_congr w h.2.1⟩
def stL1 (i : Nat) (v : Vl) (L : Lc) : Lc := (i, v) :: L.filter (fun q => !(q.1 == i) && !(q.1 + 1 == i && vcat q.2 == 2))
def stL2 (i : Nat) (v : Vl) (L : Lc) : Lc := (i, v) :: L.filter (fun q => !(q.1 == i) && (!(q.1 == i + 1) && !(q.1 + 1 == i && vcat q.2 == 2)))
theorem γL_st1 {g : Nat → Int} {τ : Nat → Option Nat} {xs : Nat → Nat} {L : Lc} {i : Nat} {v : Vl} : (i, γ g τ xs v) :: (γL g τ xs L).filter (fun q => !(q.1 == i) && !(q.1 + 1 == i && q.2.category == 2)) = γL g τ xs (stL1 i v L) := by
  show _ = (i, γ g τ xs v) :: γL g τ xs (L.filter _)
  unfold γL
  rw [List.filter_map]
  congr 2
  apply List.filter_congr
  intro q _
  simp only [Function.comp, γ_cat]
theorem γL_st2 {g : Nat → Int} {τ : Nat → Option Nat} {xs : Nat → Nat} {L : Lc} {i : Nat} {v : Vl} : (i, γ g τ xs v) :: (γL g τ xs L).filter (fun q => !(q.1 == i) && (!(q.1 == i + 1) && !(q.1 + 1 == i && q.2.category == 2))) = γL g τ xs (stL2 i v L) := by
  show _ = (i, γ g τ xs v) :: γL g τ xs (L.filter _)
  unfold γL
  rw [List.filter_map]
  congr 2
  apply List.filter_congr
  intro q _
  simp only [Function.comp, γ_cat]
theorem wf_st1 {E : En} {L : Lc} {i : Nat} {v : Vl} (h : wfLc E L) (hv : wfV E.1.length E.2.1.length v) : wfLc E (stL1 i v L) := by
  intro q hq
  rcases List.mem_cons.mp hq with rfl | hq
  · exact hv
  · exact h q (List.mem_filter.mp hq).1
theorem wf_st2 {E : En} {L : Lc} {i : Nat} {v : Vl} (h : wfLc E L) (hv : wfV E.1.length E.2.1.length v) : wfLc E (stL2 i v L) := by
  intro q hq
  rcases List.mem_cons.mp hq with rfl | hq
  · exact hv
  · exact h q (List.mem_filter.mp hq).1
def gtL (i : Nat) : Lc → Option Vl
  | [] => none
  | q :: r => match Nat.beq q.1 i with
    | true => some q.2
    | false => gtL i r
theorem gtL_ok {i : Nat} {v : Vl} : ∀ {L : Lc}, gtL i L = some v → ∃ k : Nat, L[k]? = some (i, v)
  | [], h => by simp [gtL] at h
  | q :: r, h => by
    simp only [gtL] at h
    cases e : Nat.beq q.1 i with
    | true =>
      rw [e] at h
      have h := Option.some.inj h
      have e := Nat.eq_of_beq_eq_true e
      subst h; subst e
      exact ⟨0, rfl⟩
    | false =>
      rw [e] at h
      obtain ⟨k, hk⟩ := gtL_ok h
      exact ⟨k + 1, by simpa using hk⟩
theorem gtL_wf {E : En} {L : Lc} {i : Nat} {v : Vl} (h : wfLc E L) (e : gtL i L = some v) : wfV E.1.length E.2.1.length v := by
  obtain ⟨k, hk⟩ := gtL_ok e
  exact h _ (List.mem_of_getElem? hk)
theorem gtL_at {g : Nat → Int} {τ : Nat → Option Nat} {xs : Nat → Nat} {L : Lc} {i : Nat} {v : Vl} (e : gtL i L = some v) : ∃ k : Nat, (γL g τ xs L)[k]? = some (i, γ g τ xs v) := by
  obtain ⟨k, hk⟩ := gtL_ok e
  exact ⟨k, by unfold γL; rw [List.getElem?_map, hk]; rfl⟩
/-- what rides with a method's run -/
def MX (xs : Nat → Nat) (cD : va_G) (cy : Nat → ClassId) (A : Nat → Prop) (p : Program) (s : State) (m : MethodId) (args : Array Value) (c : Code) (cc : ByteArray) (nL : Nat) (Ts : List Cond) (own : String) : Prop :=
  CallFix p m c cc nL s args Ts own ∧ (∀ w ∈ TB, w ∈ Ts) ∧ zKK cD cy s ∧ zE s ∧ zH xs A s s.heap ∧ ∀ q, s.heap.size ≤ q → A q
section GL
variable {T : Tt} {ad : Nat → Nat} {gh : zS → Int → Int} {XI : zS → Prop} {S0 : zS} {ρ0 : Nat → Nat} {xs : Nat → Nat} {cD : va_G} {cy : Nat → ClassId} {A : Nat → Prop}
variable {p : Program} {l : Launch} {e : Env} {R : Room} {s : State} {m : MethodId} {args : Array Value} {below : List Frame} {meth : Method} {c : Code} {Q : State → Prop} {cc : ByteArray} {nL : Nat} {Ts : List Cond} {own : String}
def SatA (T : Tt) (ad : Nat → Nat) (gh : zS → Int → Int) (XI : zS → Prop) (S0 : zS) (ρ0 : Nat → Nat) (xs : Nat → Nat) (cD : va_G) (cy : Nat → ClassId) (A : Nat → Prop) (s : State) (nL : Nat) (a : As) (g : Nat → Int) (τ : Nat → Option Nat) (S : zS) (ρ : Nat → Nat) (H : Heap) (locs : List Loc) (cells slots : Nat) (ls : Array Slot) : Prop :=
  SatE T ad gh XI S0 ρ0 a.2.1 g τ S ρ ∧ wfLc a.2.1 a.1.1 ∧ wfK a.2.1 a.1.2 ∧ wfN a.2.1 a.2.2 ∧ (cells : Int) ≤ ev g a.2.2.1 ∧ (slots : Int) ≤ ev g a.2.2.2 ∧ zPw cD cy A s.heap S H locs ∧ lv_has ls nL (γL g τ xs a.1.1)
def Gl (T : Tt) (ad : Nat → Nat) (gh : zS → Int → Int) (XI : zS → Prop) (S0 : zS) (ρ0 : Nat → Nat) (xs : Nat → Nat) (cD : va_G) (cy : Nat → ClassId) (A : Nat → Prop) (p : Program) (l : Launch) (e : Env) (R : Room) (s : State) (m : MethodId) (args : Array Value) (below : List Frame) (meth : Method) (c : Code) (Q : State → Prop) (nL : Nat) (pc : Nat) (a : As) : Prop :=
  ∀ g τ S ρ H locs cells slots ls, SatA T ad gh XI S0 ρ0 xs cD cy A s nL a g τ S ρ H locs cells slots ls → W p l e R s m args below meth c H locs cells slots Q (F0 m pc ls (γK g τ xs a.1.2))
abbrev Suc : Type := List (As × Nat)
def one (L : Lc) (K : List Vl) (E : En) (n : Nn) (pc : Nat) : Option Suc := some [(((L, K), E, n), pc)]
/-- an int pushed -/
def pI (r : Rs) (L : Lc) (K : List Vl) (E : En) (n : Nn) (pc : Nat) : Option Suc := match r with
  | .inl f => one L (.inl f :: K) E n pc
  | .inr x => one L (.inl (lsy E.1.length) :: K) (eI E x) n pc
def pJ (r : Rs) (L : Lc) (K : List Vl) (E : En) (n : Nn) (pc : Nat) : Option Suc := match r with
  | .inl f => one L (.inr (.inl f) :: K) E n pc
  | .inr x => one L (.inr (.inl (lsy E.1.length)) :: K) (eI E x) n pc
theorem Xt_eI {E : En} {g : Nat → Int} {τ : Nat → Option Nat} {x : Itv} {n : Int} : Xt E (eI E x) g (gup g E.1.length n) τ τ := ⟨by simp [eI], fun i hi => gup_lt hi, Nat.le_refl _, fun _ _ => rfl⟩
theorem Xt_eR {E : En} {g : Nat → Int} {τ : Nat → Option Nat} {x : Bool × List Nat} {q : Option Nat} : Xt E (eR E x) g g τ (gup τ E.2.1.length q) := ⟨Nat.le_refl _, fun _ _ => rfl, by simp [eR], fun i hi => gup_lt hi⟩
/-- the same place of locals and counters in a greater environment -/
theorem SatA.xt {L : Lc} {K K' : List Vl} {E E' : En} {n : Nn} {g g' : Nat → Int} {τ τ' : Nat → Option Nat} {S S' : zS} {ρ ρ' : Nat → Nat} {H H' : Heap} {locs locs' : List Loc} {cells slots : Nat} {ls : Array Slot} (h : SatA T ad gh XI S0 ρ0 xs cD cy A s nL ((L, K), E, n) g τ S ρ H locs cells slots ls) (hx : Xt E E' g g' τ τ') (hE : SatE T ad gh XI S0 ρ0 E' g' τ' S' ρ') (hK : wfK E' K') (hw : zPw cD cy A s.heap S' H' locs') : SatA T ad gh XI S0 ρ0 xs cD cy A s nL ((L, K'), E', n) g' τ' S' ρ' H' locs' cells slots ls := by
  obtain ⟨h1, h2, h3, h4, h5, h6, h7, h8⟩ := h
  have hL := hx.L (xs := xs) h2
  have n1 := hx.f h4.1
  have n2 := hx.f h4.2
  refine ⟨hE, hL.1, hK, ⟨n1.1, n2.1⟩, ?_, ?_, hw, ?_⟩
  · show (cells : Int) ≤ ev g' n.1
    rw [n1.2]; exact h5
  · show (slots : Int) ≤ ev g' n.2
    rw [n2.2]; exact h6
  · show lv_has ls nL (γL g' τ' xs L)
    rw [hL.2]; exact h8
theorem SatA_wfK {L : Lc} {K : List Vl} {E : En} {n : Nn} {g : Nat → Int} {τ : Nat → Option Nat} {S : zS} {ρ : Nat → Nat} {H : Heap} {locs : List Loc} {cells slots : Nat} {ls : Array Slot} (h : SatA T ad gh XI S0 ρ0 xs cD cy A s nL ((L, K), E, n) g τ S ρ H locs cells slots ls) : wfK E K := h.2.2.1
theorem wfK_cons {E : En} {v : Vl} {K : List Vl} (h : wfV E.1.length E.2.1.length v) (k : wfK E K) : wfK E (v :: K) := fun z hz => (List.mem_cons.mp hz).elim (fun q => q ▸ h) (k z)
theorem wfK_tl {E : En} {v : Vl} {K : List Vl} (h : wfK E (v :: K)) : wfK E K := fun z hz => h z (List.mem_cons_of_mem _ hz)
theorem wfK_hd {E : En} {v : Vl} {K : List Vl} (h : wfK E (v :: K)) : wfV E.1.length E.2.1.length v := h v List.mem_cons_self
theorem ofInt_toInt32 (v : Int32) : Int32.ofInt v.toInt = v := Int32.ofInt_toInt v
theorem ofInt_toInt64 (v : Int64) : Int64.ofInt v.toInt = v := Int64.ofInt_toInt v
/-- after an int is pushed -/
theorem pI_ok {r : Rs} {L : Lc} {K K0 : List Vl} {E : En} {n : Nn} {pc : Nat} {sc : Suc} (hp : pI r L K E n pc = some sc) (hs : ∀ x ∈ sc, Gl T ad gh XI S0 ρ0 xs cD cy A p l e R s m args below meth c Q nL x.2 x.1)
    {g : Nat → Int} {τ : Nat → Option Nat} {S : zS} {ρ : Nat → Nat} {H : Heap} {locs : List Loc} {cells slots : Nat} {ls : Array Slot} (h : SatA T ad gh XI S0 ρ0 xs cD cy A s nL ((L, K0), E, n) g τ S ρ H locs cells slots ls) (hK : wfK E K) {v : Int32} (hr : Rs32 E.1.length g r v) :
    W p l e R s m args below meth c H locs cells slots Q (F0 m pc ls (.int v :: γK g τ xs K)) := by
  match r, hp, hr with
  | .inl f, hp, hr =>
    cases hp
    obtain ⟨w, rfl⟩ := hr
    exact hs _ List.mem_cons_self g τ S ρ H locs cells slots ls (h.xt Xt.refl h.1 (wfK_cons w hK) h.2.2.2.2.2.2.1)
  | .inr x, hp, hr =>
    cases hp
    have hx : Xt E (eI E x) g (gup g E.1.length v.toInt) τ τ := Xt_eI
    have hk := hx.K (xs := xs) hK
    have := hs _ List.mem_cons_self (gup g E.1.length v.toInt) τ S ρ H locs cells slots ls (h.xt (K' := .inl (lsy E.1.length) :: K) hx (h.1.fresh hr) (wfK_cons (wf_lsy (by simp [eI])) hk.1) h.2.2.2.2.2.2.1)
    have e1 : γK (gup g E.1.length v.toInt) τ xs (.inl (lsy E.1.length) :: K) = .int v :: γK g τ xs K := by
      show Value.int (Int32.ofInt (ev _ (lsy E.1.length))) :: γK (gup g E.1.length v.toInt) τ xs K = _
      rw [ev_lsy, gup_self, ofInt_toInt32, hk.2]
    rw [← e1]; exact this
theorem pJ_ok {r : Rs} {L : Lc} {K K0 : List Vl} {E : En} {n : Nn} {pc : Nat} {sc : Suc} (hp : pJ r L K E n pc = some sc) (hs : ∀ x ∈ sc, Gl T ad gh XI S0 ρ0 xs cD cy A p l e R s m args below meth c Q nL x.2 x.1)
    {g : Nat → Int} {τ : Nat → Option Nat} {S : zS} {ρ : Nat → Nat} {H : Heap} {locs : List Loc} {cells slots : Nat} {ls : Array Slot} (h : SatA T ad gh XI S0 ρ0 xs cD cy A s nL ((L, K0), E, n) g τ S ρ H locs cells slots ls) (hK : wfK E K) {v : Int64} (hr : Rs64 E.1.length g r v) :
    W p l e R s m args below meth c H locs cells slots Q (F0 m pc ls (.long v :: γK g τ xs K)) := by
  match r, hp, hr with
  | .inl f, hp, hr =>
    cases hp
    obtain ⟨w, rfl⟩ := hr
    exact hs _ List.mem_cons_self g τ S ρ H locs cells slots ls (h.xt Xt.refl h.1 (wfK_cons w hK) h.2.2.2.2.2.2.1)
  | .inr x, hp, hr =>
    cases hp
    have hx : Xt E (eI E x) g (gup g E.1.length v.toInt) τ τ := Xt_eI
    have hk := hx.K (xs := xs) hK
    have := hs _ List.mem_cons_self (gup g E.1.length v.toInt) τ S ρ H locs cells slots ls (h.xt (K' := .inr (.inl (lsy E.1.length)) :: K) hx (h.1.fresh hr) (wfK_cons (wf_lsy (by simp [eI])) hk.1) h.2.2.2.2.2.2.1)
    have e1 : γK (gup g E.1.length v.toInt) τ xs (.inr (.inl (lsy E.1.length)) :: K) = .long v :: γK g τ xs K := by
      show Value.long (Int64.ofInt (ev _ (lsy E.1.length))) :: γK (gup g E.1.length v.toInt) τ xs K = _
      rw [ev_lsy, gup_self, ofInt_toInt64, hk.2]
    rw [← e1]; exact this
/-- after a reference is pushed -/
def pR (x : Bool × List Nat) (L : Lc) (K : List Vl) (E : En) (n : Nn) (pc : Nat) : Option Suc := one L (.inr (.inr (.inr (.inl E.2.1.length))) :: K) (eR E x) n pc
theorem pR_ok {x : Bool × List Nat} {L : Lc} {K K0 : List Vl} {E : En} {n : Nn} {pc : Nat} {sc : Suc} (hp : pR x L K E n pc = some sc) (hs : ∀ x ∈ sc, Gl T ad gh XI S0 ρ0 xs cD cy A p l e R s m args below meth c Q nL x.2 x.1)
    {g : Nat → Int} {τ : Nat → Option Nat} {S : zS} {ρ : Nat → Nat} {H : Heap} {locs : List Loc} {cells slots : Nat} {ls : Array Slot} (h : SatA T ad gh XI S0 ρ0 xs cD cy A s nL ((L, K0), E, n) g τ S ρ H locs cells slots ls) (hK : wfK E K) {q : Option Nat} (hr : RefOK S ρ x.1 x.2 q) :
    W p l e R s m args below meth c H locs cells slots Q (F0 m pc ls (va_rf q :: γK g τ xs K)) := by
  cases hp
  have hx : Xt E (eR E x) g g τ (gup τ E.2.1.length q) := Xt_eR
  have hk := hx.K (xs := xs) hK
  have := hs _ List.mem_cons_self g (gup τ E.2.1.length q) S ρ H locs cells slots ls (h.xt (K' := .inr (.inr (.inr (.inl E.2.1.length))) :: K) hx (h.1.freshR hr) (wfK_cons (by show E.2.1.length < (eR E x).2.1.length; simp [eR]) hk.1) h.2.2.2.2.2.2.1)
  have e1 : γK g (gup τ E.2.1.length q) xs (.inr (.inr (.inr (.inl E.2.1.length))) :: K) = va_rf q :: γK g τ xs K := by
    show va_rf (gup τ E.2.1.length q E.2.1.length) :: γK g (gup τ E.2.1.length q) xs K = _
    rw [gup_self, hk.2]
  rw [← e1]; exact this
end GL
