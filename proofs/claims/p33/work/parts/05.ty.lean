/-! roles, regions, the typed pool, what an abstract environment says of it -/
abbrev FTy : Type := Itv ⊕ ((Bool × List Nat) ⊕ Unit)
/-- a role: kind, length, the types of the fields, the stretches of an array of ints, the elements of an array of references -/
abbrev RI : Type := Nat × Nat × List FTy × List (Nat × Nat × Itv) × (Bool × List Nat)
/-- a region: role, whether an array, the field's number -/
abbrev RGI : Type := Nat × Bool × Nat
abbrev CGI : Type := List (Nat × Nat) × List (List Itv)
/-- roles; regions; coupled rows; regions that only contracts by hand write; how many roles have one cell alone; the footprint of the ghost -/
abbrev Tt : Type := List RI × List RGI × List CGI × List Nat × Nat × List Nat
def tRT (T : Tt) : List RI := T.1
def tRG (T : Tt) : List RGI := T.2.1
def tCG (T : Tt) : List CGI := T.2.2.1
def tXR (T : Tt) : List Nat := T.2.2.2.1
def tU (T : Tt) : Nat := T.2.2.2.2.1
def tCF (T : Tt) : List Nat := T.2.2.2.2.2
def nin (n : Nat) : List Nat → Bool
  | [] => false
  | a :: r => match Nat.beq n a with
    | true => true
    | false => nin n r
theorem nin_iff {n : Nat} : ∀ {l : List Nat}, nin n l = true ↔ n ∈ l
  | [] => by simp [nin]
  | a :: r => by
    simp only [nin]
    cases h : Nat.beq n a with
    | true => have := Nat.eq_of_beq_eq_true h; simp [this]
    | false =>
      have hn : n ≠ a := fun e => by subst e; simp at h
      simp only [List.mem_cons]
      rw [nin_iff (l := r)]
      exact ⟨Or.inr, fun q => q.resolve_left hn⟩
theorem nin_not {n : Nat} {l : List Nat} (h : nin n l = false) : n ∉ l := fun q => by rw [nin_iff.mpr q] at h; cases h
def sbs : List Nat → List Nat → Bool
  | [], _ => true
  | a :: r, l => match nin a l with
    | true => sbs r l
    | false => false
theorem sbs_ok : ∀ {k l : List Nat}, sbs k l = true → ∀ a ∈ k, a ∈ l
  | [], _, _, a, ha => by simp at ha
  | b :: r, l, h, a, ha => by
    simp only [sbs] at h
    cases h1 : nin b l with
    | true =>
      rw [h1] at h
      rcases List.mem_cons.mp ha with rfl | ha
      · exact nin_iff.mp h1
      · exact sbs_ok h a ha
    | false => rw [h1] at h; cases h
def RefOK (S : zS) (ρ : Nat → Nat) (n : Bool) (rs : List Nat) (q : Option Nat) : Prop := match q with
  | none => n = true
  | some a => a ∈ zL S ∧ ρ a ∈ rs
def FldOK (S : zS) (ρ : Nat → Nat) (t : FTy) (j a : Nat) : Prop := match t with
  | .inl iv => iv.1 ≤ (zI S j a).toInt ∧ (zI S j a).toInt ≤ iv.2
  | .inr (.inl nr) => RefOK S ρ nr.1 nr.2 (zQ S j a)
  | .inr (.inr _) => True
def SegOK (f : Nat → Int32) (q : Nat × Nat × Itv) : Prop := ∀ i, q.1 ≤ i → i < q.2.1 → q.2.2.1 ≤ (f i).toInt ∧ (f i).toInt ≤ q.2.2.2
def CelOK (S : zS) (ρ : Nat → Nat) (ri : RI) (a : Nat) : Prop :=
  zK S a = ri.1 ∧ (12 < ri.1 → zN S a = ri.2.1) ∧ (ri.1 < 13 → ∀ i t, ri.2.2.1[i]? = some t → FldOK S ρ t (z_bs ri.1 + i) a) ∧ (ri.1 = 13 → ∀ q ∈ ri.2.2.2.1, SegOK (zA S a) q) ∧ (14 < ri.1 → ∀ i, i < ri.2.1 → RefOK S ρ ri.2.2.2.2.1 ri.2.2.2.2.2 (zR S a i))
def Typed (T : Tt) (ad : Nat → Nat) (S : zS) (ρ : Nat → Nat) : Prop :=
  (∀ a ∈ zL S, ∃ ri : RI, (tRT T)[ρ a]? = some ri ∧ CelOK S ρ ri a) ∧ (∀ r, r < tU T → ad r ∈ zL S ∧ ρ (ad r) = r) ∧ (∀ a ∈ zL S, ρ a < tU T → a = ad (ρ a))
/-- an element of ints; of the longs' lower halves; from 2 on: whether a reference stands in a field; a field -/
def RGq (ad : Nat → Nat) (S : zS) (q : RGI) (i : Int) : Int := match q.2.1 with
  | true => match q.2.2 with
    | 0 => (zA S (ad q.1) i.toNat).toInt
    | 1 => ((zB S (ad q.1) i.toNat).toInt32).toInt
    | j + 2 => match zQ S j (ad q.1) with
      | none => 0
      | some _ => 1
  | false => (zI S q.2.2 (ad q.1)).toInt
theorem RGq_rng {ad : Nat → Nat} {S : zS} {q : RGI} {i : Int} : -2147483648 ≤ RGq ad S q i ∧ RGq ad S q i ≤ 2147483647 := by
  have h32 : ∀ x : Int32, -2147483648 ≤ x.toInt ∧ x.toInt ≤ 2147483647 := fun x => ⟨Int32.le_toInt x, by have := Int32.toInt_lt x; omega⟩
  unfold RGq
  split
  · split
    · exact h32 _
    · exact h32 _
    · split <;> omega
  · exact h32 _
def RGv (T : Tt) (ad : Nat → Nat) (S : zS) (reg : Nat) (i : Int) : Int := RGq ad S (nth (0, false, 0) (tRG T) reg) i
def zS0 : zS := ([], fun _ => 0, fun _ => 0, fun _ _ => 0, fun _ _ => 0, fun _ _ => none, fun _ _ => 0, fun _ _ => 0, fun _ _ => none)
/-- 0: a quotient, or by three places a number that stays; 1: a remainder; 2: the ghost; from 3 on: regions -/
def GV (T : Tt) (ad : Nat → Nat) (gh : zS → Int → Int) (n : Nat) (S : zS) (as : List Int) : Int := match n with
  | 0 => match as with
    | _ :: _ :: t :: _ => gh zS0 t
    | _ => Int.tdiv (nth 0 as 0) (nth 0 as 1)
  | 1 => Int.tmod (nth 0 as 0) (nth 0 as 1)
  | 2 => gh S ((nth 0 as 0).toNat : Int)
  | reg + 3 => RGv T ad S reg (nth 0 as 0)
def gfp (T : Tt) (n : Nat) : List Nat := match n with
  | 0 => []
  | 1 => []
  | 2 => tCF T
  | reg + 3 => [reg]
def CoupOK (T : Tt) (ad : Nat → Nat) (G : CGI) (t : Nat) (S : zS) : Prop := ∃ o ∈ G.2, ∀ (n : Nat) (c : Nat × Nat) (iv : Itv), G.1[n]? = some c → o[n]? = some iv → iv.1 ≤ RGv T ad S c.1 ((c.2 + t : Nat) : Int) ∧ RGv T ad S c.1 ((c.2 + t : Nat) : Int) ≤ iv.2
def CoupX (T : Tt) (ad : Nat → Nat) (S : zS) (g : Nat → Int) (D : List (Nat × Lin)) : Prop := ∀ gi G, (tCG T)[gi]? = some G → ∀ t : Nat, t < 8 → (∀ d ∈ D, d.1 = gi → ev g d.2 ≠ (t : Int)) → CoupOK T ad G t S
def Fr (T : Tt) (ad : Nat → Nat) (md : List Nat) (S0 : zS) (ρ0 : Nat → Nat) (S : zS) (ρ : Nat → Nat) : Prop :=
  (∀ a ∈ zL S0, a ∈ zL S ∧ ρ a = ρ0 a) ∧ ∀ reg, reg < (tRG T).length → reg ∉ md → ∀ i, RGv T ad S reg i = RGv T ad S0 reg i
theorem Fr.refl {T : Tt} {ad : Nat → Nat} {md : List Nat} {S : zS} {ρ : Nat → Nat} : Fr T ad md S ρ S ρ := ⟨fun a h => ⟨h, rfl⟩, fun _ _ _ _ => rfl⟩
theorem Fr.trans {T : Tt} {ad : Nat → Nat} {m1 m2 : List Nat} {S0 S1 S2 : zS} {ρ0 ρ1 ρ2 : Nat → Nat} (h : Fr T ad m1 S0 ρ0 S1 ρ1) (k : Fr T ad m2 S1 ρ1 S2 ρ2) : Fr T ad (m1 ++ m2) S0 ρ0 S2 ρ2 := by
  refine ⟨fun a ha => ?_, fun reg hr hn i => ?_⟩
  · obtain ⟨h1, h2⟩ := h.1 a ha
    obtain ⟨k1, k2⟩ := k.1 a h1
    exact ⟨k1, k2.trans h2⟩
  · rw [List.mem_append, not_or] at hn
    rw [k.2 reg hr hn.2 i, h.2 reg hr hn.1 i]
theorem Fr.mono {T : Tt} {ad : Nat → Nat} {m1 m2 : List Nat} {S0 S1 : zS} {ρ0 ρ1 : Nat → Nat} (h : Fr T ad m1 S0 ρ0 S1 ρ1) (k : ∀ a ∈ m1, a ∈ m2) : Fr T ad m2 S0 ρ0 S1 ρ1 := ⟨h.1, fun reg hr hn i => h.2 reg hr (fun q => hn (k _ q)) i⟩
abbrev Mem : Type := Nat × List Lin × Lin
/-- intervals of the numbers; what is known of the references; facts; what regions and ghosts hold; dirty places; regions written; references made here -/
abbrev En : Type := List Itv × List (Bool × List Nat) × List Lin × List Mem × List (Nat × Lin) × List Nat × List Nat
def MemOK (T : Tt) (ad : Nat → Nat) (gh : zS → Int → Int) (k : Nat) (S : zS) (g : Nat → Int) (m : Mem) : Prop := (∀ a ∈ m.2.1, wfL k a) ∧ wfL k m.2.2 ∧ GV T ad gh m.1 S (m.2.1.map (ev g)) = ev g m.2.2 ∧ ∀ reg ∈ gfp T m.1, reg < (tRG T).length
/-- the world of a state -/
def Wld (T : Tt) (ad : Nat → Nat) (XI : zS → Prop) (S : zS) (ρ : Nat → Nat) : Prop := Typed T ad S ρ ∧ XI S
def SatE (T : Tt) (ad : Nat → Nat) (gh : zS → Int → Int) (XI : zS → Prop) (S0 : zS) (ρ0 : Nat → Nat) (E : En) (g : Nat → Int) (τ : Nat → Option Nat) (S : zS) (ρ : Nat → Nat) : Prop :=
  SatI E.1 g ∧ (∀ i q, E.2.1[i]? = some q → RefOK S ρ q.1 q.2 (τ i)) ∧ (∀ f ∈ E.2.2.1, wfL E.1.length f ∧ 0 ≤ ev g f) ∧ (∀ m ∈ E.2.2.2.1, MemOK T ad gh E.1.length S g m) ∧ (∀ d ∈ E.2.2.2.2.1, wfL E.1.length d.2) ∧ CoupX T ad S g E.2.2.2.2.1 ∧ Fr T ad E.2.2.2.2.2.1 S0 ρ0 S ρ ∧ (∀ i ∈ E.2.2.2.2.2.2, i < E.2.1.length ∧ ∀ a, τ i = some a → a ∉ zL S0) ∧ Wld T ad XI S ρ
def gup {α : Type} (g : Nat → α) (i : Nat) (n : α) : Nat → α := fun j => if j = i then n else g j
theorem gup_lt {α : Type} {g : Nat → α} {i j : Nat} {n : α} (h : j < i) : gup g i n j = g j := if_neg (Nat.ne_of_lt h)
theorem gup_self {α : Type} {g : Nat → α} {i : Nat} {n : α} : gup g i n i = n := if_pos rfl
theorem SatI_fresh {I : List Itv} {g : Nat → Int} (h : SatI I g) {x : Itv} {n : Int} (hn : x.1 ≤ n ∧ n ≤ x.2) : SatI (I ++ [x]) (gup g I.length n) := by
  intro i hi
  simp only [List.length_append, List.length_cons, List.length_nil, Nat.zero_add] at hi
  rcases Nat.lt_or_ge i I.length with q | q
  · rw [nth_app q, gup_lt q]; exact h i q
  · have e : i = I.length + 0 := by omega
    rw [e, nth_app2]
    simp only [Nat.add_zero, gup_self, nth]
    exact hn
theorem map_ev_congr {k : Nat} {g h : Nat → Int} : ∀ {l : List Lin}, (∀ a ∈ l, wfL k a) → (∀ i, i < k → g i = h i) → l.map (ev g) = l.map (ev h)
  | [], _, _ => rfl
  | a :: r, w, e => by
    simp only [List.map_cons]
    rw [ev_congr (w a List.mem_cons_self) e, map_ev_congr (fun b hb => w b (List.mem_cons_of_mem _ hb)) e]
section SE
variable {T : Tt} {ad : Nat → Nat} {gh : zS → Int → Int} {XI : zS → Prop} {S0 : zS} {ρ0 : Nat → Nat} {g : Nat → Int} {τ : Nat → Option Nat} {S : zS} {ρ : Nat → Nat}
theorem MemOK.agree {k k' : Nat} {g' : Nat → Int} {m : Mem} (h : MemOK T ad gh k S g m) (hk : k ≤ k') (e : ∀ i, i < k → g' i = g i) : MemOK T ad gh k' S g' m := by
  obtain ⟨h1, h2, h3, h4⟩ := h
  refine ⟨fun a ha => wf_mono (h1 a ha) hk, wf_mono h2 hk, ?_, h4⟩
  rw [map_ev_congr h1 e, ev_congr h2 e]
  exact h3
theorem CoupX.agree {k : Nat} {g' : Nat → Int} {D : List (Nat × Lin)} (h : CoupX T ad S g D) (w : ∀ d ∈ D, wfL k d.2) (e : ∀ i, i < k → g' i = g i) : CoupX T ad S g' D := by
  intro gi G hG t ht hd
  refine h gi G hG t ht (fun d hd1 hd2 => ?_)
  rw [← ev_congr (w d hd1) e]
  exact hd d hd1 hd2
/-- a number more -/
def eI (E : En) (x : Itv) : En := (E.1 ++ [x], E.2)
theorem SatE.fresh {E : En} (h : SatE T ad gh XI S0 ρ0 E g τ S ρ) {x : Itv} {n : Int} (hn : x.1 ≤ n ∧ n ≤ x.2) : SatE T ad gh XI S0 ρ0 (eI E x) (gup g E.1.length n) τ S ρ := by
  obtain ⟨h1, h2, h3, h4, h5, h6, h7, h8, h9⟩ := h
  have hl : E.1.length ≤ (E.1 ++ [x]).length := by simp
  have e : ∀ i, i < E.1.length → gup g E.1.length n i = g i := fun i hi => gup_lt hi
  refine ⟨SatI_fresh h1 hn, h2, fun f hf => ?_, fun m hm => (h4 m hm).agree hl e, fun d hd => wf_mono (h5 d hd) hl, h6.agree h5 e, h7, h8, h9⟩
  obtain ⟨w, k⟩ := h3 f hf
  exact ⟨wf_mono w hl, by rw [ev_congr w e]; exact k⟩
/-- a reference more -/
def eR (E : En) (x : Bool × List Nat) : En := (E.1, E.2.1 ++ [x], E.2.2)
theorem SatE.freshR {E : En} (h : SatE T ad gh XI S0 ρ0 E g τ S ρ) {x : Bool × List Nat} {q : Option Nat} (hq : RefOK S ρ x.1 x.2 q) : SatE T ad gh XI S0 ρ0 (eR E x) g (gup τ E.2.1.length q) S ρ := by
  obtain ⟨h1, h2, h3, h4, h5, h6, h7, h8, h9⟩ := h
  refine ⟨h1, fun i z hz => ?_, h3, h4, h5, h6, h7, fun i hi => ?_, h9⟩
  · have hz : (E.2.1 ++ [x])[i]? = some z := hz
    rcases Nat.lt_or_ge i E.2.1.length with q1 | q1
    · rw [List.getElem?_append_left q1] at hz
      rw [gup_lt q1]; exact h2 i z hz
    · rw [List.getElem?_append_right q1] at hz
      have e : i = E.2.1.length := by
        have := (List.getElem?_eq_some_iff.mp hz).1
        simp at this; omega
      subst e
      simp at hz
      subst hz
      rw [gup_self]; exact hq
  · have := h8 i hi
    refine ⟨Nat.lt_of_lt_of_le this.1 (by simp [eR]), fun a ha => ?_⟩
    rw [gup_lt this.1] at ha
    exact this.2 a ha
/-- a fact more -/
def sml (f : Lin) : Bool := match f.2 with
  | _ :: _ :: _ => false
  | _ => true
def eF (E : En) (f : Lin) : En := match sml f with
  | true => (tgs E.2.2.1 (tgF E.1 f), E.2)
  | false => (tgs (f :: E.2.2.1) (tgs (f :: E.2.2.1) E.1), E.2.1, f :: E.2.2.1, E.2.2.2)
theorem SatE.setI {E : En} (h : SatE T ad gh XI S0 ρ0 E g τ S ρ) {I : List Itv} (hI : SatI I g) (hl : I.length = E.1.length) : SatE T ad gh XI S0 ρ0 (I, E.2) g τ S ρ := by
  obtain ⟨h1, h2, h3, h4, h5, h6, h7, h8, h9⟩ := h
  refine ⟨hI, h2, ?_, ?_, ?_, h6, h7, h8, h9⟩
  · dsimp only; rw [hl]; exact h3
  · dsimp only; rw [hl]; exact h4
  · dsimp only; rw [hl]; exact h5
theorem SatE.addF {E : En} (h : SatE T ad gh XI S0 ρ0 E g τ S ρ) {f : Lin} (w : wfL E.1.length f) (hf : 0 ≤ ev g f) : SatE T ad gh XI S0 ρ0 (E.1, E.2.1, f :: E.2.2.1, E.2.2.2) g τ S ρ := by
  obtain ⟨h1, h2, h3, h4, h5, h6, h7, h8, h9⟩ := h
  refine ⟨h1, h2, fun z hz => ?_, h4, h5, h6, h7, h8, h9⟩
  rcases List.mem_cons.mp hz with rfl | hz
  · exact ⟨w, hf⟩
  · exact h3 z hz
theorem eF_len {E : En} {f : Lin} : (eF E f).1.length = E.1.length := by
  unfold eF
  cases sml f with
  | true => exact tgs_len.trans tgF_len
  | false => exact tgs_len.trans tgs_len
theorem eF_R {E : En} {f : Lin} : (eF E f).2.1 = E.2.1 := by
  unfold eF
  cases sml f <;> rfl
theorem SatE.fact {E : En} (h : SatE T ad gh XI S0 ρ0 E g τ S ρ) {f : Lin} (w : wfL E.1.length f) (hf : 0 ≤ ev g f) : SatE T ad gh XI S0 ρ0 (eF E f) g τ S ρ := by
  have h1 := h.1
  have h3 := h.2.2.1
  unfold eF
  cases sml f with
  | true =>
    exact h.setI (tgs_ok (tgF_ok h1 w hf) (fun z hz => by rw [tgF_len]; exact h3 z hz)) (tgs_len.trans tgF_len)
  | false =>
    have hF : ∀ z ∈ f :: E.2.2.1, wfL E.1.length z ∧ 0 ≤ ev g z := by
      intro z hz
      rcases List.mem_cons.mp hz with rfl | hz
      · exact ⟨w, hf⟩
      · exact h3 z hz
    exact (h.addF w hf).setI (I := tgs (f :: E.2.2.1) (tgs (f :: E.2.2.1) E.1)) (tgs_ok (tgs_ok h1 hF) (fun z hz => by rw [tgs_len]; exact hF z hz)) (tgs_len.trans tgs_len)
def eFs (E : En) : List Lin → En
  | [] => E
  | f :: r => eFs (eF E f) r
theorem eFs_len : ∀ {F : List Lin} {E : En}, (eFs E F).1.length = E.1.length
  | [], _ => rfl
  | f :: r, E => by simp only [eFs]; rw [eFs_len (F := r), eF_len]
theorem eFs_R : ∀ {F : List Lin} {E : En}, (eFs E F).2.1 = E.2.1
  | [], _ => rfl
  | f :: r, E => by simp only [eFs]; rw [eFs_R (F := r), eF_R]
theorem SatE.facts : ∀ {F : List Lin} {E : En}, SatE T ad gh XI S0 ρ0 E g τ S ρ → (∀ f ∈ F, wfL E.1.length f ∧ 0 ≤ ev g f) → SatE T ad gh XI S0 ρ0 (eFs E F) g τ S ρ
  | [], _, h, _ => h
  | f :: r, E, h, hF => by
    simp only [eFs]
    obtain ⟨w, hf⟩ := hF f List.mem_cons_self
    exact SatE.facts (F := r) (h.fact w hf) (fun z hz => by rw [eF_len]; exact hF z (List.mem_cons_of_mem _ hz))
/-- something more that a region or a ghost holds -/
def eM (E : En) (m : Mem) : En := (E.1, E.2.1, E.2.2.1, m :: E.2.2.2.1, E.2.2.2.2)
theorem SatE.memo {E : En} (h : SatE T ad gh XI S0 ρ0 E g τ S ρ) {m : Mem} (hm : MemOK T ad gh E.1.length S g m) : SatE T ad gh XI S0 ρ0 (eM E m) g τ S ρ := by
  obtain ⟨h1, h2, h3, h4, h5, h6, h7, h8, h9⟩ := h
  refine ⟨h1, h2, h3, fun z hz => ?_, h5, h6, h7, h8, h9⟩
  rcases List.mem_cons.mp hz with rfl | hz
  · exact hm
  · exact h4 z hz
theorem SatE.ok {E : En} (h : SatE T ad gh XI S0 ρ0 E g τ S ρ) {f : Lin} (w : wfL E.1.length f) (e : ent E.1 E.2.2.1 f = true) : 0 ≤ ev g f := ent_ok h.1 h.2.2.1 w e
theorem SatE.inI {E : En} (h : SatE T ad gh XI S0 ρ0 E g τ S ρ) {f : Lin} (w : wfL E.1.length f) {lo hi : Int} (e : inI E.1 E.2.2.1 f lo hi = true) : lo ≤ ev g f ∧ ev g f ≤ hi := inI_ok h.1 h.2.2.1 w e
theorem SatE.ded {E : En} (h : SatE T ad gh XI S0 ρ0 E g τ S ρ) (e : dedI E.1 = true) : False := dedI_ok e h.1
end SE
