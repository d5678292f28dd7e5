/-! linear forms over numbered symbols; intervals; what follows from facts -/
abbrev Lin : Type := Int × List (Nat × Int)
abbrev Itv : Type := Int × Int
def ev1 (g : Nat → Int) : List (Nat × Int) → Int
  | [] => 0
  | q :: r => q.2 * g q.1 + ev1 g r
def ev (g : Nat → Int) (f : Lin) : Int := f.1 + ev1 g f.2
def ieq (a b : Int) : Bool := match a - b with
  | .ofNat 0 => true
  | _ => false
def ile (a b : Int) : Bool := match b - a with
  | .ofNat _ => true
  | .negSucc _ => false
theorem ile_iff {a b : Int} : ile a b = true ↔ a ≤ b := by
  unfold ile
  cases h : b - a with
  | ofNat n => simp; have : b - a = (n : Int) := h; omega
  | negSucc n => simp; have : b - a = -((n : Int) + 1) := by rw [h, Int.negSucc_eq]
                 omega
theorem ieq_iff {a b : Int} : ieq a b = true ↔ a = b := by
  unfold ieq
  cases h : a - b with
  | ofNat n => 
    have e : a - b = (n : Int) := h
    cases n with
    | zero => exact ⟨fun _ => by omega, fun _ => rfl⟩
    | succ m => exact ⟨(fun q => absurd (show false = true from q) (by decide)), (fun q => by omega)⟩
  | negSucc n => simp; have : a - b = -((n : Int) + 1) := by rw [h, Int.negSucc_eq]
                 omega
def nth {α : Type} (d : α) : List α → Nat → α
  | [], _ => d
  | a :: _, 0 => a
  | _ :: r, n + 1 => nth d r n
theorem nth_get {α : Type} {d : α} : ∀ {l : List α} {i : Nat} {x : α}, l[i]? = some x → nth d l i = x
  | [], i, x, h => by simp at h
  | a :: r, 0, x, h => by simpa [nth] using h
  | a :: r, n + 1, x, h => by
    simp only [List.getElem?_cons_succ] at h
    exact nth_get (l := r) h
theorem nth_lt {α : Type} {d : α} : ∀ {l : List α} {i : Nat}, i < l.length → l[i]? = some (nth d l i)
  | [], i, h => by simp at h
  | a :: r, 0, h => by simp [nth]
  | a :: r, n + 1, h => by
    simp only [List.getElem?_cons_succ, nth]
    exact nth_lt (by simpa using h)
theorem nth_ge {α : Type} {d : α} : ∀ {l : List α} {i : Nat}, l.length ≤ i → nth d l i = d
  | [], i, h => rfl
  | a :: r, 0, h => by simp at h
  | a :: r, n + 1, h => nth_ge (l := r) (by simpa using h)
theorem nth_app {α : Type} {d : α} : ∀ {l l' : List α} {i : Nat}, i < l.length → nth d (l ++ l') i = nth d l i
  | [], _, i, h => by simp at h
  | a :: r, _, 0, h => rfl
  | a :: r, l', n + 1, h => nth_app (l := r) (by simpa using h)
theorem nth_app2 {α : Type} {d : α} : ∀ {l l' : List α} {i : Nat}, nth d (l ++ l') (l.length + i) = nth d l' i
  | [], _, i => by simp
  | a :: r, l', i => by
    have e : (a :: r).length + i = (r.length + i) + 1 := by simp; omega
    rw [e]
    exact nth_app2 (l := r)
def lset {α : Type} : List α → Nat → α → List α
  | [], _, _ => []
  | _ :: r, 0, x => x :: r
  | a :: r, n + 1, x => a :: lset r n x
theorem lset_len {α : Type} : ∀ {l : List α} {i : Nat} {x : α}, (lset l i x).length = l.length
  | [], _, _ => rfl
  | _ :: _, 0, _ => rfl
  | _ :: r, n + 1, x => by simp [lset, lset_len (l := r)]
theorem lset_nth {α : Type} {d : α} : ∀ {l : List α} {i j : Nat} {x : α}, nth d (lset l i x) j = if j = i ∧ j < l.length then x else nth d l j
  | [], i, j, x => by simp [lset, nth]
  | a :: r, 0, 0, x => by simp [lset, nth]
  | a :: r, 0, j + 1, x => by simp [lset, nth]
  | a :: r, n + 1, 0, x => by simp [lset, nth]
  | a :: r, n + 1, j + 1, x => by
    simp only [lset, nth]
    rw [lset_nth (l := r)]
    simp
def insT (s : Nat) (a : Int) : List (Nat × Int) → List (Nat × Int)
  | [] => [(s, a)]
  | q :: r => match Nat.beq s q.1 with
    | true => match ieq (a + q.2) 0 with
      | true => r
      | false => (s, a + q.2) :: r
    | false => match Nat.blt s q.1 with
      | true => (s, a) :: q :: r
      | false => q :: insT s a r
def ladd (f g : Lin) : Lin := (f.1 + g.1, f.2.foldr (fun q l => insT q.1 q.2 l) g.2)
def lneg (f : Lin) : Lin := (-f.1, f.2.map (fun q => (q.1, -q.2)))
def lsub (f g : Lin) : Lin := ladd f (lneg g)
def lsc (k : Int) (f : Lin) : Lin := match ieq k 0 with
  | true => (0, [])
  | false => (k * f.1, f.2.map (fun q => (q.1, k * q.2)))
def lc (k : Int) : Lin := (k, [])
def lsy (s : Nat) : Lin := (0, [(s, 1)])
def lpl (f : Lin) (k : Int) : Lin := (f.1 + k, f.2)
def wfL (n : Nat) (f : Lin) : Prop := ∀ q ∈ f.2, q.1 < n
theorem ev1_insT {g : Nat → Int} {s : Nat} {a : Int} : ∀ (l : List (Nat × Int)), ev1 g (insT s a l) = a * g s + ev1 g l
  | [] => by simp [insT, ev1]
  | q :: r => by
    simp only [insT]
    cases h : Nat.beq s q.1 with
    | true =>
      have e : s = q.1 := Nat.eq_of_beq_eq_true h
      cases h2 : ieq (a + q.2) 0 with
      | true =>
        have e2 : a + q.2 = 0 := ieq_iff.mp h2
        have e3 : q.2 = -a := by omega
        simp only [ev1, e3, e]
        rw [Int.neg_mul]; omega
      | false =>
        simp only [ev1, e]
        rw [Int.add_mul]; omega
    | false =>
      cases h2 : Nat.blt s q.1 with
      | true => simp only [ev1]
      | false => simp only [ev1]; rw [ev1_insT r]; omega
theorem ev1_fold {g : Nat → Int} : ∀ (l r : List (Nat × Int)), ev1 g (l.foldr (fun q l => insT q.1 q.2 l) r) = ev1 g l + ev1 g r
  | [], r => by simp [ev1]
  | q :: l, r => by
    simp only [List.foldr_cons, ev1_insT, ev1]
    rw [ev1_fold l r]; omega
theorem ev_ladd {g : Nat → Int} {f h : Lin} : ev g (ladd f h) = ev g f + ev g h := by
  simp only [ev, ladd, ev1_fold]; omega
theorem ev1_neg {g : Nat → Int} : ∀ (l : List (Nat × Int)), ev1 g (l.map (fun q => (q.1, -q.2))) = - ev1 g l
  | [] => by simp [ev1]
  | q :: l => by simp only [List.map_cons, ev1]; rw [ev1_neg l, Int.neg_mul]; omega
theorem ev_lneg {g : Nat → Int} {f : Lin} : ev g (lneg f) = - ev g f := by simp only [ev, lneg, ev1_neg]; omega
theorem ev_lsub {g : Nat → Int} {f h : Lin} : ev g (lsub f h) = ev g f - ev g h := by rw [lsub, ev_ladd, ev_lneg]; omega
theorem ev1_sc {g : Nat → Int} {k : Int} : ∀ (l : List (Nat × Int)), ev1 g (l.map (fun q => (q.1, k * q.2))) = k * ev1 g l
  | [] => by simp [ev1]
  | q :: l => by simp only [List.map_cons, ev1]; rw [ev1_sc l, Int.mul_add, Int.mul_assoc]
theorem ev_lsc {g : Nat → Int} {k : Int} {f : Lin} : ev g (lsc k f) = k * ev g f := by
  unfold lsc
  cases h : ieq k 0 with
  | true => have e : k = 0 := ieq_iff.mp h
            subst e; simp [ev, ev1]
  | false => simp only [ev, ev1_sc]; rw [Int.mul_add]
theorem ev_lc {g : Nat → Int} {k : Int} : ev g (lc k) = k := by simp [ev, lc, ev1]
theorem ev_lsy {g : Nat → Int} {s : Nat} : ev g (lsy s) = g s := by simp [ev, lsy, ev1]
theorem ev_lpl {g : Nat → Int} {f : Lin} {k : Int} : ev g (lpl f k) = ev g f + k := by simp only [ev, lpl]; omega
theorem ev1_congr {g h : Nat → Int} : ∀ (l : List (Nat × Int)), (∀ q ∈ l, g q.1 = h q.1) → ev1 g l = ev1 h l
  | [], _ => rfl
  | q :: l, e => by
    simp only [ev1]
    rw [e q List.mem_cons_self, ev1_congr l (fun z hz => e z (List.mem_cons_of_mem _ hz))]
theorem ev_congr {n : Nat} {g h : Nat → Int} {f : Lin} (w : wfL n f) (e : ∀ i, i < n → g i = h i) : ev g f = ev h f := by
  simp only [ev]
  rw [ev1_congr f.2 (fun q hq => e q.1 (w q hq))]
theorem wf_mono {n m : Nat} {f : Lin} (h : wfL n f) (hn : n ≤ m) : wfL m f := fun q hq => Nat.lt_of_lt_of_le (h q hq) hn
theorem insT_mem {s : Nat} {a : Int} : ∀ {l : List (Nat × Int)} {q : Nat × Int}, q ∈ insT s a l → q.1 = s ∨ ∃ z ∈ l, z.1 = q.1
  | [], q, h => by simp [insT] at h; left; rw [h]
  | z :: r, q, h => by
    simp only [insT] at h
    cases e : Nat.beq s z.1 with
    | true =>
      rw [e] at h
      cases e2 : ieq (a + z.2) 0 with
      | true => rw [e2] at h; right; exact ⟨q, List.mem_cons_of_mem _ h, rfl⟩
      | false =>
        rw [e2] at h
        rcases List.mem_cons.mp h with rfl | h
        · left; rfl
        · right; exact ⟨q, List.mem_cons_of_mem _ h, rfl⟩
    | false =>
      rw [e] at h
      cases e2 : Nat.blt s z.1 with
      | true =>
        rw [e2] at h
        rcases List.mem_cons.mp h with rfl | h
        · left; rfl
        · right; exact ⟨q, h, rfl⟩
      | false =>
        rw [e2] at h
        rcases List.mem_cons.mp h with rfl | h
        · right; exact ⟨q, List.mem_cons_self, rfl⟩
        · rcases insT_mem h with h | ⟨y, hy, e⟩
          · left; exact h
          · right; exact ⟨y, List.mem_cons_of_mem _ hy, e⟩
theorem wf_fold {n : Nat} : ∀ (l r : List (Nat × Int)), (∀ q ∈ l, q.1 < n) → (∀ q ∈ r, q.1 < n) → ∀ q ∈ l.foldr (fun q l => insT q.1 q.2 l) r, q.1 < n
  | [], _, _, h2, q, hq => h2 q hq
  | z :: l, r, h1, h2, q, hq => by
    simp only [List.foldr_cons] at hq
    rcases insT_mem hq with h | ⟨y, hy, e⟩
    · rw [h]; exact h1 z List.mem_cons_self
    · rw [← e]; exact wf_fold l r (fun q h => h1 q (List.mem_cons_of_mem _ h)) h2 y hy
theorem wf_ladd {n : Nat} {f g : Lin} (h1 : wfL n f) (h2 : wfL n g) : wfL n (ladd f g) := fun q hq => wf_fold f.2 g.2 h1 h2 q hq
theorem wf_map {n : Nat} {f : Lin} {k : Int → Int} {c : Int} (h : wfL n f) : wfL n (c, f.2.map (fun q => (q.1, k q.2))) := by
  intro q hq
  obtain ⟨z, hz, rfl⟩ := List.mem_map.mp hq
  exact h z hz
theorem wf_lneg {n : Nat} {f : Lin} (h : wfL n f) : wfL n (lneg f) := wf_map h
theorem wf_lsub {n : Nat} {f g : Lin} (h1 : wfL n f) (h2 : wfL n g) : wfL n (lsub f g) := wf_ladd h1 (wf_lneg h2)
theorem wf_lc {n : Nat} {k : Int} : wfL n (lc k) := fun q h => by simp [lc] at h
theorem wf_lsc {n : Nat} {k : Int} {f : Lin} (h : wfL n f) : wfL n (lsc k f) := by
  unfold lsc
  cases ieq k 0 with
  | true => exact fun q h => by simp at h
  | false => exact wf_map h
theorem wf_lsy {n s : Nat} (h : s < n) : wfL n (lsy s) := fun q hq => by simp [lsy] at hq; rw [hq]; exact h
theorem wf_lpl {n : Nat} {f : Lin} {k : Int} (h : wfL n f) : wfL n (lpl f k) := h
/-! intervals -/
def SatI (I : List Itv) (g : Nat → Int) : Prop := ∀ i, i < I.length → (nth (0, 0) I i).1 ≤ g i ∧ g i ≤ (nth (0, 0) I i).2
def tmx (q : Nat × Int) (x : Itv) : Itv := match q.2 with
  | .ofNat _ => (q.2 * x.1, q.2 * x.2)
  | .negSucc _ => (q.2 * x.2, q.2 * x.1)
def rg1 (I : List Itv) : List (Nat × Int) → Itv
  | [] => (0, 0)
  | q :: r => match rg1 I r, tmx q (nth (0, 0) I q.1) with
    | (a, b), (x, y) => (a + x, b + y)
def rg (I : List Itv) (f : Lin) : Itv := match rg1 I f.2 with
  | (a, b) => (a + f.1, b + f.1)
theorem tmx_ok {q : Nat × Int} {x : Itv} {v : Int} (h : x.1 ≤ v ∧ v ≤ x.2) : (tmx q x).1 ≤ q.2 * v ∧ q.2 * v ≤ (tmx q x).2 := by
  unfold tmx
  obtain ⟨s, a⟩ := q
  cases a with
  | ofNat n =>
    have h0 : (0 : Int) ≤ Int.ofNat n := Int.natCast_nonneg n
    exact ⟨Int.mul_le_mul_of_nonneg_left h.1 h0, Int.mul_le_mul_of_nonneg_left h.2 h0⟩
  | negSucc n =>
    have h0 : Int.negSucc n ≤ 0 := by rw [Int.negSucc_eq]; omega
    exact ⟨Int.mul_le_mul_of_nonpos_left h0 h.2, Int.mul_le_mul_of_nonpos_left h0 h.1⟩
theorem rg1_cons {I : List Itv} {q : Nat × Int} {r : List (Nat × Int)} : rg1 I (q :: r) = ((rg1 I r).1 + (tmx q (nth (0, 0) I q.1)).1, (rg1 I r).2 + (tmx q (nth (0, 0) I q.1)).2) := rfl
theorem rg1_ok {I : List Itv} {g : Nat → Int} (h : SatI I g) : ∀ (l : List (Nat × Int)), (∀ q ∈ l, q.1 < I.length) → (rg1 I l).1 ≤ ev1 g l ∧ ev1 g l ≤ (rg1 I l).2
  | [], _ => by simp [rg1, ev1]
  | q :: r, w => by
    have h1 := rg1_ok h r (fun z hz => w z (List.mem_cons_of_mem _ hz))
    have h2 := tmx_ok (q := q) (h q.1 (w q List.mem_cons_self))
    rw [rg1_cons]
    simp only [ev1]
    omega
theorem rg_eq {I : List Itv} {f : Lin} : rg I f = ((rg1 I f.2).1 + f.1, (rg1 I f.2).2 + f.1) := rfl
theorem rg_ok {I : List Itv} {g : Nat → Int} (h : SatI I g) {f : Lin} (w : wfL I.length f) : (rg I f).1 ≤ ev g f ∧ ev g f ≤ (rg I f).2 := by
  have := rg1_ok h f.2 w
  rw [rg_eq]
  simp only [ev]
  omega
/-- the rest of a form beside one of its terms -/
theorem rg1_rest {I : List Itv} {g : Nat → Int} (h : SatI I g) : ∀ (l : List (Nat × Int)) (q : Nat × Int), q ∈ l → (∀ q ∈ l, q.1 < I.length) → ev1 g l - q.2 * g q.1 ≤ (rg1 I l).2 - (tmx q (nth (0, 0) I q.1)).2
  | [], q, hq, _ => by simp at hq
  | z :: r, q, hq, w => by
    rw [rg1_cons]
    simp only [ev1]
    have h1 := rg1_ok h r (fun z hz => w z (List.mem_cons_of_mem _ hz))
    have h2 := tmx_ok (q := z) (h z.1 (w z List.mem_cons_self))
    rcases List.mem_cons.mp hq with rfl | hq
    · omega
    · have h3 := rg1_rest h r q hq (fun z hz => w z (List.mem_cons_of_mem _ hz))
      omega
/-- a bound of one symbol out of 0 ≤ f, whose greatest value is tot -/
def tg1 (I : List Itv) (tot : Int) (q : Nat × Int) : List Itv := match nth (0, 0) I q.1 with
  | (x, y) => match q.2 with
    | .ofNat 0 => I
    | .ofNat (n + 1) => match y - tot / (Int.ofNat (n + 1)) with
      | b => match ile b x with
        | true => I
        | false => lset I q.1 (b, y)
    | .negSucc n => match x + tot / (Int.ofNat (n + 1)) with
      | b => match ile y b with
        | true => I
        | false => lset I q.1 (x, b)
theorem SatI_set {I : List Itv} {g : Nat → Int} (h : SatI I g) {s : Nat} {x : Itv} (hx : s < I.length → x.1 ≤ g s ∧ g s ≤ x.2) : SatI (lset I s x) g := by
  intro i hi
  rw [lset_len] at hi
  rw [lset_nth]
  by_cases e : i = s ∧ i < I.length
  · rw [if_pos e, e.1]; exact hx (e.1 ▸ hi)
  · rw [if_neg e]; exact h i hi
theorem tg1_len {I : List Itv} {tot : Int} {q : Nat × Int} : (tg1 I tot q).length = I.length := by
  unfold tg1
  obtain ⟨s, a⟩ := q
  dsimp only
  cases a with
  | ofNat n =>
    cases n with
    | zero => rfl
    | succ n =>
      dsimp only
      split
      · rfl
      · exact lset_len
  | negSucc n =>
    dsimp only
    split
    · rfl
    · exact lset_len
theorem tg1_ok {I : List Itv} {g : Nat → Int} (h : SatI I g) {f : Lin} (w : wfL I.length f) (hf : 0 ≤ ev g f) {q : Nat × Int} (hq : q ∈ f.2) : SatI (tg1 I (rg I f).2 q) g := by
  have h1 := rg1_rest h f.2 q hq w
  have h3 := h q.1 (w q hq)
  have hev : ev g f = f.1 + ev1 g f.2 := rfl
  have hrg : (rg I f).2 = (rg1 I f.2).2 + f.1 := rfl
  generalize hT : (rg I f).2 = tot at hrg ⊢
  have key : (tmx q (nth (0, 0) I q.1)).2 - q.2 * g q.1 ≤ tot := by omega
  unfold tg1
  obtain ⟨s, a⟩ := q
  dsimp only at h3 key ⊢
  cases a with
  | ofNat n =>
    cases n with
    | zero => exact h
    | succ n =>
      dsimp only
      split
      · exact h
      · refine SatI_set h (fun _ => ⟨?_, h3.2⟩)
        have hp : (0 : Int) < Int.ofNat (n + 1) := Int.natCast_pos.mpr (Nat.succ_pos n)
        have k2 : Int.ofNat (n + 1) * (nth (0, 0) I s).2 - Int.ofNat (n + 1) * g s ≤ tot := key
        rw [← Int.mul_sub] at k2
        have : (nth (0, 0) I s).2 - g s ≤ tot / Int.ofNat (n + 1) := (Int.le_ediv_iff_mul_le hp).mpr (by rw [Int.mul_comm]; exact k2)
        omega
  | negSucc n =>
    dsimp only
    split
    · exact h
    · refine SatI_set h (fun _ => ⟨h3.1, ?_⟩)
      have hp : (0 : Int) < Int.ofNat (n + 1) := Int.natCast_pos.mpr (Nat.succ_pos n)
      have k2 : Int.negSucc n * (nth (0, 0) I s).1 - Int.negSucc n * g s ≤ tot := key
      have e : Int.negSucc n = - Int.ofNat (n + 1) := rfl
      rw [← Int.mul_sub, e, Int.neg_mul, ← Int.mul_neg, Int.neg_sub] at k2
      have : g s - (nth (0, 0) I s).1 ≤ tot / Int.ofNat (n + 1) := (Int.le_ediv_iff_mul_le hp).mpr (by rw [Int.mul_comm]; exact k2)
      omega
def tgL (f : Lin) : List (Nat × Int) → List Itv → List Itv
  | [], I => I
  | q :: r, I => tgL f r (tg1 I (rg I f).2 q)
def tgF (I : List Itv) (f : Lin) : List Itv := tgL f f.2 I
def tgs : List Lin → List Itv → List Itv
  | [], I => I
  | f :: r, I => tgs r (tgF I f)
theorem tgL_len {f : Lin} : ∀ {l : List (Nat × Int)} {I : List Itv}, (tgL f l I).length = I.length
  | [], _ => rfl
  | _ :: r, I => by simp only [tgL]; rw [tgL_len (l := r), tg1_len]
theorem tgL_ok {g : Nat → Int} {f : Lin} (hf : 0 ≤ ev g f) : ∀ {l : List (Nat × Int)} {I : List Itv}, SatI I g → wfL I.length f → (∀ q ∈ l, q ∈ f.2) → SatI (tgL f l I) g
  | [], _, h, _, _ => h
  | q :: r, I, h, w, hl => by
    simp only [tgL]
    exact tgL_ok hf (l := r) (tg1_ok h w hf (hl q List.mem_cons_self)) (by rw [tg1_len]; exact w) (fun z hz => hl z (List.mem_cons_of_mem _ hz))
theorem tgF_len {I : List Itv} {f : Lin} : (tgF I f).length = I.length := tgL_len
theorem tgF_ok {I : List Itv} {g : Nat → Int} (h : SatI I g) {f : Lin} (w : wfL I.length f) (hf : 0 ≤ ev g f) : SatI (tgF I f) g := tgL_ok hf h w (fun _ q => q)
theorem tgs_len : ∀ {F : List Lin} {I : List Itv}, (tgs F I).length = I.length
  | [], _ => rfl
  | f :: r, I => by simp only [tgs]; rw [tgs_len (F := r), tgF_len]
theorem tgs_ok {g : Nat → Int} : ∀ {F : List Lin} {I : List Itv}, SatI I g → (∀ f ∈ F, wfL I.length f ∧ 0 ≤ ev g f) → SatI (tgs F I) g
  | [], _, h, _ => h
  | f :: r, I, h, hF => by
    simp only [tgs]
    have h1 := hF f List.mem_cons_self
    exact tgs_ok (F := r) (tgF_ok h h1.1 h1.2) (fun z hz => by rw [tgF_len]; exact hF z (List.mem_cons_of_mem _ hz))
/-- what follows -/
def ent0 (I : List Itv) (f : Lin) : Bool := ile 0 (rg I f).1
def ent2 (I : List Itv) (f : Lin) : List Lin → Bool
  | [] => false
  | h :: r => match ent0 I (lsub f h) with
    | true => true
    | false => ent2 I f r
def ent3 (I : List Itv) (F : List Lin) (f : Lin) : List Lin → Bool
  | [] => false
  | h :: r => match ent2 I (lsub f h) F with
    | true => true
    | false => ent3 I F f r
def ent (I : List Itv) (F : List Lin) (f : Lin) : Bool := match ent0 I f with
  | true => true
  | false => match ent2 I f F with
    | true => true
    | false => ent3 I F f F
theorem ent0_ok {I : List Itv} {g : Nat → Int} (h : SatI I g) {f : Lin} (w : wfL I.length f) (e : ent0 I f = true) : 0 ≤ ev g f := by
  have := (rg_ok h w).1
  have := ile_iff.mp e
  omega
theorem ent2_ok {I : List Itv} {g : Nat → Int} (h : SatI I g) {f : Lin} (w : wfL I.length f) : ∀ {F : List Lin}, (∀ f ∈ F, wfL I.length f ∧ 0 ≤ ev g f) → ent2 I f F = true → 0 ≤ ev g f
  | [], _, e => by simp [ent2] at e
  | z :: r, hF, e => by
    simp only [ent2] at e
    have hz := hF z List.mem_cons_self
    cases h1 : ent0 I (lsub f z) with
    | true =>
      have := ent0_ok h (wf_lsub w hz.1) h1
      rw [ev_lsub] at this
      have := hz.2
      omega
    | false =>
      rw [h1] at e
      exact ent2_ok h w (fun y hy => hF y (List.mem_cons_of_mem _ hy)) e
theorem ent3_ok {I : List Itv} {g : Nat → Int} (h : SatI I g) {F : List Lin} (hF : ∀ f ∈ F, wfL I.length f ∧ 0 ≤ ev g f) {f : Lin} (w : wfL I.length f) : ∀ {G : List Lin}, (∀ f ∈ G, wfL I.length f ∧ 0 ≤ ev g f) → ent3 I F f G = true → 0 ≤ ev g f
  | [], _, e => by simp [ent3] at e
  | z :: r, hG, e => by
    simp only [ent3] at e
    have hz := hG z List.mem_cons_self
    cases h1 : ent2 I (lsub f z) F with
    | true =>
      have := ent2_ok h (wf_lsub w hz.1) hF h1
      rw [ev_lsub] at this
      have := hz.2
      omega
    | false =>
      rw [h1] at e
      exact ent3_ok h hF w (fun y hy => hG y (List.mem_cons_of_mem _ hy)) e
theorem ent_ok {I : List Itv} {g : Nat → Int} (h : SatI I g) {F : List Lin} (hF : ∀ f ∈ F, wfL I.length f ∧ 0 ≤ ev g f) {f : Lin} (w : wfL I.length f) (e : ent I F f = true) : 0 ≤ ev g f := by
  unfold ent at e
  cases h1 : ent0 I f with
  | true => exact ent0_ok h w h1
  | false =>
    rw [h1] at e
    cases h2 : ent2 I f F with
    | true => exact ent2_ok h w hF h2
    | false =>
      rw [h2] at e
      exact ent3_ok h hF w hF e
def inI (I : List Itv) (F : List Lin) (f : Lin) (lo hi : Int) : Bool := match ent I F (lpl f (-lo)) with
  | true => ent I F (lpl (lneg f) hi)
  | false => false
theorem inI_ok {I : List Itv} {g : Nat → Int} (h : SatI I g) {F : List Lin} (hF : ∀ f ∈ F, wfL I.length f ∧ 0 ≤ ev g f) {f : Lin} (w : wfL I.length f) {lo hi : Int} (e : inI I F f lo hi = true) : lo ≤ ev g f ∧ ev g f ≤ hi := by
  unfold inI at e
  cases h1 : ent I F (lpl f (-lo)) with
  | true =>
    rw [h1] at e
    have a := ent_ok h hF (f := lpl f (-lo)) (wf_lpl w) h1
    have b := ent_ok h hF (f := lpl (lneg f) hi) (wf_lpl (wf_lneg w)) e
    rw [ev_lpl] at a b
    rw [ev_lneg] at b
    omega
  | false => rw [h1] at e; cases e
def dedI (I : List Itv) : Bool := match I with
  | [] => false
  | q :: r => match ile q.1 q.2 with
    | true => dedI r
    | false => true
theorem dedI_ok : ∀ {I : List Itv} {g : Nat → Int}, dedI I = true → ¬ SatI I g
  | [], _, e => by simp [dedI] at e
  | q :: r, g, e => by
    intro h
    simp only [dedI] at e
    have h0 := h 0 (by simp)
    simp only [nth] at h0
    cases h1 : ile q.1 q.2 with
    | true =>
      rw [h1] at e
      refine dedI_ok (g := fun i => g (i + 1)) e ?_
      intro i hi
      have := h (i + 1) (by simpa using hi)
      simpa [nth] using this
    | false =>
      have : ile q.1 q.2 = true := ile_iff.mpr (by omega)
      rw [h1] at this; cases this
