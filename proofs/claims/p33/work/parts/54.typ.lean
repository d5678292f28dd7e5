/-! what numbered objects are by their types -/
def iCv (x : Itv) (v : Int) : Bool := ile x.1 v && ile v x.2
def refT (RO : List Nat) (nu : Bool) (rs : List Nat) (q : Option Nat) : Bool := match q with
  | none => nu
  | some t => nin (nth 999 RO t) rs
def celB (RO : List Nat) (ri : RI) (o : CO) : Bool :=
  Nat.beq o.1 ri.1 && (Nat.ble ri.1 12 || Nat.beq o.2.1 ri.2.1) &&
  (Nat.ble 13 ri.1 || ri.2.2.1.zipIdx.all (fun q => match q.1 with
    | .inl iv => iCv iv (aI o.2.2.1 (z_bs ri.1 + q.2))
    | .inr (.inl nr) => refT RO nr.1 nr.2 (aQ o.2.2.2.1 (z_bs ri.1 + q.2))
    | .inr (.inr _) => true)) &&
  (! Nat.beq ri.1 13 || ri.2.2.2.1.all (fun q => (List.range (q.2.1 - q.1)).all (fun i => iCv q.2.2 (aI o.2.2.2.2.1 (q.1 + i))))) &&
  (Nat.ble ri.1 14 || (List.range ri.2.1).all (fun i => refT RO ri.2.2.2.2.1 ri.2.2.2.2.2 (aQ o.2.2.2.2.2 i)))
/-- a region's value -/
def rgC (c : CSt) (PS : List Nat) (q : RGI) (i : Nat) : Option Int := match nth co0 c (nth 999 PS q.1), q.2.1, q.2.2 with
  | o, true, 0 => some (aI o.2.2.2.2.1 i)
  | o, false, j => some (aI o.2.2.1 j)
  | _, _, _ => none
def tyB (T : Tt) (c : CSt) (RO PS : List Nat) : Bool :=
  Nat.beq RO.length c.length && Nat.beq PS.length (tU T) && c.zipIdx.all (fun q => match (tRT T)[nth 999 RO q.2]? with
    | some ri => celB RO ri q.1
    | none => false) &&
  (List.range (tU T)).all (fun r => Nat.blt (nth 999 PS r) c.length && Nat.beq (nth 999 RO (nth 999 PS r)) r) &&
  (List.range c.length).all (fun i => Nat.ble (tU T) (nth 999 RO i) || Nat.beq (nth 999 PS (nth 999 RO i)) i) &&
  (tCG T).all (fun G => (List.range 8).all (fun t => G.2.any (fun o => (G.1.zip o).all (fun q => match rgC c PS (nth (0, false, 0) (tRG T) q.1.1) (q.1.2 + t) with
    | some v => iCv q.2 v
    | none => false)))) &&
  (match (nth co0 c (nth 999 PS 44)).2.2.2.2.1, rgC c PS (nth (0, false, 0) (tRG T) 11) 0 with
    | [], some v => ile 0 v
    | _, _ => false) &&
  (match (nth co0 c (nth 999 PS 14)).2.2.2.2.1, rgC c PS (nth (0, false, 0) (tRG T) 28) 0, rgC c PS (nth (0, false, 0) (tRG T) 9) 0 with
    | [], some (.ofNat 0), some (.ofNat 0) => true
    | _, _, _ => false)
def rhoC (r : Nat → Nat) (n : Nat) (RO : List Nat) (a : Nat) : Nat := match (List.range n).find? (fun i => Nat.beq (r i) a) with
  | some i => nth 999 RO i
  | none => 999
theorem rhoC_ok {r : Nat → Nat} {n : Nat} {RO : List Nat} (hi : ∀ i j, i < n → j < n → r i = r j → i = j) {i : Nat} (h : i < n) : rhoC r n RO (r i) = nth 999 RO i := by
  unfold rhoC
  cases hf : (List.range n).find? (fun j => Nat.beq (r j) (r i)) with
  | none =>
    have := List.find?_eq_none.mp hf i (List.mem_range.mpr h)
    simp [Nat.beq_refl] at this
  | some j =>
    have h1 := List.find?_some hf
    have h2 := List.mem_range.mp (List.mem_of_find?_eq_some hf)
    have := hi j i h2 h (Nat.eq_of_beq_eq_true h1)
    subst this
    rfl
theorem iCv_ok {x : Itv} {v : Int} (h : iCv x v = true) : x.1 ≤ v ∧ v ≤ x.2 := by
  unfold iCv at h
  rw [Bool.and_eq_true] at h
  exact ⟨ile_iff.mp h.1, ile_iff.mp h.2⟩
theorem zcm_0 {f : Nat → Int} (h : ∀ i, f i = 0) : ∀ n, zcm f n = 0
  | 0 => rfl
  | n + 1 => by show zcm f n + (if f n = 0 then 0 else 1) = 0; rw [zcm_0 h n, if_pos (h n)]
section TYC
variable {r : Nat → Nat} {c : CSt} {S : zS} {RO PS : List Nat}
theorem refT_ok (h : CS r c S) {nu : Bool} {rs : List Nat} {q : Option Nat} (hq : ∀ t, q = some t → t < c.length) (hb : refT RO nu rs q = true) : RefOK S (rhoC r c.length RO) nu rs (q.map r) := by
  cases q with
  | none => exact hb
  | some t =>
    have ht := hq t rfl
    refine ⟨h.mem ht, ?_⟩
    rw [rhoC_ok h.2.1 ht]
    exact nin_iff.mp hb
theorem cel_ok (h : CS r c S) {i : Nat} {o : CO} {ri : RI} (ho : c[i]? = some o) (hb : celB RO ri o = true) : CelOK S (rhoC r c.length RO) ri (r i) := by
  obtain ⟨g1, g2, g3, g4, g5, g6⟩ := h.2.2.2 i o ho
  obtain ⟨w1, w2⟩ := h.2.2.1 i o ho
  unfold celB at hb
  simp only [Bool.and_eq_true] at hb
  obtain ⟨⟨⟨⟨b1, b2⟩, b3⟩, b4⟩, b5⟩ := hb
  have b1 := Nat.eq_of_beq_eq_true b1
  refine ⟨g1.trans b1, fun hk => ?_, fun hk j t ht => ?_, fun hk q hq => ?_, fun hk j hj => ?_⟩
  · rw [g2]
    rw [Bool.or_eq_true] at b2
    rcases b2 with z | z
    · have := Nat.le_of_ble_eq_true z; omega
    · exact Nat.eq_of_beq_eq_true z
  · rw [Bool.or_eq_true] at b3
    rcases b3 with z | z
    · have := Nat.le_of_ble_eq_true z; omega
    · have z1 := List.all_eq_true.mp z (t, j) (List.mem_iff_getElem?.mpr ⟨j, by rw [List.getElem?_zipIdx, ht]; simp⟩)
      dsimp only at z1
      unfold FldOK
      split at z1
      · have := iCv_ok z1
        rw [← g3] at this
        exact this
      · have := refT_ok h (fun t e => w1 _ t e) z1
        rw [← g4] at this
        exact this
      · trivial
  · rw [Bool.or_eq_true] at b4
    rcases b4 with z | z
    · rw [hk] at z; simp [Nat.beq_refl] at z
    · have z1 := List.all_eq_true.mp z q hq
      intro i' h1 h2
      have z2 := List.all_eq_true.mp z1 (i' - q.1) (List.mem_range.mpr (by omega))
      have := iCv_ok z2
      rw [show q.1 + (i' - q.1) = i' by omega, ← g5] at this
      exact this
  · rw [Bool.or_eq_true] at b5
    rcases b5 with z | z
    · have := Nat.le_of_ble_eq_true z; omega
    · have z1 := List.all_eq_true.mp z j (List.mem_range.mpr hj)
      have := refT_ok h (fun t e => w2 _ t e) z1
      rw [← g6] at this
      exact this
def adC (r : Nat → Nat) (PS : List Nat) (k : Nat) : Nat := r (nth 999 PS k)
theorem rgc_ok (h : CS r c S) {q : RGI} {i : Nat} {v : Int} (hp : nth 999 PS q.1 < c.length) (hv : rgC c PS q i = some v) : RGq (adC r PS) S q (i : Int) = v := by
  have ho : c[nth 999 PS q.1]? = some (nth co0 c (nth 999 PS q.1)) := nth_lt hp
  obtain ⟨g1, g2, g3, g4, g5, g6⟩ := h.2.2.2 _ _ ho
  obtain ⟨q1, q2, q3⟩ := q
  unfold rgC at hv
  unfold RGq adC
  dsimp only at hv g1 g2 g3 g4 g5 g6 ⊢
  match q2, q3, hv with
  | true, 0, hv =>
    cases hv
    show (zA S (r (nth 999 PS q1)) (i : Int).toNat).toInt = _
    rw [Int.toNat_natCast]; exact g5 i
  | false, j, hv =>
    cases hv
    exact g3 j
theorem typ_ok (h : CS r c S) (hb : tyB zT c RO PS = true) : Typed zT (adC r PS) S (rhoC r c.length RO) ∧ zXI (adC r PS) S ∧ ∀ g, CoupX zT (adC r PS) S g [] := by
  unfold tyB at hb
  simp only [Bool.and_eq_true] at hb
  obtain ⟨⟨⟨⟨⟨⟨⟨b1, b2⟩, b3⟩, b4⟩, b5⟩, b6⟩, b7⟩, b8⟩ := hb
  have b4 : ∀ k, k < tU zT → nth 999 PS k < c.length ∧ nth 999 RO (nth 999 PS k) = k := fun k hk => by
    have := List.all_eq_true.mp b4 k (List.mem_range.mpr hk)
    rw [Bool.and_eq_true] at this
    exact ⟨Nat.le_of_ble_eq_true this.1, Nat.eq_of_beq_eq_true this.2⟩
  have hRG : ∀ reg, reg < (tRG zT).length → (nth (0, false, 0) (tRG zT) reg).1 < tU zT := fun reg hr => by
    have : zRG.all (fun q => Nat.blt q.1 (tU zT)) = true := by decide +kernel
    exact Nat.le_of_ble_eq_true (List.all_eq_true.mp this _ (List.mem_of_getElem? (nth_lt (d := (0, false, 0)) hr)))
  refine ⟨⟨fun a ha => ?_, fun k hk => ?_, fun a ha hr => ?_⟩, ?_, fun g gi G hG t ht _ => ?_⟩
  · rw [h.1] at ha
    obtain ⟨i, hi, rfl⟩ := List.mem_map.mp ha
    have hi := List.mem_range.mp hi
    have ho : c[i]? = some (nth co0 c i) := nth_lt hi
    have z := List.all_eq_true.mp b3 (nth co0 c i, i) (List.mem_iff_getElem?.mpr ⟨i, by rw [List.getElem?_zipIdx, ho]; simp⟩)
    dsimp only at z
    rw [rhoC_ok h.2.1 hi]
    split at z
    · rename_i ri hri
      exact ⟨ri, hri, cel_ok h ho z⟩
    · cases z
  · obtain ⟨k1, k2⟩ := b4 k hk
    refine ⟨h.mem k1, ?_⟩
    show rhoC r c.length RO (r (nth 999 PS k)) = k
    rw [rhoC_ok h.2.1 k1]; exact k2
  · rw [h.1] at ha
    obtain ⟨i, hi, rfl⟩ := List.mem_map.mp ha
    have hi := List.mem_range.mp hi
    rw [rhoC_ok h.2.1 hi] at hr ⊢
    have z := List.all_eq_true.mp b5 i (List.mem_range.mpr hi)
    rw [Bool.or_eq_true] at z
    rcases z with z | z
    · have := Nat.le_of_ble_eq_true z; omega
    · show r i = r (nth 999 PS (nth 999 RO i))
      rw [Nat.eq_of_beq_eq_true z]
  · refine ⟨?_, ?_⟩
    rotate_left
    · split at b8
      · rename_i e1 e2 e3
        have h0 : ∀ n : Nat, RGv zT (adC r PS) S 31 (n : Int) = 0 := fun n => by
          have := rgc_ok (q := (14, true, 0)) h (i := n) (v := 0) (b4 14 (by decide +kernel)).1 (by show some (aI (nth co0 c (nth 999 PS 14)).2.2.2.2.1 n) = some 0; rw [e1]; rfl)
          exact this
        have h28 : RGv zT (adC r PS) S 28 0 = 0 := rgc_ok h (i := 0) (b4 _ (hRG 28 (by decide +kernel))).1 e2
        have h9 : RGv zT (adC r PS) S 9 0 = 0 := rgc_ok h (i := 0) (b4 _ (hRG 9 (by decide +kernel))).1 e3
        exact ⟨⟨by rw [h28, lSum_0 h0], fun n _ _ => Or.inl (h0 n)⟩, Or.inl h9⟩
      · cases b8
    split at b7
    · rename_i v e1 e2
      have h0 : ∀ i : Nat, RGv zT (adC r PS) S 21 i = 0 := fun i => by
        have := rgc_ok (q := (44, true, 0)) h (i := i) (v := 0) (b4 44 (by decide +kernel)).1 (by show some (aI (nth co0 c (nth 999 PS 44)).2.2.2.2.1 i) = some 0; rw [e1]; rfl)
        exact this
      have h1 := rgc_ok h (i := 0) (b4 _ (hRG 11 (by decide +kernel))).1 e2
      have b7 := ile_iff.mp b7
      show (zcm (fun i => RGv zT (adC r PS) S 21 i) 16384 : Int) ≤ RGv zT (adC r PS) S 11 0
      rw [zcm_0 h0]
      have h2 : RGv zT (adC r PS) S 11 0 = v := h1
      rw [h2]
      exact b7
    · cases b7
  · have z := List.all_eq_true.mp (List.all_eq_true.mp b6 G (List.mem_of_getElem? hG)) t (List.mem_range.mpr ht)
    obtain ⟨o, ho, z⟩ := List.any_eq_true.mp z
    refine ⟨o, ho, fun n cc iv h1 h2 => ?_⟩
    have z2 := List.all_eq_true.mp z (cc, iv) (List.mem_iff_getElem?.mpr ⟨n, by rw [List.getElem?_zip_eq_some]; exact ⟨h1, h2⟩⟩)
    dsimp only at z2
    split at z2
    · rename_i v hv
      have hreg : cc.1 < (tRG zT).length := by
        have : zCG.all (fun G => G.1.all (fun c => Nat.blt c.1 (tRG zT).length)) = true := by decide +kernel
        exact Nat.le_of_ble_eq_true (List.all_eq_true.mp (List.all_eq_true.mp this G (List.mem_of_getElem? hG)) cc (List.mem_of_getElem? h1))
      have e := rgc_ok h (b4 _ (hRG cc.1 hreg)).1 hv
      have := iCv_ok z2
      rw [← e] at this
      exact this
    · cases z2
end TYC
