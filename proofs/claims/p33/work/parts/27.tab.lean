/-! the types of this claim: roles, regions, coupled rows; the ghost of the creases; the marks -/
def zRT : List RI := [
  (11, 0, [.inr (.inl (false, [1])), .inr (.inl (false, [2])), .inr (.inl (false, [3])), .inr (.inl (false, [4])), .inr (.inl (false, [5])), .inr (.inl (false, [6])), .inr (.inl (false, [7])), .inr (.inl (false, [8])), .inr (.inl (false, [9])), .inr (.inl (false, [10])), .inl (.negSucc 2147483647, .ofNat 2147483647), .inl (.negSucc 2147483647, .ofNat 2147483647), .inl (.ofNat 0, .ofNat 100)], [], (false, [])),
  (15, 8, [], [], (false, [56])),
  (16, 8, [], [], (true, [58, 59, 60, 61, 62, 63, 64])),
  (16, 8, [], [], (true, [58, 59, 60, 61, 62, 63, 64])),
  (13, 8, [], [], (false, [])),
  (13, 20, [], [], (false, [])),
  (13, 8192, [], [], (false, [])),
  (13, 8192, [], [], (false, [])),
  (13, 31, [], [], (false, [])),
  (5, 0, [.inr (.inl (false, [11])), .inl (.negSucc 2147483647, .ofNat 2147483647), .inl (.negSucc 2147483647, .ofNat 2147483647), .inl (.negSucc 2147483647, .ofNat 2147483647), .inr (.inl (true, [56])), .inl (.negSucc 2147483647, .ofNat 2147483647), .inl (.negSucc 2147483647, .ofNat 2147483647)], [], (false, [])),
  (3, 0, [.inr (.inl (false, [12])), .inr (.inl (false, [13])), .inr (.inl (false, [14])), .inr (.inl (false, [15])), .inr (.inl (false, [16])), .inl (.ofNat 0, .ofNat 2100), .inl (.negSucc 2147483647, .ofNat 2147483647)], [], (false, [])),
  (16, 8, [], [], (true, [58, 59, 60, 61, 62, 63, 64])),
  (13, 2100, [], [], (false, [])),
  (13, 9, [], [], (false, [])),
  (13, 9, [], [], (false, [])),
  (13, 8, [], [], (false, [])),
  (13, 8, [], [], (false, [])),
  (12, 0, [.inl (.ofNat 0, .ofNat 8), .inl (.negSucc 2147483647, .ofNat 2147483647), .inr (.inl (false, [18])), .inr (.inl (false, [19])), .inr (.inl (false, [20])), .inr (.inl (false, [21])), .inr (.inl (false, [22])), .inr (.inl (false, [23])), .inr (.inl (false, [24])), .inr (.inl (false, [25])), .inr (.inl (false, [26])), .inr (.inl (false, [27])), .inr (.inl (false, [28])), .inr (.inl (false, [29])), .inl (.ofNat 0, .ofNat 1120), .inl (.ofNat 0, .ofNat 160), .inl (.ofNat 0, .ofNat 160), .inl (.negSucc 2147483647, .ofNat 2147483647), .inl (.negSucc 2147483647, .ofNat 2147483647), .inl (.ofNat 0, .ofNat 40), .inr (.inr ()), .inr (.inl (false, [30])), .inr (.inl (false, [31])), .inr (.inl (false, [32])), .inr (.inl (false, [33])), .inr (.inl (false, [34])), .inr (.inl (false, [35])), .inr (.inl (false, [36])), .inr (.inl (false, [37])), .inr (.inl (false, [38])), .inr (.inl (false, [39])), .inr (.inr ()), .inr (.inr ()), .inr (.inl (false, [40])), .inr (.inl (false, [41])), .inr (.inl (false, [42])), .inr (.inl (false, [43])), .inr (.inl (false, [44])), .inr (.inl (false, [45])), .inl (.ofNat 0, .ofNat 16383), .inr (.inl (false, [46])), .inr (.inl (false, [47])), .inr (.inl (false, [48])), .inr (.inl (false, [49])), .inl (.ofNat 0, .ofNat 6), .inl (.negSucc 2147483647, .ofNat 2147483647), .inr (.inl (false, [50])), .inr (.inl (false, [51])), .inr (.inl (false, [52])), .inl (.negSucc 2147483647, .ofNat 2147483647), .inl (.ofNat 0, .ofNat 1392), .inr (.inl (false, [53])), .inr (.inl (false, [54])), .inr (.inl (false, [55])), .inl (.ofNat 0, .ofNat 100), .inl (.ofNat 0, .ofNat 1)], [], (false, [])),
  (13, 8, [], [], (false, [])),
  (13, 8, [], [(0, 8, (.ofNat 0, .ofNat 6))], (false, [])),
  (13, 8, [], [(0, 8, (.ofNat 0, .ofNat 999999))], (false, [])),
  (13, 8, [], [(0, 8, (.ofNat 0, .ofNat 40))], (false, [])),
  (14, 8, [], [], (false, [])),
  (13, 8, [], [(0, 8, (.ofNat 0, .ofNat 2))], (false, [])),
  (13, 8, [], [], (false, [])),
  (13, 8, [], [(0, 8, (.ofNat 0, .ofNat 160))], (false, [])),
  (13, 8, [], [(0, 8, (.negSucc 0, .ofNat 7))], (false, [])),
  (14, 1280, [], [], (false, [])),
  (14, 160, [], [], (false, [])),
  (13, 19, [], [(0, 1, (.ofNat 115, .ofNat 115)), (1, 2, (.ofNat 116, .ofNat 116)), (2, 3, (.ofNat 114, .ofNat 114)), (3, 4, (.ofNat 105, .ofNat 105)), (4, 5, (.ofNat 112, .ofNat 112)), (5, 6, (.ofNat 32, .ofNat 32)), (6, 7, (.ofNat 0, .ofNat 0)), (7, 8, (.ofNat 116, .ofNat 116)), (8, 9, (.ofNat 117, .ofNat 117)), (9, 10, (.ofNat 114, .ofNat 114)), (10, 11, (.ofNat 110, .ofNat 110)), (11, 12, (.ofNat 32, .ofNat 32)), (12, 13, (.ofNat 0, .ofNat 0)), (13, 14, (.ofNat 108, .ofNat 108)), (14, 15, (.ofNat 101, .ofNat 101)), (15, 16, (.ofNat 115, .ofNat 115)), (16, 17, (.ofNat 115, .ofNat 115)), (17, 18, (.ofNat 32, .ofNat 32)), (18, 19, (.ofNat 0, .ofNat 0)), (0, 6, (.ofNat 32, .ofNat 116)), (7, 12, (.ofNat 32, .ofNat 117)), (13, 18, (.ofNat 32, .ofNat 115)), (0, 19, (.ofNat 0, .ofNat 117))], (false, [])),
  (13, 25, [], [(0, 8, (.ofNat 0, .ofNat 6)), (8, 16, (.ofNat 0, .ofNat 999999)), (16, 24, (.ofNat 0, .ofNat 40)), (24, 25, (.ofNat 0, .ofNat 8))], (false, [])),
  (13, 25, [], [(0, 8, (.ofNat 0, .ofNat 6)), (8, 16, (.ofNat 0, .ofNat 999999)), (16, 24, (.ofNat 0, .ofNat 40)), (24, 25, (.ofNat 0, .ofNat 8))], (false, [])),
  (14, 8, [], [], (false, [])),
  (14, 8, [], [], (false, [])),
  (14, 41, [], [], (false, [])),
  (14, 41, [], [], (false, [])),
  (14, 41, [], [], (false, [])),
  (14, 41, [], [], (false, [])),
  (13, 41, [], [], (false, [])),
  (13, 41, [], [], (false, [])),
  (13, 4001, [], [], (false, [])),
  (13, 4001, [], [], (false, [])),
  (13, 4001, [], [], (false, [])),
  (13, 4001, [], [], (false, [])),
  (13, 16384, [], [], (false, [])),
  (13, 16384, [], [], (false, [])),
  (13, 3721, [], [], (false, [])),
  (13, 3721, [], [], (false, [])),
  (13, 6, [], [], (false, [])),
  (13, 6, [], [], (false, [])),
  (13, 8, [], [], (false, [])),
  (13, 8, [], [], (false, [])),
  (13, 11136, [], [], (false, [])),
  (13, 64, [], [], (false, [])),
  (13, 64, [], [], (false, [])),
  (13, 20, [], [], (false, [])),
  (7, 0, [.inr (.inl (false, [57])), .inl (.ofNat 0, .ofNat 160), .inl (.negSucc 2147483647, .ofNat 2147483647), .inl (.negSucc 2147483647, .ofNat 2147483647)], [], (false, [])),
  (14, 160, [], [], (false, [])),
  (8, 0, [.inl (.negSucc 2147483647, .ofNat 2147483647), .inl (.negSucc 2147483647, .ofNat 2147483647), .inl (.negSucc 2147483647, .ofNat 2147483647), .inr (.inr ())], [], (false, [])),
  (6, 0, [.inl (.negSucc 2147483647, .ofNat 2147483647), .inl (.negSucc 2147483647, .ofNat 2147483647), .inl (.negSucc 2147483647, .ofNat 2147483647), .inr (.inr ())], [], (false, [])),
  (9, 0, [.inl (.negSucc 2147483647, .ofNat 2147483647), .inl (.negSucc 2147483647, .ofNat 2147483647), .inl (.negSucc 2147483647, .ofNat 2147483647), .inr (.inr ())], [], (false, [])),
  (1, 0, [.inl (.negSucc 2147483647, .ofNat 2147483647), .inl (.negSucc 2147483647, .ofNat 2147483647), .inl (.negSucc 2147483647, .ofNat 2147483647), .inr (.inr ())], [], (false, [])),
  (0, 0, [.inl (.negSucc 2147483647, .ofNat 2147483647), .inl (.negSucc 2147483647, .ofNat 2147483647), .inl (.negSucc 2147483647, .ofNat 2147483647), .inr (.inr ())], [], (false, [])),
  (2, 0, [.inl (.negSucc 2147483647, .ofNat 2147483647), .inl (.negSucc 2147483647, .ofNat 2147483647), .inl (.negSucc 2147483647, .ofNat 2147483647), .inr (.inr ())], [], (false, [])),
  (4, 0, [.inl (.negSucc 2147483647, .ofNat 2147483647), .inl (.negSucc 2147483647, .ofNat 2147483647), .inl (.negSucc 2147483647, .ofNat 2147483647), .inr (.inr ())], [], (false, [])),
  (10, 0, [.inr (.inl (false, [58, 59, 60, 61, 62, 63, 64])), .inr (.inr ()), .inr (.inr ()), .inr (.inr ()), .inr (.inr ()), .inl (.negSucc 2147483647, .ofNat 2147483647)], [], (false, [])),
  (10, 0, [.inr (.inl (true, [58, 59, 60, 61, 62, 63, 64])), .inr (.inr ()), .inr (.inr ()), .inr (.inr ()), .inr (.inr ()), .inl (.negSucc 2147483647, .ofNat 2147483647)], [], (false, []))]
def zRG : List RGI := [(17, false, 1200), (17, false, 1214), (17, false, 1215), (17, false, 1216), (17, false, 1217), (17, false, 1219), (17, false, 1244), (17, false, 1245), (17, false, 1250), (17, false, 1249), (17, false, 1254), (17, false, 1239), (19, true, 0), (20, true, 0), (21, true, 0), (23, true, 0), (26, true, 0), (25, true, 0), (24, true, 0), (30, true, 0), (31, true, 0), (44, true, 0), (40, true, 0), (41, true, 0), (42, true, 0), (43, true, 0), (27, true, 1), (0, false, 1112), (10, false, 305), (10, false, 306), (9, true, 506), (14, true, 0), (13, true, 0), (12, true, 0), (52, true, 0)]
def zCG : List CGI := [
  ([(12, 0), (14, 0)], [[(.ofNat 0, .ofNat 0), (.ofNat 0, .ofNat 40)], [(.ofNat 1, .ofNat 1), (.ofNat 1, .ofNat 40)], [(.ofNat 2, .ofNat 2), (.ofNat 1, .ofNat 25)], [(.ofNat 3, .ofNat 6), (.ofNat 1, .ofNat 40)]]),
  ([(15, 0), (16, 0)], [[(.ofNat 0, .ofNat 1), (.negSucc 0, .ofNat 7)], [(.ofNat 2, .ofNat 2), (.ofNat 0, .ofNat 7)]]),
  ([(19, 0), (19, 16)], [[(.ofNat 0, .ofNat 0), (.ofNat 0, .ofNat 40)], [(.ofNat 1, .ofNat 1), (.ofNat 1, .ofNat 40)], [(.ofNat 2, .ofNat 2), (.ofNat 1, .ofNat 25)], [(.ofNat 3, .ofNat 6), (.ofNat 1, .ofNat 40)]]),
  ([(20, 0), (20, 16)], [[(.ofNat 0, .ofNat 0), (.ofNat 0, .ofNat 40)], [(.ofNat 1, .ofNat 1), (.ofNat 1, .ofNat 40)], [(.ofNat 2, .ofNat 2), (.ofNat 1, .ofNat 25)], [(.ofNat 3, .ofNat 6), (.ofNat 1, .ofNat 40)]])]
def zT : Tt := (zRT, zRG, zCG, [21, 11, 31, 32, 33, 28, 9, 8, 34], 56, [12, 14, 13])
def zSA : List (Nat × List Int) := [(0, [.ofNat 1, .ofNat 0, .negSucc 0, .ofNat 0]), (1, [.ofNat 0, .ofNat 1, .ofNat 0, .negSucc 0])]
def zSB : List (Nat × List Int) := [(5, [.ofNat 115, .ofNat 116, .ofNat 114, .ofNat 105, .ofNat 112]), (6, [.ofNat 116, .ofNat 117, .ofNat 114, .ofNat 110]), (7, [.ofNat 108, .ofNat 101, .ofNat 115, .ofNat 115])]
/-- how many creases a strip has, by what its row tells -/
def zCr (k p f : Int) : Int := match (match k with | 2 => (3 : Int) | _ => 2) ^ f.toNat - 1 with
  | w => if k = 3 ∨ k = 4 then w - Int.tmod p w else w
def zcl (x : Int) : Int := max (-9223372036854775808) (min 9223372036854775807 x)
def zC (ad : Nat → Nat) (S : zS) (t : Int) : Int :=
  if t < 2000 then zcl (zCr (RGv zT ad S 12 t) (RGv zT ad S 13 t) (RGv zT ad S 14 t))
  else if t ≤ 2040 then 2 ^ (t - 2000).toNat
  else if t < 3000 then 0
  else if t ≤ 3025 then 3 ^ (t - 3000).toNat
  else if t < 4000 then 0
  else zcl (zFn (t - 4000))
/-- the marks: at most so many places hold one -/
def zcm (f : Nat → Int) : Nat → Nat
  | 0 => 0
  | n + 1 => zcm f n + (if f n = 0 then 0 else 1)
def XI1 (ad : Nat → Nat) (S : zS) : Prop := (zcm (fun i => RGv zT ad S 21 i) 16384 : Int) ≤ RGv zT ad S 11 0
def XI2 (ad : Nat → Nat) (S : zS) : Prop := LIs (fun n => RGv zT ad S 31 (n : Int)) (fun n => RGv zT ad S 32 (n : Int)) (fun n => RGv zT ad S 33 (n : Int)) (RGv zT ad S 28 0) ∧ MIs (RGv zT ad S 9 0) (RGv zT ad S 8 0) (fun n => RGv zT ad S 34 (n : Int))
def zXI (ad : Nat → Nat) (S : zS) : Prop := XI1 ad S ∧ XI2 ad S
theorem XI2_of {ad : Nat → Nat} {S S' : zS} (h : ∀ reg ∈ [31, 32, 33, 28, 9, 8, 34], ∀ i, RGv zT ad S' reg i = RGv zT ad S reg i) (hx : XI2 ad S) : XI2 ad S' := by
  have e31 : (fun n : Nat => RGv zT ad S' 31 (n : Int)) = (fun n : Nat => RGv zT ad S 31 (n : Int)) := funext fun n => h 31 (by decide) (n : Int)
  have e32 : (fun n : Nat => RGv zT ad S' 32 (n : Int)) = (fun n : Nat => RGv zT ad S 32 (n : Int)) := funext fun n => h 32 (by decide) (n : Int)
  have e33 : (fun n : Nat => RGv zT ad S' 33 (n : Int)) = (fun n : Nat => RGv zT ad S 33 (n : Int)) := funext fun n => h 33 (by decide) (n : Int)
  have e34 : (fun n : Nat => RGv zT ad S' 34 (n : Int)) = (fun n : Nat => RGv zT ad S 34 (n : Int)) := funext fun n => h 34 (by decide) (n : Int)
  unfold XI2 at hx ⊢
  rw [e31, e32, e33, e34, h 28 (by decide) 0, h 9 (by decide) 0, h 8 (by decide) 0]
  exact hx
theorem XI2_fr {ad : Nat → Nat} {S S' : zS} {ρ ρ' : Nat → Nat} {md : List Nat} (hF : Fr zT ad md S ρ S' ρ') (hn : ∀ reg ∈ [31, 32, 33, 28, 9, 8, 34], reg ∉ md) (h : XI2 ad S) : XI2 ad S' := XI2_of (fun reg hr i => hF.2 reg ((by decide +kernel : ∀ reg ∈ [31, 32, 33, 28, 9, 8, 34], reg < (tRG zT).length) reg hr) (hn reg hr) i) h
def tzB (T : Tt) : Bool := (tRT T).all (fun ri => match Nat.blt ri.1 13 with
  | true => ri.2.2.1.zipIdx.all (fun q => match (z_ft ri.1)[q.2]?, q.1 with
    | some 0, .inl _ => true
    | some 2, .inr (.inl _) => true
    | some 1, .inr (.inr _) => true
    | _, _ => false)
  | false => true)
def taB (T : Tt) : Bool := (tRT T).all (fun ri => match Nat.blt 12 ri.1 with
  | true => Nat.beq ri.1 13 || Nat.beq ri.1 14 || Nat.beq ri.1 15 || Nat.beq ri.1 16
  | false => true)
theorem tz_ok {T : Tt} (h : tzB T = true) : TZ T := by
  intro r ri hr hk i t ht
  have h1 := List.all_eq_true.mp h ri (List.mem_of_getElem? hr)
  rw [show Nat.blt ri.1 13 = true from Nat.ble_eq_true_of_le hk] at h1
  have h2 := List.all_eq_true.mp h1 (t, i) (List.mem_iff_getElem?.mpr ⟨i, by rw [List.getElem?_zipIdx, ht]; simp⟩)
  dsimp only at h2
  split at h2
  all_goals first | assumption | cases h2
theorem ta_ok {T : Tt} (h : taB T = true) : TA T := by
  intro r ri hr hk
  have h1 := List.all_eq_true.mp h ri (List.mem_of_getElem? hr)
  rw [show Nat.blt 12 ri.1 = true from Nat.ble_eq_true_of_le hk] at h1
  simp only [Bool.or_eq_true] at h1
  rcases h1 with ((q | q) | q) | q
  · exact Or.inl (Nat.eq_of_beq_eq_true q)
  · exact Or.inr (Or.inl (Nat.eq_of_beq_eq_true q))
  · exact Or.inr (Or.inr (Or.inl (Nat.eq_of_beq_eq_true q)))
  · exact Or.inr (Or.inr (Or.inr (Nat.eq_of_beq_eq_true q)))
theorem zT_z : TZ zT := tz_ok (by decide +kernel)
theorem zT_a : TA zT := ta_ok (by decide +kernel)
theorem zcm_c {f g : Nat → Int} (h : ∀ i, f i = g i) : ∀ n, zcm f n = zcm g n
  | 0 => rfl
  | n + 1 => by
    show zcm f n + (if f n = 0 then 0 else 1) = zcm g n + (if g n = 0 then 0 else 1)
    rw [zcm_c h n, h n]
theorem zcl_b (x : Int) : -9223372036854775808 ≤ zcl x ∧ zcl x ≤ 9223372036854775807 := by unfold zcl; omega
theorem zp2 : ∀ i : Nat, i ≤ 40 → (1 : Int) ≤ 2 ^ i ∧ (2 : Int) ^ i ≤ 1099511627776 := by decide +kernel
theorem zp3 : ∀ i : Nat, i ≤ 25 → (1 : Int) ≤ 3 ^ i ∧ (3 : Int) ^ i ≤ 847288609443 := by decide +kernel
theorem zC_b {ad : Nat → Nat} {S : zS} {t : Int} : -9223372036854775808 ≤ zC ad S t ∧ zC ad S t ≤ 9223372036854775807 := by
  unfold zC
  split
  · exact zcl_b _
  · split
    · have := zp2 (t - 2000).toNat (by omega)
      omega
    · split
      · omega
      · split
        · have := zp3 (t - 3000).toNat (by omega)
          omega
        · split
          · omega
          · exact zcl_b _
theorem zT_ok {ad : Nat → Nat} {neg : Int → Int} (hb : bndN neg) : TOK zT ad (ghN (zC ad) neg) (zXI ad) := by
  refine ⟨fun reg q h => ?_, by decide +kernel, by decide +kernel, fun S S' t h => ?_, fun S S' h => ?_, fun gi G h => ?_, fun S t => ?_, fun S => ⟨?_, ?_, fun i h0 h1 => ?_, fun i h0 h1 => ?_⟩⟩
  · have : zRG.all (fun q => Nat.blt q.1 (tU zT)) = true := by decide +kernel
    exact Nat.le_of_ble_eq_true (List.all_eq_true.mp this q (List.mem_of_getElem? h))
  · unfold ghN
    split
    · rfl
    · unfold zC
      split
      · rw [h 12 (by decide +kernel) t, h 13 (by decide +kernel) t, h 14 (by decide +kernel) t]
      · rfl
  · intro hx
    refine ⟨?_, XI2_of (fun reg hr => h reg ((by decide +kernel : ∀ reg ∈ [31, 32, 33, 28, 9, 8, 34], reg ∈ tXR zT) reg hr)) hx.2⟩
    have hx1 := hx.1
    unfold XI1 at hx1 ⊢
    rw [h 11 (by decide +kernel) 0, zcm_c (fun i => h 21 (by decide +kernel) i)]
    exact hx1
  · have : zCG.all (fun G => G.1.all (fun c => Nat.blt c.1 (tRG zT).length)) = true := by decide +kernel
    intro c hc
    exact Nat.le_of_ble_eq_true (List.all_eq_true.mp (List.all_eq_true.mp this G (List.mem_of_getElem? h)) c hc)
  · unfold ghN
    split
    · exact hb t
    · exact zC_b
  · show (if (2000 : Int) < 0 then _ else zC ad S 2000) = 1
    rfl
  · show (if (3000 : Int) < 0 then _ else zC ad S 3000) = 1
    rfl
  · have e1 : ghN (zC ad) neg S (i + 2001) = 2 ^ (i + 1).toNat := by
      unfold ghN zC
      rw [if_neg (by omega), if_neg (by omega), if_pos (by omega), show i + 2001 - 2000 = i + 1 by omega]
    have e2 : ghN (zC ad) neg S (i + 2000) = 2 ^ i.toNat := by
      unfold ghN zC
      rw [if_neg (by omega), if_neg (by omega), if_pos (by omega), show i + 2000 - 2000 = i by omega]
    have e3 : (i + 1).toNat = i.toNat + 1 := by omega
    rw [e1, e2]
    have := zp2 (i + 1).toNat (by omega)
    exact ⟨by rw [e3, Int.pow_succ]; omega, this.1, this.2⟩
  · have e1 : ghN (zC ad) neg S (i + 3001) = 3 ^ (i + 1).toNat := by
      unfold ghN zC
      rw [if_neg (by omega), if_neg (by omega), if_neg (by omega), if_neg (by omega), if_pos (by omega), show i + 3001 - 3000 = i + 1 by omega]
    have e2 : ghN (zC ad) neg S (i + 3000) = 3 ^ i.toNat := by
      unfold ghN zC
      rw [if_neg (by omega), if_neg (by omega), if_neg (by omega), if_neg (by omega), if_pos (by omega), show i + 3000 - 3000 = i by omega]
    have e3 : (i + 1).toNat = i.toNat + 1 := by omega
    rw [e1, e2]
    have := zp3 (i + 1).toNat (by omega)
    exact ⟨by rw [e3, Int.pow_succ]; omega, this.1, this.2⟩
theorem ra_0 : RSpA .iaload 0 [.ofNat 1, .ofNat 0, .negSucc 0, .ofNat 0] := by
  intro p l e R s m args below meth c H locs cells slots Q xs cD cy A cc nL Ts S pc ls rest own hM hw
  refine ⟨fun hd kk => va_tlen hM.1.1 hM.1.2.1 hM.2.2.2.2.1.2.1 hw.2.2 rfl hd kk, fun hd j hj kk => ?_⟩
  have hj : j < 4 := hj
  obtain rfl | rfl | rfl | rfl : j = 0 ∨ j = 1 ∨ j = 2 ∨ j = 3 := by omega
  all_goals exact va_ti hM.1.1 hM.1.2.1 hM.2.2.2.2.1.2.1 hw.2.2 (vp_in_iff.mpr (by decide)) rfl hd kk
theorem ra_1 : RSpA .iaload 1 [.ofNat 0, .ofNat 1, .ofNat 0, .negSucc 0] := by
  intro p l e R s m args below meth c H locs cells slots Q xs cD cy A cc nL Ts S pc ls rest own hM hw
  refine ⟨fun hd kk => va_tlen hM.1.1 hM.1.2.1 hM.2.2.2.2.1.2.2.2.1 hw.2.2 rfl hd kk, fun hd j hj kk => ?_⟩
  have hj : j < 4 := hj
  obtain rfl | rfl | rfl | rfl : j = 0 ∨ j = 1 ∨ j = 2 ∨ j = 3 := by omega
  all_goals exact va_ti hM.1.1 hM.1.2.1 hM.2.2.2.2.1.2.2.2.1 hw.2.2 (vp_in_iff.mpr (by decide)) rfl hd kk
theorem ra_5 : RSpA .baload 5 [.ofNat 115, .ofNat 116, .ofNat 114, .ofNat 105, .ofNat 112] := by
  intro p l e R s m args below meth c H locs cells slots Q xs cD cy A cc nL Ts S pc ls rest own hM hw
  have hT := ((hM.2.2.2.2.1.2.2.2.2.2.2.1).1 0 (by decide)).2.2.2
  refine ⟨fun hd kk => va_tlen hM.1.1 hM.1.2.1 hT hw.2.2 rfl hd kk, fun hd j hj kk => ?_⟩
  have hj : j < 5 := hj
  obtain rfl | rfl | rfl | rfl | rfl : j = 0 ∨ j = 1 ∨ j = 2 ∨ j = 3 ∨ j = 4 := by omega
  all_goals exact va_tb hM.1.1 hM.1.2.1 hT hw.2.2 (vp_in_iff.mpr (by decide)) rfl hd kk
theorem ra_6 : RSpA .baload 6 [.ofNat 116, .ofNat 117, .ofNat 114, .ofNat 110] := by
  intro p l e R s m args below meth c H locs cells slots Q xs cD cy A cc nL Ts S pc ls rest own hM hw
  have hT := ((hM.2.2.2.2.1.2.2.2.2.2.2.1).1 1 (by decide)).2.2.2
  refine ⟨fun hd kk => va_tlen hM.1.1 hM.1.2.1 hT hw.2.2 rfl hd kk, fun hd j hj kk => ?_⟩
  have hj : j < 4 := hj
  obtain rfl | rfl | rfl | rfl : j = 0 ∨ j = 1 ∨ j = 2 ∨ j = 3 := by omega
  all_goals exact va_tb hM.1.1 hM.1.2.1 hT hw.2.2 (vp_in_iff.mpr (by decide)) rfl hd kk
theorem ra_7 : RSpA .baload 7 [.ofNat 108, .ofNat 101, .ofNat 115, .ofNat 115] := by
  intro p l e R s m args below meth c H locs cells slots Q xs cD cy A cc nL Ts S pc ls rest own hM hw
  have hT := ((hM.2.2.2.2.1.2.2.2.2.2.2.1).1 2 (by decide)).2.2.2
  refine ⟨fun hd kk => va_tlen hM.1.1 hM.1.2.1 hT hw.2.2 rfl hd kk, fun hd j hj kk => ?_⟩
  have hj : j < 4 := hj
  obtain rfl | rfl | rfl | rfl : j = 0 ∨ j = 1 ∨ j = 2 ∨ j = 3 := by omega
  all_goals exact va_tb hM.1.1 hM.1.2.1 hT hw.2.2 (vp_in_iff.mpr (by decide)) rfl hd kk
theorem zSA_ok : ∀ k l, (k, l) ∈ zSA → RSpA .iaload k l := by
  intro k l h
  simp only [zSA, List.mem_cons, Prod.mk.injEq, List.not_mem_nil, or_false] at h
  rcases h with ⟨rfl, rfl⟩ | ⟨rfl, rfl⟩
  · exact ra_0
  · exact ra_1
theorem zSB_ok : ∀ k l, (k, l) ∈ zSB → RSpA .baload k l := by
  intro k l h
  simp only [zSB, List.mem_cons, Prod.mk.injEq, List.not_mem_nil, or_false] at h
  rcases h with ⟨rfl, rfl⟩ | ⟨rfl, rfl⟩ | ⟨rfl, rfl⟩
  · exact ra_5
  · exact ra_6
  · exact ra_7
/-! a class' lists, row by row -/
theorem ap_nil {α : Type} {P : Nat → α → Prop} : ∀ idx (x : α), (idx, x) ∈ ([] : List (Nat × α)) → P idx x := fun _ _ h => by cases h
theorem ap_cons {α : Type} {P : Nat → α → Prop} {i0 : Nat} {x0 : α} {r : List (Nat × α)} (h0 : P i0 x0) (hr : ∀ idx (x : α), (idx, x) ∈ r → P idx x) : ∀ idx (x : α), (idx, x) ∈ (i0, x0) :: r → P idx x := fun idx x h => by
  rcases List.mem_cons.mp h with q | q
  · cases q; exact h0
  · exact hr idx x q
theorem la_nil {α : Type} {P : α → Prop} : ∀ x ∈ ([] : List α), P x := fun _ h => by cases h
theorem la_cons {α : Type} {P : α → Prop} {x0 : α} {r : List α} (h0 : P x0) (hr : ∀ x ∈ r, P x) : ∀ x ∈ x0 :: r, P x := fun x h => by
  rcases List.mem_cons.mp h with q | q
  · rw [q]; exact h0
  · exact hr x q
abbrev MTt : Type := List (MethodName × ByteArray × Nat × Option FieldType)
def mt0 : MethodName × ByteArray × Nat × Option FieldType := (⟨"", "", ""⟩, ⟨#[]⟩, 0, none)
def mtY (MT : MTt) (i : Nat) : MethodName := (nth mt0 MT i).1
def mtC (MT : MTt) (i : Nat) : ByteArray := (nth mt0 MT i).2.1
def mtL (MT : MTt) (i : Nat) : Nat := (nth mt0 MT i).2.2.1
def mtR (MT : MTt) (i : Nat) : Option FieldType := (nth mt0 MT i).2.2.2
theorem nth_map {α β : Type} {f : α → β} {a : α} {b : β} : ∀ {l : List α} {i : Nat}, i < l.length → nth b (l.map f) i = f (nth a l i)
  | [], i, h => by simp at h
  | x :: r, 0, h => rfl
  | x :: r, i + 1, h => by
    show nth b (r.map f) i = f (nth a r i)
    exact nth_map (by simpa using h)
theorem oi_o {own : String} {idx : Nat} (h : idx / 100000 = 0) (r : RObj own idx) : ROI own idx := by unfold ROI; rw [h]; exact r
theorem oi_a {own : String} {idx n : Nat} (h : idx / 100000 = 1 ∧ idx % 100000 = n) (r : RAcp own n) : ROI own idx := by unfold ROI; rw [h.1, h.2]; exact r
theorem oi_m {own : String} {idx n k : Nat} (h : idx / 100000 = k + 2 ∧ idx % 100000 = n) (r : RMM own (k + 2) n) : ROI own idx := by unfold ROI; rw [h.1, h.2]; exact r
theorem con_mk {ad xs : Nat → Nat} {cD : va_G} {cy : Nat → ClassId} {l : Launch} {own : String} {lk : LK} {oi ML : List Nat} {MT : MTt} {ST : List Sg} {KT : List KC} {ini : Bool} {cs : List (Nat × List Alt)} {sg : Sg} {rcv : List Nat} {ret : Option FieldType} {cuts : List Cut} {pops : List (Nat × List Pop)} {P : Pg} {fuel fr lo nL : Nat} {y : MethodName} {cc : ByteArray} {neg0 : Int → Int}
    (hlk : LKOK own lk) (hlc : LKC own lk (mtY MT) (mtC MT) (mtL MT) (mtR MT)) (hML : MT.map (fun q => q.2.2.1) = ML) (hmid : lk.2.2.1.all (fun x => x.2.2.2.all (fun q => Nat.blt q.2 ML.length)) = true) (hST : ST.all wfSg = true)
    (hKT : ∀ neg, bndN neg → ∀ q ∈ KT, q.2.1 < ST.length ∧ Con zT ad (ghN (zC ad) neg) (zXI ad) xs cD cy l (mtY MT q.1) (mtC MT q.1) (mtL MT q.1) (mtR MT q.1) q.2.2.2.1 q.2.2.2.2 (nth ([], [], [], [], [], [], (0, 0), none, []) ST q.2.1) q.2.2.1)
    (hoi : ∀ idx ∈ oi, ROI own idx) (hy : plainName y.cls = true) (ho : y.cls = own) (hini : ini = true → y.name = "<init>") (hP : ∀ b ∈ P, ∀ q ∈ b, decode cc q.1 = .ok (q.2.1, q.2.2) ∧ lenB q = true)
    (h : chk (zT, lk, ((zSA, zSB), (false, ini, oi)), (nL, ML, ST, KT, KT.length), (fr, (sC sg).1, (sC sg).2, lo), cs) sg rcv ret cuts pops P fuel nL = true) (hb0 : bndN neg0) : Con zT ad (ghN (zC ad) neg0) (zXI ad) xs cD cy l y cc nL ret fr lo sg rcv := by
  refine con_ok (C := zC ad) (mY := mtY MT) (mC := mtC MT) (mL := mtL MT) (mR := mtR MT) (fun neg hb => ⟨zT_ok hb, zT_z, zT_a, hlk, zSA_ok, zSB_ok, hlc, fun i => ?_, fun idx x hx rc mid hm => ?_, fun s hs => List.all_eq_true.mp hST s hs, fun pos hpos mid sgi rv fr lo hk => ?_, hoi⟩) hy ho hini hP h hb0
  · rcases Nat.lt_or_ge i MT.length with q | q
    · rw [← hML]; exact Or.inl (nth_map q)
    · rw [← hML, List.length_map]; exact Or.inr q
  · exact Nat.le_of_ble_eq_true (List.all_eq_true.mp (List.all_eq_true.mp hmid _ hx) _ hm)
  · have hm : (mid, sgi, rv, fr, lo) ∈ KT := by rw [← hk]; exact List.mem_of_getElem? (nth_lt hpos)
    exact hKT neg hb _ hm
