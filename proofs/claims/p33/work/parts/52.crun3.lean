/-! the runner's steps are sound -/
section CRM
variable {xs : Nat → Nat} {cD : va_G} {cy : Nat → ClassId} {A : Nat → Prop}
variable {p : Program} {l : Launch} {e : Env} {R : Room} {s : State} {m : MethodId} {args : Array Value} {below : List Frame} {meth : Method} {c0 : Code} {Q : State → Prop} {cc : ByteArray} {nL : Nat} {Ts : List Cond} {own : String}
theorem cNw_rm {lim : Nat × Nat} {k n : Nat} {c : CSt} {iv : Option Int} {K : List CV} {nc ns M pc' : Nat} {x' : CX} (h : cNw lim k n c iv K nc ns M pc' = some x') : nc + 1 ≤ lim.1 ∧ ns + M ≤ lim.2 := by
  unfold cNw at h
  split at h
  · rename_i hc
    rw [Bool.and_eq_true] at hc
    exact ⟨Nat.le_of_ble_eq_true hc.1, Nat.le_of_ble_eq_true hc.2⟩
  · cases h
theorem ng_of {z : Int32} (h : 0 ≤ z.toInt) : ¬ z < 0 := fun q => by
  rw [Int32.lt_iff_toInt_lt] at q
  have e0 : (0 : Int32).toInt = 0 := rfl
  omega
theorem cv_sum {r : Nat → Nat} : ∀ {K : List CV}, ((K.map (cv r)).map fun v => v.category).sum = K.length
  | [] => rfl
  | v :: K => by
    show (cv r v).category + ((K.map (cv r)).map fun v => v.category).sum = K.length + 1
    rw [cv_cat, cv_sum (K := K)]; omega
theorem cstep_ok {B : CB} {lim : Nat × Nat} {r0 : Nat → Nat} {n0 t : Nat} {ins : ClassFile.Instr} {x x' : CX} (hM : MX xs cD cy A p s m args c0 cc nL Ts own) (hml : c0.maxLocals = nL) (hB : BOK own B) (hnm : meth.name = "<init>") (hnL : nL ≤ 4) (hR : 1 ≤ R.frames ∧ lim.1 ≤ R.cells ∧ lim.2 ≤ R.slots ∧ 40 ≤ R.locals) (hK8 : x.2.2.1.length ≤ 8) (hd : decode cc x.2.2.2.2.2 = .ok (ins, clen ins)) (h : cstep B lim t ins x = some x') (hs : CGl cD cy A p l e R s m args below meth c0 Q nL r0 n0 t x') (hn1 : x'.2.1 ≠ none → 2 ≤ nL) : CGl cD cy A p l e R s m args below meth c0 Q nL r0 n0 t x := by
  obtain ⟨c, iv, K, nc, ns, pc⟩ := x
  intro r S H locs cells slots ls hC hw hl ht hK hcl hsl hn hr
  dsimp only at hC hl ht hK hcl hsl hn hd hK8 ⊢
  have hx := hM.1.1
  have hb := hM.1.2.1
  have hA := hM.2.2.2.2.2
  have pass : ∀ {iv' : Option Int} {K' : List CV} {pc' : Nat}, x' = (c, iv', K', nc, ns, pc') → ∀ {ls' : Array Slot}, lv_has ls' nL (lvs r t iv') → cwK c.length K' → W p l e R s m args below meth c0 H locs cells slots Q (F0 m pc' ls' (K'.map (cv r))) := by
    intro iv' K' pc' hx' ls' hl' hK'
    subst hx'
    exact hs r S H locs cells slots ls' hC hw hl' ht hK' hcl hsl hn hr
  unfold cstep at h
  dsimp only at h
  split at h
  · -- aload
    rename_i k K0
    split at h
    · rename_i hk
      have h := (Option.some.inj h).symm
      refine lv_aload_n (x := r t) (i := 0) hx hb hd hk ?_ ?_
      · cases iv with
        | none => exact lv_at hl 0 rfl
        | some v => exact lv_at hl 1 rfl
      · exact pass h hl (cw_ref hK (fun t' e => by cases e; exact ht))
    · cases h
  · rename_i k K0
    split at h
    · rename_i v hk
      have h := (Option.some.inj h).symm
      exact lv_iload_n (i := 1) hx hb hd hk (lv_at hl 0 rfl) (pass h hl (cw_int hK))
    · cases h
  · rename_i k v K0
    split at h
    · rename_i hk
      have h := (Option.some.inj h).symm
      have h2 : 2 ≤ nL := hn1 (by rw [h]; simp)
      refine lv_istore_n (i := 1) (lv' := lvs r t (some v)) hx hb hd hk hl (by omega) ?_ (fun ls' hl' => pass h hl' (cw_tl hK))
      cases iv <;> rfl
    · cases h
  · rename_i i nn K0 _
    split at h
    · rename_i v
      split at h
      · rename_i hc
        simp only [Bool.and_eq_true] at hc
        obtain ⟨⟨c1, c2⟩, c3⟩ := hc
        obtain ⟨-, -, d1⟩ := c15_ok c1
        obtain ⟨-, -, d2⟩ := c15_ok c2
        obtain ⟨b1, b2, d3⟩ := c15_ok c3
        have h := (Option.some.inj h).symm
        have h2 : 2 ≤ nL := hn1 (by rw [h]; simp)
        exact lv_iinc (k := 0) hx hb hd hl rfl (Int32.ofInt_add v _).symm (by omega) rfl (fun ls' hl' => pass h hl' hK)
      · cases h
    · cases h
  · rename_i v K0
    split at h
    · have h := (Option.some.inj h).symm
      exact lv_iconst hx hb hd rfl (pass h hl (cw_int hK))
    · cases h
  · rename_i v K0 _
    split at h
    · rename_i hc
      rw [Bool.and_eq_true] at hc
      have h := (Option.some.inj h).symm
      exact lv_bipush hx hb hd (bip_of _ (ile_iff.mp hc.1) (ile_iff.mp hc.2)) (pass h hl (cw_int hK))
    · cases h
  · rename_i v K0 _
    split at h
    · rename_i hc
      obtain ⟨b1, b2, -⟩ := c15_ok hc
      have h := (Option.some.inj h).symm
      exact lv_sipush hx hb hd (sip_of _ b1 b2) (pass h hl (cw_int hK))
    · cases h
  · have h := (Option.some.inj h).symm
    exact lv_null hx hb hd (pass h hl (cw_ref hK (fun t' e => by cases e)))
  · rename_i v K0
    have h := (Option.some.inj h).symm
    refine lv_dup hx hb hd cv_cat (pass h hl (fun z hz i e => ?_))
    rcases List.mem_cons.mp hz with q | q
    · rw [q] at e; exact hK v List.mem_cons_self i e
    · exact hK z q i e
  · rename_i off K0
    split at h
    · rename_i q hq
      have h := (Option.some.inj h).symm
      exact lv_goto hx hb hd hq (pass h hl hK)
    · cases h
  · rename_i off y x K0
    split at h
    · rename_i q hc hq
      rw [Bool.and_eq_true] at hc
      obtain ⟨-, -, dx⟩ := c15_ok hc.1
      obtain ⟨-, -, dy⟩ := c15_ok hc.2
      split at h
      · rename_i hle
        have hle := ile_iff.mp hle
        have h := (Option.some.inj h).symm
        refine lv_icmp_ge hx hb hd hq (fun _ => pass h hl (cw_tl (cw_tl hK))) (fun q => absurd ?_ q)
        rw [Int32.le_iff_toInt_le, dx, dy]; exact hle
      · rename_i hle
        have hle : ¬ y ≤ x := fun q => by rw [ile_iff.mpr q] at hle; cases hle
        have h := (Option.some.inj h).symm
        refine lv_icmp_ge hx hb hd hq (fun q => absurd ?_ hle) (fun _ => pass h hl (cw_tl (cw_tl hK)))
        rw [Int32.le_iff_toInt_le, dx, dy] at q; exact q
    · cases h
  · -- newarray int
    rename_i _ _ n K0
    split at h
    · rename_i hc
      rw [Bool.and_eq_true] at hc
      obtain ⟨-, b2, d⟩ := c15_ok hc.2
      have b0 := ile_iff.mp hc.1
      obtain ⟨q1, q2⟩ := cNw_rm h
      exact z_newi (N' := n.toNat) hM.1 hM.2.2.1 hw hA (hM.2.1 _ hB.2.2.2.1) (ng_of (by omega)) (by show (Int32.ofInt n).toInt.toNat = _; rw [d]) (by omega) (by omega) (by omega) hd (fun q H1 hq hw1 => cNw_ok h hs hC hq hw1 hl ht (cw_tl hK) hcl hsl hn hr)
    · cases h
  · rename_i _ _ n K0
    split at h
    · rename_i hc
      rw [Bool.and_eq_true] at hc
      obtain ⟨-, b2, d⟩ := c15_ok hc.2
      have b0 := ile_iff.mp hc.1
      obtain ⟨q1, q2⟩ := cNw_rm h
      exact z_newl (N' := n.toNat) hM.1 hM.2.2.1 hw hA (hM.2.1 _ hB.2.2.2.2) (ng_of (by omega)) (by show (Int32.ofInt n).toInt.toNat = _; rw [d]) (by omega) (by omega) (by omega) hd (fun q H1 hq hw1 => cNw_ok h hs hC hq hw1 hl ht (cw_tl hK) hcl hsl hn hr)
    · cases h
  · rename_i _ _ idx n K0
    split at h
    · rename_i k hc ha
      rw [Bool.and_eq_true] at hc
      obtain ⟨-, b2, d⟩ := c15_ok hc.2
      have b0 := ile_iff.mp hc.1
      have hra := hB.2.2.1 _ _ (asc_ok ha)
      split at h
      · rename_i hk
        obtain ⟨q1, q2⟩ := cNw_rm h
        rw [Bool.or_eq_true] at hk
        rcases hk with hk | hk
        · have hk := Nat.eq_of_beq_eq_true hk
          subst hk
          exact z_newp (N' := n.toNat) hM.1 hM.2.2.1 hM.2.2.2.1 hw hA (hM.2.1 _ hra) (ng_of (by omega)) (by show (Int32.ofInt n).toInt.toNat = _; rw [d]) (by omega) (by omega) (by omega) hd (fun q H1 hq hw1 => cNw_ok h hs hC hq hw1 hl ht (cw_tl hK) hcl hsl hn hr)
        · have hk := Nat.eq_of_beq_eq_true hk
          subst hk
          exact z_newq (N' := n.toNat) hM.1 hM.2.2.1 hM.2.2.2.1 hw hA (hM.2.1 _ hra) (ng_of (by omega)) (by show (Int32.ofInt n).toInt.toNat = _; rw [d]) (by omega) (by omega) (by omega) hd (fun q H1 hq hw1 => cNw_ok h hs hC hq hw1 hl ht (cw_tl hK) hcl hsl hn hr)
      · cases h
    · cases h
  · -- new
    split at h
    · rename_i k ro N ha
      obtain ⟨q1, q2⟩ := cNw_rm h
      exact hB.1.2.2.1 _ (k, ro, N) (asc_ok ha) p l e R s m args below meth c0 H locs cells slots Q xs cD cy A cc nL Ts S pc ls _ hM hw hd (by omega) (by show slots + N ≤ _; omega) (fun q H1 hq hw1 => cNw_ok h hs hC hq hw1 hl ht hK hcl hsl hn hr)
    · cases h
  · -- getfield
    rename_i _ _ idx i K0
    split at h
    · rename_i f ks hc ha
      rw [Bool.and_eq_true] at hc
      have hi : i < c.length := Nat.le_of_ble_eq_true hc.1
      have ho : c[i]? = some (nth co0 c i) := nth_lt hi
      split at h
      · rename_i hk hz
        have h := (Option.some.inj h).symm
        obtain ⟨g1, g2, g3, g4, g5, g6⟩ := hC.2.2.2 i _ ho
        have hq := hB.1.1 _ (f, ks) (asc_ok ha) _ (nin_iff.mp hk)
        refine hq p l e R s m args below meth c0 H locs cells slots Q xs cD cy A cc nL Ts S (r i) pc ls (K0.map (cv r)) 2 hM hw (hC.mem hi) g1 hd hz ?_
        have e1 : z_v S (r i) 2 (z_bs (nth co0 c i).1 + f) = cv r (.inr (aQ (nth co0 c i).2.2.2.1 (z_bs (nth co0 c i).1 + f))) := by
          show va_rf (zQ S _ (r i)) = va_rf _
          rw [g4]
        rw [e1]
        exact pass h hl (cw_ref (cw_tl hK) (fun t' e => (hC.2.2.1 i _ ho).1 _ t' e))
      · cases h
    · cases h
  · -- putfield
    rename_i _ _ idx v i K0
    split at h
    · rename_i hi
      have hi : i < c.length := Nat.le_of_ble_eq_true hi
      have ho : c[i]? = some (nth co0 c i) := nth_lt hi
      obtain ⟨g1, -⟩ := hC.2.2.2 i _ ho
      split at h
      · rename_i c' hp
        have h := (Option.some.inj h).symm
        subst h
        unfold cPut at hp
        split at hp
        · rename_i f bl fin ks ha
          have hpq := hB.1.2.1 _ (f, bl, fin, ks) (asc_ok ha)
          split at hp
          · rename_i x hk hz
            rw [Bool.and_eq_true] at hk
            have hput := hpq _ (nin_iff.mp hk.2)
            unfold RPut at hput
            dsimp only at hput
            rw [hz] at hput
            split at hp
            · rename_i hc
              rw [Bool.and_eq_true] at hc
              obtain ⟨b1, b2, d⟩ := c15_ok hc.1
              cases hp
              refine hput p l e R s m args below meth c0 H locs cells slots Q xs cD cy A cc nL Ts S (r i) pc ls (K0.map (cv r)) (Int32.ofInt x) hM (fun _ => hnm) (fun hb => ?_) hw (hC.mem hi) g1 hd (fun H1 locs1 hw1 => ?_)
              · have hc2 := hc.2
                rw [hb] at hc2
                dsimp only at hc2
                rw [Bool.and_eq_true] at hc2
                rw [d]; exact ⟨ile_iff.mp hc2.1, ile_iff.mp hc2.2⟩
              · exact hs r _ H1 locs1 cells slots ls (hC.sI ho d) hw1 hl (by rw [List.length_set]; exact ht) (by rw [List.length_set]; exact cw_tl (cw_tl hK)) hcl hsl (by rw [List.length_set]; exact hn) hr
            · cases hp
          · rename_i x hk hz
            rw [Bool.and_eq_true] at hk
            have hput := hpq _ (nin_iff.mp hk.2)
            unfold RPut at hput
            dsimp only at hput
            rw [hz] at hput
            cases hp
            refine hput p l e R s m args below meth c0 H locs cells slots Q xs cD cy A cc nL Ts S (r i) pc ls (K0.map (cv r)) (x.map r) hM (fun _ => hnm) hw (hC.mem hi) g1 hd (fun H1 locs1 hw1 => ?_)
            exact hs r _ H1 locs1 cells slots ls (hC.sQ ho (fun t' e => hK _ List.mem_cons_self t' (by rw [e]))) hw1 hl (by rw [List.length_set]; exact ht) (by rw [List.length_set]; exact cw_tl (cw_tl hK)) hcl hsl (by rw [List.length_set]; exact hn) hr
          · cases hp
        · cases hp
      · cases h
    · cases h
  · -- iastore
    rename_i _ _ x k i K0
    split at h
    · rename_i hc
      simp only [Bool.and_eq_true] at hc
      obtain ⟨⟨⟨⟨⟨c1, c2⟩, c3⟩, c4⟩, c5⟩, c6⟩ := hc
      have hi : i < c.length := Nat.le_of_ble_eq_true c1
      have c2 := Nat.eq_of_beq_eq_true c2
      obtain ⟨-, -, dx⟩ := c15_ok c3
      obtain ⟨-, -, dk⟩ := c15_ok c4
      have c5 := ile_iff.mp c5
      have c6 := ile_iff.mp c6
      have ho : c[i]? = some (nth co0 c i) := nth_lt hi
      obtain ⟨g1, g2, -⟩ := hC.2.2.2 i _ ho
      obtain ⟨v1, v2⟩ := vp_c c5 c6 dk
      have h := (Option.some.inj h).symm
      subst h
      refine z_iast hM.1 hM.2.2.1 hw (hC.mem hi) (g1.trans c2) g2 v1 hd (fun H1 locs1 hw1 => ?_)
      rw [v2] at hw1
      exact hs r _ H1 locs1 cells slots ls (hC.sA ho dx) hw1 hl (by rw [List.length_set]; exact ht) (by rw [List.length_set]; exact cw_tl (cw_tl (cw_tl hK))) hcl hsl (by rw [List.length_set]; exact hn) hr
    · cases h
  · -- aastore
    rename_i _ _ j k i K0
    split at h
    · rename_i hc
      simp only [Bool.and_eq_true] at hc
      obtain ⟨⟨⟨⟨⟨⟨c1, c2⟩, c3⟩, c7⟩, c4⟩, c5⟩, c6⟩ := hc
      have hi : i < c.length := Nat.le_of_ble_eq_true c1
      have hj : j < c.length := Nat.le_of_ble_eq_true c3
      have c2 := Nat.eq_of_beq_eq_true c2
      have c7 := Nat.eq_of_beq_eq_true c7
      obtain ⟨-, -, dk⟩ := c15_ok c4
      have c5 := ile_iff.mp c5
      have c6 := ile_iff.mp c6
      have ho : c[i]? = some (nth co0 c i) := nth_lt hi
      have hoj : c[j]? = some (nth co0 c j) := nth_lt hj
      obtain ⟨g1, g2, -⟩ := hC.2.2.2 i _ ho
      obtain ⟨j1, -⟩ := hC.2.2.2 j _ hoj
      obtain ⟨v1, v2⟩ := vp_c c5 c6 dk
      have h := (Option.some.inj h).symm
      subst h
      refine z_past hM.1 hM.2.2.1 hw (hC.mem hi) (g1.trans c2) g2 (hC.mem hj) (j1.trans c7) v1 hd (fun H1 locs1 hw1 => ?_)
      rw [v2] at hw1
      exact hs r _ H1 locs1 cells slots ls (hC.sR ho hj) hw1 hl (by rw [List.length_set]; exact ht) (by rw [List.length_set]; exact cw_tl (cw_tl (cw_tl hK))) hcl hsl (by rw [List.length_set]; exact hn) hr
    · cases h
  · -- Object's constructor
    rename_i _ _ idx i K0
    split at h
    · rename_i hi
      obtain ⟨o1, o2, o3⟩ := hB.2.1 _ (nin_iff.mp hi)
      have h := (Option.some.inj h).symm
      obtain ⟨⟨m1, m2, m3, m4, m5⟩, m6, -⟩ := hM
      refine W.objInit (a := r i) (rest := K0.map (cv r)) m1 m2 m4 (m5 _ (m6 _ o1)) (m5 _ (m6 _ o2)) (m5 _ (m6 _ o3)) rfl (by show ls.size = _; rw [hml]; exact hl.1) rfl hd (by omega) ?_ (pass h hl (cw_tl hK))
      have hb8 : ((K0.map (cv r)).map fun v => v.category).sum ≤ 8 := by rw [cv_sum]; have : (K0.length + 1 : Nat) ≤ 8 := hK8; omega
      show 2 * 0 + _ + 12 ≤ R.locals
      omega
    · cases h
  · cases h
end CRM
