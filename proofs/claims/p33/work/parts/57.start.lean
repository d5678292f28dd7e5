/-! the start: what lies outside the pool -/
theorem zH_start {args : Array Value} {s : State} {A : Nat → Prop} (hts : ∀ w ∈ lw_tbl, w.before args s = true) (hgv : (Jvm.Cond.and given_1 narrow_1).before args s = true) (hA : ∀ a : Nat, a < s.heap.size → ¬ A a) (b : Nat) : ∃ xs : Nat → Nat, xs 9 = b ∧ zH xs A s s.heap := by
  have hs := flat_of_before _ hgv
  have tb : ∀ w ∈ tables_1, w.before args s = true := fun w h => hts w (List.mem_append_right _ h)
  obtain ⟨t0, e0, T0⟩ := va_Tof (tm := .static "FoldedInHalf" "EAST" "[I") (ty := .int) (N := 4) (f := fun j => .int (([1, 0, -1, 0] : List Int32).getD j 0)) (A := A) (by decide) (hs _ (by decide +kernel)) (va_eqt (hs _ (by decide +kernel))) (fun j hj => by
    obtain rfl | rfl | rfl | rfl : j = 0 ∨ j = 1 ∨ j = 2 ∨ j = 3 := by omega
    all_goals exact va_eqt (hs _ (by decide +kernel))) hA
  obtain ⟨t1, e1, T1⟩ := va_Tof (tm := .static "FoldedInHalf" "NORTH" "[I") (ty := .int) (N := 4) (f := fun j => .int (([0, 1, 0, -1] : List Int32).getD j 0)) (A := A) (by decide) (hs _ (by decide +kernel)) (va_eqt (hs _ (by decide +kernel))) (fun j hj => by
    obtain rfl | rfl | rfl | rfl : j = 0 ∨ j = 1 ∨ j = 2 ∨ j = 3 := by omega
    all_goals exact va_eqt (hs _ (by decide +kernel))) hA
  obtain ⟨aK, aV, hS, hR⟩ := vk_Sof (N := 3) (tm := fun i => .string "FoldedInHalf$Reader" (z_cp i)) (len := z_len) (byt := z_byt) (A := A) (s := s) (args := args)
    (fun i hi => by obtain rfl | rfl | rfl : i = 0 ∨ i = 1 ∨ i = 2 := by omega
                    all_goals decide)
    (fun i hi => by obtain rfl | rfl | rfl : i = 0 ∨ i = 1 ∨ i = 2 := by omega
                    all_goals exact hs _ (by decide +kernel))
    (fun i hi => by obtain rfl | rfl | rfl : i = 0 ∨ i = 1 ∨ i = 2 := by omega
                    all_goals exact hs _ (by decide +kernel))
    (fun i hi => by obtain rfl | rfl | rfl : i = 0 ∨ i = 1 ∨ i = 2 := by omega
                    all_goals exact hs _ (by decide +kernel))
    (fun i hi => by obtain rfl | rfl | rfl : i = 0 ∨ i = 1 ∨ i = 2 := by omega
                    all_goals exact hs _ (by decide +kernel))
    (fun i hi j hj => by
      obtain rfl | rfl | rfl : i = 0 ∨ i = 1 ∨ i = 2 := by omega
      · have hj : j < 5 := hj
        obtain rfl | rfl | rfl | rfl | rfl : j = 0 ∨ j = 1 ∨ j = 2 ∨ j = 3 ∨ j = 4 := by omega
        all_goals exact hs _ (by decide +kernel)
      · have hj : j < 4 := hj
        obtain rfl | rfl | rfl | rfl : j = 0 ∨ j = 1 ∨ j = 2 ∨ j = 3 := by omega
        all_goals exact hs _ (by decide +kernel)
      · have hj : j < 4 := hj
        obtain rfl | rfl | rfl | rfl : j = 0 ∨ j = 1 ∨ j = 2 ∨ j = 3 := by omega
        all_goals exact hs _ (by decide +kernel))
    (fun i j hi hj hij => by
      obtain rfl | rfl | rfl : i = 0 ∨ i = 1 ∨ i = 2 := by omega
      all_goals obtain rfl | rfl | rfl : j = 0 ∨ j = 1 ∨ j = 2 := by omega
      all_goals first
        | exact absurd rfl hij
        | exact Or.inl (hs _ (by decide +kernel))
        | exact Or.inr (hs _ (by decide +kernel))) hA
  obtain ⟨X, x0, x1, x2, x3, x4, x5, x6, x7, x9⟩ : ∃ X : Nat → Nat, X 0 = t0 ∧ X 1 = t1 ∧ X 2 = aK 0 ∧ X 3 = aK 1 ∧ X 4 = aK 2 ∧ X 5 = aV 0 ∧ X 6 = aV 1 ∧ X 7 = aV 2 ∧ X 9 = b := ⟨fun k => match k with
    | 0 => t0
    | 1 => t1
    | 2 => aK 0
    | 3 => aK 1
    | 4 => aK 2
    | 5 => aV 0
    | 6 => aV 1
    | 7 => aV 2
    | 9 => b
    | _ => 0, rfl, rfl, rfl, rfl, rfl, rfl, rfl, rfl, rfl⟩
  have hk : ∀ i, i < 3 → X (2 + i) = aK i ∧ X (5 + i) = aV i := fun i hi => by
    obtain rfl | rfl | rfl : i = 0 ∨ i = 1 ∨ i = 2 := by omega
    · exact ⟨x2, x5⟩
    · exact ⟨x3, x6⟩
    · exact ⟨x4, x7⟩
  have hS2 : vk_S 3 z_len z_byt (fun i => X (2 + i)) (fun i => X (5 + i)) A s s.heap := by
    refine ⟨fun i hi => ?_, fun i j hi hj hij => ?_⟩
    · have := hS.1 i hi
      obtain ⟨k1, k2⟩ := hk i hi
      dsimp only
      rw [k1, k2]; exact this
    · dsimp only at hij
      rw [(hk i hi).1, (hk j hj).1] at hij
      exact hS.2 i j hi hj hij
  refine ⟨X, x9, ?_⟩
  subst x0; subst x1
  refine ⟨va_Zof (tb _ (tm_4 54 rfl)) (tb _ (tm_1 1 rfl)) e0 hA, T0, va_Zof (tb _ (tm_4 56 rfl)) (tb _ (tm_1 1 rfl)) e1 hA, T1, va_Zof (tb _ (tm_3 92 rfl)) (tb _ (tm_1 15 rfl)) (va_eqi (hs _ (by decide +kernel))) hA, va_Zqof (tb _ (tm_3 108 rfl)) (tb _ (tm_1 17 rfl)) (hs _ (by decide +kernel)) hA, hS2, fun i hi => ?_⟩
  have h1 := hR i hi
  rw [← (hk i hi).1] at h1
  obtain rfl | rfl | rfl : i = 0 ∨ i = 1 ∨ i = 2 := by omega
  · exact vk_R.of (tb _ (tm_3 78 rfl)) h1
  · exact vk_R.of (tb _ (tm_3 168 rfl)) h1
  · exact vk_R.of (tb _ (tm_3 179 rfl)) h1
