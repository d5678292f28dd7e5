/-! by hand: the test of an order, and what the walks of the orders need (from the claim of all calls) -/
def nbit (m k : Nat) : Bool := m / 2 ^ k % 2 == 1
section ZTI
variable {p : Program} {l : Launch} {e : Env} {R : Room} {s : State} {m : MethodId} {args : Array Value} {below : List Frame} {meth : Method} {c : Code} {H : Heap} {locs : List Loc} {cells slots pc : Nat} {Q : State → Prop} {ls : Array Slot} {rest : List Value}
theorem z_topi {x y : Int32} (h : x = y) (k : W p l e R s m args below meth c H locs cells slots Q (F0 m pc ls (.int y :: rest))) : W p l e R s m args below meth c H locs cells slots Q (F0 m pc ls (.int x :: rest)) := h ▸ k
end ZTI
theorem zx_lt (a b : Int32) : a < b ↔ a.toInt < b.toInt := Int32.lt_iff_toInt_lt
theorem zx_le (a b : Int32) : a ≤ b ↔ a.toInt ≤ b.toInt := Int32.le_iff_toInt_le
theorem zn_lt {i N : Int32} {j n : Nat} (ei : i = nI j) (eN : N = nI n) (hj : j < 2147483648) (h : ¬ N ≤ i) : j < n := by
  rcases Nat.lt_or_ge j n with q | q
  · exact q
  · exact absurd (by rw [ei, eN]; exact nI_le q hj) h
theorem zn_ge {i N : Int32} {j n : Nat} (ei : i = nI j) (eN : N = nI n) (hn : n < 2147483648) (h : N ≤ i) : n ≤ j := by
  rcases Nat.lt_or_ge j n with q | q
  · exact absurd (by rw [ei, eN] at h; exact h) (nI_ge q hn)
  · exact q
theorem zx_ltN {x y : Int32} (h : ¬ y ≤ x) : x < y := by rw [zx_le] at h; rw [zx_lt]; omega
theorem zx_leN {x y : Int32} (h : y ≤ x) : ¬ x < y := by rw [zx_le] at h; rw [zx_lt]; omega
theorem okB_iff {n : Nat} {P : List Nat} : okB n P = true ↔ ∀ i, i < n → ∀ t, i + 3 + 2 * t < n → xin P i (i + 2 + 2 * t) = xin P i (i + 3 + 2 * t) := by
  rw [okB, decide_eq_true_eq]
  exact ⟨fun h i hi t ht => h i hi t (by omega) ht, fun h i hi t _ ht => h i hi t ht⟩
theorem mx_in {a b c : Nat} (ha : a < 8) (hb : b < 8) (hc : c < 8) : ((if nI a < nI b then nI a else nI b) < nI c ∧ nI c < nI a + nI b - (if nI a < nI b then nI a else nI b)) ↔ (a < c ∧ c < b ∨ b < c ∧ c < a) := by
  have h : ∀ a, a < 8 → ∀ b, b < 8 → ∀ c, c < 8 → (decide ((if nI a < nI b then nI a else nI b) < nI c ∧ nI c < nI a + nI b - (if nI a < nI b then nI a else nI b)) = decide (a < c ∧ c < b ∨ b < c ∧ c < a)) := by decide +kernel
  have := h a ha b hb c hc
  rwa [decide_eq_decide] at this
theorem ub_t : ∀ l, l < 8 → ∀ u, u < 256 → nbit u l = false → (nI u ||| (1 <<< (nI l &&& 31)) = nI (u + 2 ^ l) ∧ u + 2 ^ l < 256 ∧ ∀ k, k < 8 → nbit (u + 2 ^ l) k = (nbit u k || k == l)) := by decide +kernel
theorem ub_s : ∀ l, l < 8 → ∀ u, u < 256 → (decide (((nI u >>> (nI l &&& 31)) &&& 1) = 1) = nbit u l) := by decide +kernel
def mGf (n e : Nat) (pre : List Nat) (l : Nat) : List (List Nat) := if l ∈ pre then [] else mG n e (pre ++ [l])
theorem mG_eq (n e : Nat) (pre : List Nat) : mG n (e + 1) pre = (List.range n).flatMap (mGf n e pre) := rfl
theorem dX12_isCrossed_0 : decode cX12_isCrossed 0 = .ok (.iconst 0, 1) := by decide +kernel
theorem dX12_isCrossed_1 : decode cX12_isCrossed 1 = .ok (.istore_n 2, 1) := by decide +kernel
theorem dX12_isCrossed_2 : decode cX12_isCrossed 2 = .ok (.iload_n 2, 1) := by decide +kernel
theorem dX12_isCrossed_3 : decode cX12_isCrossed 3 = .ok (.iconst 1, 1) := by decide +kernel
theorem dX12_isCrossed_4 : decode cX12_isCrossed 4 = .ok (.iadd, 1) := by decide +kernel
theorem dX12_isCrossed_5 : decode cX12_isCrossed 5 = .ok (.iload_n 1, 1) := by decide +kernel
theorem dX12_isCrossed_6 : decode cX12_isCrossed 6 = .ok (.if_icmp .ge 155, 3) := by decide +kernel
theorem dX12_isCrossed_9 : decode cX12_isCrossed 9 = .ok (.aload_n 0, 1) := by decide +kernel
theorem dX12_isCrossed_10 : decode cX12_isCrossed 10 = .ok (.getfield 114, 3) := by decide +kernel
theorem dX12_isCrossed_13 : decode cX12_isCrossed 13 = .ok (.iload_n 2, 1) := by decide +kernel
theorem dX12_isCrossed_14 : decode cX12_isCrossed 14 = .ok (.iaload, 1) := by decide +kernel
theorem dX12_isCrossed_15 : decode cX12_isCrossed 15 = .ok (.aload_n 0, 1) := by decide +kernel
theorem dX12_isCrossed_16 : decode cX12_isCrossed 16 = .ok (.getfield 114, 3) := by decide +kernel
theorem dX12_isCrossed_19 : decode cX12_isCrossed 19 = .ok (.iload_n 2, 1) := by decide +kernel
theorem dX12_isCrossed_20 : decode cX12_isCrossed 20 = .ok (.iconst 1, 1) := by decide +kernel
theorem dX12_isCrossed_21 : decode cX12_isCrossed 21 = .ok (.iadd, 1) := by decide +kernel
theorem dX12_isCrossed_22 : decode cX12_isCrossed 22 = .ok (.iaload, 1) := by decide +kernel
theorem dX12_isCrossed_23 : decode cX12_isCrossed 23 = .ok (.if_icmp .ge 12, 3) := by decide +kernel
theorem dX12_isCrossed_26 : decode cX12_isCrossed 26 = .ok (.aload_n 0, 1) := by decide +kernel
theorem dX12_isCrossed_27 : decode cX12_isCrossed 27 = .ok (.getfield 114, 3) := by decide +kernel
theorem dX12_isCrossed_30 : decode cX12_isCrossed 30 = .ok (.iload_n 2, 1) := by decide +kernel
theorem dX12_isCrossed_31 : decode cX12_isCrossed 31 = .ok (.iaload, 1) := by decide +kernel
theorem dX12_isCrossed_32 : decode cX12_isCrossed 32 = .ok (.goto 11, 3) := by decide +kernel
theorem dX12_isCrossed_35 : decode cX12_isCrossed 35 = .ok (.aload_n 0, 1) := by decide +kernel
theorem dX12_isCrossed_36 : decode cX12_isCrossed 36 = .ok (.getfield 114, 3) := by decide +kernel
theorem dX12_isCrossed_39 : decode cX12_isCrossed 39 = .ok (.iload_n 2, 1) := by decide +kernel
theorem dX12_isCrossed_40 : decode cX12_isCrossed 40 = .ok (.iconst 1, 1) := by decide +kernel
theorem dX12_isCrossed_41 : decode cX12_isCrossed 41 = .ok (.iadd, 1) := by decide +kernel
theorem dX12_isCrossed_42 : decode cX12_isCrossed 42 = .ok (.iaload, 1) := by decide +kernel
theorem dX12_isCrossed_43 : decode cX12_isCrossed 43 = .ok (.istore_n 3, 1) := by decide +kernel
theorem dX12_isCrossed_44 : decode cX12_isCrossed 44 = .ok (.aload_n 0, 1) := by decide +kernel
theorem dX12_isCrossed_45 : decode cX12_isCrossed 45 = .ok (.getfield 114, 3) := by decide +kernel
theorem dX12_isCrossed_48 : decode cX12_isCrossed 48 = .ok (.iload_n 2, 1) := by decide +kernel
theorem dX12_isCrossed_49 : decode cX12_isCrossed 49 = .ok (.iaload, 1) := by decide +kernel
theorem dX12_isCrossed_50 : decode cX12_isCrossed 50 = .ok (.aload_n 0, 1) := by decide +kernel
theorem dX12_isCrossed_51 : decode cX12_isCrossed 51 = .ok (.getfield 114, 3) := by decide +kernel
theorem dX12_isCrossed_54 : decode cX12_isCrossed 54 = .ok (.iload_n 2, 1) := by decide +kernel
theorem dX12_isCrossed_55 : decode cX12_isCrossed 55 = .ok (.iconst 1, 1) := by decide +kernel
theorem dX12_isCrossed_56 : decode cX12_isCrossed 56 = .ok (.iadd, 1) := by decide +kernel
theorem dX12_isCrossed_57 : decode cX12_isCrossed 57 = .ok (.iaload, 1) := by decide +kernel
theorem dX12_isCrossed_58 : decode cX12_isCrossed 58 = .ok (.iadd, 1) := by decide +kernel
theorem dX12_isCrossed_59 : decode cX12_isCrossed 59 = .ok (.iload_n 3, 1) := by decide +kernel
theorem dX12_isCrossed_60 : decode cX12_isCrossed 60 = .ok (.isub, 1) := by decide +kernel
theorem dX12_isCrossed_61 : decode cX12_isCrossed 61 = .ok (.istore 4, 2) := by decide +kernel
theorem dX12_isCrossed_63 : decode cX12_isCrossed 63 = .ok (.iload_n 2, 1) := by decide +kernel
theorem dX12_isCrossed_64 : decode cX12_isCrossed 64 = .ok (.iconst 2, 1) := by decide +kernel
theorem dX12_isCrossed_65 : decode cX12_isCrossed 65 = .ok (.iadd, 1) := by decide +kernel
theorem dX12_isCrossed_66 : decode cX12_isCrossed 66 = .ok (.istore 5, 2) := by decide +kernel
theorem dX12_isCrossed_68 : decode cX12_isCrossed 68 = .ok (.iload 5, 2) := by decide +kernel
theorem dX12_isCrossed_70 : decode cX12_isCrossed 70 = .ok (.iconst 1, 1) := by decide +kernel
theorem dX12_isCrossed_71 : decode cX12_isCrossed 71 = .ok (.iadd, 1) := by decide +kernel
theorem dX12_isCrossed_72 : decode cX12_isCrossed 72 = .ok (.iload_n 1, 1) := by decide +kernel
theorem dX12_isCrossed_73 : decode cX12_isCrossed 73 = .ok (.if_icmp .ge 82, 3) := by decide +kernel
theorem dX12_isCrossed_76 : decode cX12_isCrossed 76 = .ok (.aload_n 0, 1) := by decide +kernel
theorem dX12_isCrossed_77 : decode cX12_isCrossed 77 = .ok (.getfield 114, 3) := by decide +kernel
theorem dX12_isCrossed_80 : decode cX12_isCrossed 80 = .ok (.iload 5, 2) := by decide +kernel
theorem dX12_isCrossed_82 : decode cX12_isCrossed 82 = .ok (.iaload, 1) := by decide +kernel
theorem dX12_isCrossed_83 : decode cX12_isCrossed 83 = .ok (.iload_n 3, 1) := by decide +kernel
theorem dX12_isCrossed_84 : decode cX12_isCrossed 84 = .ok (.if_icmp .le 19, 3) := by decide +kernel
theorem dX12_isCrossed_87 : decode cX12_isCrossed 87 = .ok (.aload_n 0, 1) := by decide +kernel
theorem dX12_isCrossed_88 : decode cX12_isCrossed 88 = .ok (.getfield 114, 3) := by decide +kernel
theorem dX12_isCrossed_91 : decode cX12_isCrossed 91 = .ok (.iload 5, 2) := by decide +kernel
theorem dX12_isCrossed_93 : decode cX12_isCrossed 93 = .ok (.iaload, 1) := by decide +kernel
theorem dX12_isCrossed_94 : decode cX12_isCrossed 94 = .ok (.iload 4, 2) := by decide +kernel
theorem dX12_isCrossed_96 : decode cX12_isCrossed 96 = .ok (.if_icmp .ge 7, 3) := by decide +kernel
theorem dX12_isCrossed_99 : decode cX12_isCrossed 99 = .ok (.iconst 1, 1) := by decide +kernel
theorem dX12_isCrossed_100 : decode cX12_isCrossed 100 = .ok (.goto 4, 3) := by decide +kernel
theorem dX12_isCrossed_103 : decode cX12_isCrossed 103 = .ok (.iconst 0, 1) := by decide +kernel
theorem dX12_isCrossed_104 : decode cX12_isCrossed 104 = .ok (.istore 6, 2) := by decide +kernel
theorem dX12_isCrossed_106 : decode cX12_isCrossed 106 = .ok (.aload_n 0, 1) := by decide +kernel
theorem dX12_isCrossed_107 : decode cX12_isCrossed 107 = .ok (.getfield 114, 3) := by decide +kernel
theorem dX12_isCrossed_110 : decode cX12_isCrossed 110 = .ok (.iload 5, 2) := by decide +kernel
theorem dX12_isCrossed_112 : decode cX12_isCrossed 112 = .ok (.iconst 1, 1) := by decide +kernel
theorem dX12_isCrossed_113 : decode cX12_isCrossed 113 = .ok (.iadd, 1) := by decide +kernel
theorem dX12_isCrossed_114 : decode cX12_isCrossed 114 = .ok (.iaload, 1) := by decide +kernel
theorem dX12_isCrossed_115 : decode cX12_isCrossed 115 = .ok (.iload_n 3, 1) := by decide +kernel
theorem dX12_isCrossed_116 : decode cX12_isCrossed 116 = .ok (.if_icmp .le 21, 3) := by decide +kernel
theorem dX12_isCrossed_119 : decode cX12_isCrossed 119 = .ok (.aload_n 0, 1) := by decide +kernel
theorem dX12_isCrossed_120 : decode cX12_isCrossed 120 = .ok (.getfield 114, 3) := by decide +kernel
theorem dX12_isCrossed_123 : decode cX12_isCrossed 123 = .ok (.iload 5, 2) := by decide +kernel
theorem dX12_isCrossed_125 : decode cX12_isCrossed 125 = .ok (.iconst 1, 1) := by decide +kernel
theorem dX12_isCrossed_126 : decode cX12_isCrossed 126 = .ok (.iadd, 1) := by decide +kernel
theorem dX12_isCrossed_127 : decode cX12_isCrossed 127 = .ok (.iaload, 1) := by decide +kernel
theorem dX12_isCrossed_128 : decode cX12_isCrossed 128 = .ok (.iload 4, 2) := by decide +kernel
theorem dX12_isCrossed_130 : decode cX12_isCrossed 130 = .ok (.if_icmp .ge 7, 3) := by decide +kernel
theorem dX12_isCrossed_133 : decode cX12_isCrossed 133 = .ok (.iconst 1, 1) := by decide +kernel
theorem dX12_isCrossed_134 : decode cX12_isCrossed 134 = .ok (.goto 4, 3) := by decide +kernel
theorem dX12_isCrossed_137 : decode cX12_isCrossed 137 = .ok (.iconst 0, 1) := by decide +kernel
theorem dX12_isCrossed_138 : decode cX12_isCrossed 138 = .ok (.istore 7, 2) := by decide +kernel
theorem dX12_isCrossed_140 : decode cX12_isCrossed 140 = .ok (.iload 6, 2) := by decide +kernel
theorem dX12_isCrossed_142 : decode cX12_isCrossed 142 = .ok (.iload 7, 2) := by decide +kernel
theorem dX12_isCrossed_144 : decode cX12_isCrossed 144 = .ok (.if_icmp .eq 5, 3) := by decide +kernel
theorem dX12_isCrossed_147 : decode cX12_isCrossed 147 = .ok (.iconst 1, 1) := by decide +kernel
theorem dX12_isCrossed_148 : decode cX12_isCrossed 148 = .ok (.ireturn, 1) := by decide +kernel
theorem dX12_isCrossed_149 : decode cX12_isCrossed 149 = .ok (.iinc 5 2, 3) := by decide +kernel
theorem dX12_isCrossed_152 : decode cX12_isCrossed 152 = .ok (.goto (-84), 3) := by decide +kernel
theorem dX12_isCrossed_155 : decode cX12_isCrossed 155 = .ok (.iinc 2 1, 3) := by decide +kernel
theorem dX12_isCrossed_158 : decode cX12_isCrossed 158 = .ok (.goto (-156), 3) := by decide +kernel
theorem dX12_isCrossed_161 : decode cX12_isCrossed 161 = .ok (.iconst 0, 1) := by decide +kernel
theorem dX12_isCrossed_162 : decode cX12_isCrossed 162 = .ok (.ireturn, 1) := by decide +kernel
theorem dX12_goes_0 : decode cX12_goes 0 = .ok (.iload_n 1, 1) := by decide +kernel
theorem dX12_goes_1 : decode cX12_goes 1 = .ok (.iload_n 2, 1) := by decide +kernel
theorem dX12_goes_2 : decode cX12_goes 2 = .ok (.if_icmp .ne 60, 3) := by decide +kernel
theorem dX12_goes_5 : decode cX12_goes 5 = .ok (.aload_n 0, 1) := by decide +kernel
theorem dX12_goes_6 : decode cX12_goes 6 = .ok (.iload_n 2, 1) := by decide +kernel
theorem dX12_goes_7 : decode cX12_goes 7 = .ok (.invokevirtual 325, 3) := by decide +kernel
theorem dX12_goes_10 : decode cX12_goes 10 = .ok (.ifCond .eq 4, 3) := by decide +kernel
theorem dX12_goes_13 : decode cX12_goes 13 = .ok (.return_, 1) := by decide +kernel
theorem dX12_goes_14 : decode cX12_goes 14 = .ok (.iconst 0, 1) := by decide +kernel
theorem dX12_goes_15 : decode cX12_goes 15 = .ok (.istore 4, 2) := by decide +kernel
theorem dX12_goes_17 : decode cX12_goes 17 = .ok (.iload 4, 2) := by decide +kernel
theorem dX12_goes_19 : decode cX12_goes 19 = .ok (.iload_n 2, 1) := by decide +kernel
theorem dX12_goes_20 : decode cX12_goes 20 = .ok (.if_icmp .ge 31, 3) := by decide +kernel
theorem dX12_goes_23 : decode cX12_goes 23 = .ok (.aload_n 0, 1) := by decide +kernel
theorem dX12_goes_24 : decode cX12_goes 24 = .ok (.getfield 117, 3) := by decide +kernel
theorem dX12_goes_27 : decode cX12_goes 27 = .ok (.bipush 8, 2) := by decide +kernel
theorem dX12_goes_29 : decode cX12_goes 29 = .ok (.aload_n 0, 1) := by decide +kernel
theorem dX12_goes_30 : decode cX12_goes 30 = .ok (.getfield 328, 3) := by decide +kernel
theorem dX12_goes_33 : decode cX12_goes 33 = .ok (.imul, 1) := by decide +kernel
theorem dX12_goes_34 : decode cX12_goes 34 = .ok (.iload 4, 2) := by decide +kernel
theorem dX12_goes_36 : decode cX12_goes 36 = .ok (.iadd, 1) := by decide +kernel
theorem dX12_goes_37 : decode cX12_goes 37 = .ok (.aload_n 0, 1) := by decide +kernel
theorem dX12_goes_38 : decode cX12_goes 38 = .ok (.getfield 111, 3) := by decide +kernel
theorem dX12_goes_41 : decode cX12_goes 41 = .ok (.iload 4, 2) := by decide +kernel
theorem dX12_goes_43 : decode cX12_goes 43 = .ok (.iaload, 1) := by decide +kernel
theorem dX12_goes_44 : decode cX12_goes 44 = .ok (.iastore, 1) := by decide +kernel
theorem dX12_goes_45 : decode cX12_goes 45 = .ok (.iinc 4 1, 3) := by decide +kernel
theorem dX12_goes_48 : decode cX12_goes 48 = .ok (.goto (-31), 3) := by decide +kernel
theorem dX12_goes_51 : decode cX12_goes 51 = .ok (.aload_n 0, 1) := by decide +kernel
theorem dX12_goes_52 : decode cX12_goes 52 = .ok (.dup, 1) := by decide +kernel
theorem dX12_goes_53 : decode cX12_goes 53 = .ok (.getfield 328, 3) := by decide +kernel
theorem dX12_goes_56 : decode cX12_goes 56 = .ok (.iconst 1, 1) := by decide +kernel
theorem dX12_goes_57 : decode cX12_goes 57 = .ok (.iadd, 1) := by decide +kernel
theorem dX12_goes_58 : decode cX12_goes 58 = .ok (.putfield 328, 3) := by decide +kernel
theorem dX12_goes_61 : decode cX12_goes 61 = .ok (.return_, 1) := by decide +kernel
theorem dX12_goes_62 : decode cX12_goes 62 = .ok (.iconst 0, 1) := by decide +kernel
theorem dX12_goes_63 : decode cX12_goes 63 = .ok (.istore 4, 2) := by decide +kernel
theorem dX12_goes_65 : decode cX12_goes 65 = .ok (.iload 4, 2) := by decide +kernel
theorem dX12_goes_67 : decode cX12_goes 67 = .ok (.iload_n 2, 1) := by decide +kernel
theorem dX12_goes_68 : decode cX12_goes 68 = .ok (.if_icmp .ge 52, 3) := by decide +kernel
theorem dX12_goes_71 : decode cX12_goes 71 = .ok (.iload_n 3, 1) := by decide +kernel
theorem dX12_goes_72 : decode cX12_goes 72 = .ok (.iload 4, 2) := by decide +kernel
theorem dX12_goes_74 : decode cX12_goes 74 = .ok (.ishr, 1) := by decide +kernel
theorem dX12_goes_75 : decode cX12_goes 75 = .ok (.iconst 1, 1) := by decide +kernel
theorem dX12_goes_76 : decode cX12_goes 76 = .ok (.iand, 1) := by decide +kernel
theorem dX12_goes_77 : decode cX12_goes 77 = .ok (.iconst 1, 1) := by decide +kernel
theorem dX12_goes_78 : decode cX12_goes 78 = .ok (.if_icmp .ne 6, 3) := by decide +kernel
theorem dX12_goes_81 : decode cX12_goes 81 = .ok (.goto 33, 3) := by decide +kernel
theorem dX12_goes_84 : decode cX12_goes 84 = .ok (.aload_n 0, 1) := by decide +kernel
theorem dX12_goes_85 : decode cX12_goes 85 = .ok (.getfield 111, 3) := by decide +kernel
theorem dX12_goes_88 : decode cX12_goes 88 = .ok (.iload_n 1, 1) := by decide +kernel
theorem dX12_goes_89 : decode cX12_goes 89 = .ok (.iload 4, 2) := by decide +kernel
theorem dX12_goes_91 : decode cX12_goes 91 = .ok (.iastore, 1) := by decide +kernel
theorem dX12_goes_92 : decode cX12_goes 92 = .ok (.aload_n 0, 1) := by decide +kernel
theorem dX12_goes_93 : decode cX12_goes 93 = .ok (.getfield 114, 3) := by decide +kernel
theorem dX12_goes_96 : decode cX12_goes 96 = .ok (.iload 4, 2) := by decide +kernel
theorem dX12_goes_98 : decode cX12_goes 98 = .ok (.iload_n 1, 1) := by decide +kernel
theorem dX12_goes_99 : decode cX12_goes 99 = .ok (.iastore, 1) := by decide +kernel
theorem dX12_goes_100 : decode cX12_goes 100 = .ok (.aload_n 0, 1) := by decide +kernel
theorem dX12_goes_101 : decode cX12_goes 101 = .ok (.iload_n 1, 1) := by decide +kernel
theorem dX12_goes_102 : decode cX12_goes 102 = .ok (.iconst 1, 1) := by decide +kernel
theorem dX12_goes_103 : decode cX12_goes 103 = .ok (.iadd, 1) := by decide +kernel
theorem dX12_goes_104 : decode cX12_goes 104 = .ok (.iload_n 2, 1) := by decide +kernel
theorem dX12_goes_105 : decode cX12_goes 105 = .ok (.iload_n 3, 1) := by decide +kernel
theorem dX12_goes_106 : decode cX12_goes 106 = .ok (.iconst 1, 1) := by decide +kernel
theorem dX12_goes_107 : decode cX12_goes 107 = .ok (.iload 4, 2) := by decide +kernel
theorem dX12_goes_109 : decode cX12_goes 109 = .ok (.ishl, 1) := by decide +kernel
theorem dX12_goes_110 : decode cX12_goes 110 = .ok (.ior, 1) := by decide +kernel
theorem dX12_goes_111 : decode cX12_goes 111 = .ok (.invokevirtual 331, 3) := by decide +kernel
theorem dX12_goes_114 : decode cX12_goes 114 = .ok (.iinc 4 1, 3) := by decide +kernel
theorem dX12_goes_117 : decode cX12_goes 117 = .ok (.goto (-52), 3) := by decide +kernel
theorem dX12_goes_120 : decode cX12_goes 120 = .ok (.return_, 1) := by decide +kernel
theorem dX12_finds_0 : decode cX12_finds 0 = .ok (.aload_n 0, 1) := by decide +kernel
theorem dX12_finds_1 : decode cX12_finds 1 = .ok (.getfield 335, 3) := by decide +kernel
theorem dX12_finds_4 : decode cX12_finds 4 = .ok (.iload_n 1, 1) := by decide +kernel
theorem dX12_finds_5 : decode cX12_finds 5 = .ok (.if_icmp .ne 4, 3) := by decide +kernel
theorem dX12_finds_8 : decode cX12_finds 8 = .ok (.return_, 1) := by decide +kernel
theorem dX12_finds_9 : decode cX12_finds 9 = .ok (.aload_n 0, 1) := by decide +kernel
theorem dX12_finds_10 : decode cX12_finds 10 = .ok (.iload_n 1, 1) := by decide +kernel
theorem dX12_finds_11 : decode cX12_finds 11 = .ok (.putfield 335, 3) := by decide +kernel
theorem dX12_finds_14 : decode cX12_finds 14 = .ok (.aload_n 0, 1) := by decide +kernel
theorem dX12_finds_15 : decode cX12_finds 15 = .ok (.iconst 0, 1) := by decide +kernel
theorem dX12_finds_16 : decode cX12_finds 16 = .ok (.putfield 328, 3) := by decide +kernel
theorem dX12_finds_19 : decode cX12_finds 19 = .ok (.aload_n 0, 1) := by decide +kernel
theorem dX12_finds_20 : decode cX12_finds 20 = .ok (.iconst 0, 1) := by decide +kernel
theorem dX12_finds_21 : decode cX12_finds 21 = .ok (.iload_n 1, 1) := by decide +kernel
theorem dX12_finds_22 : decode cX12_finds 22 = .ok (.iconst 0, 1) := by decide +kernel
theorem dX12_finds_23 : decode cX12_finds 23 = .ok (.invokevirtual 331, 3) := by decide +kernel
theorem dX12_finds_26 : decode cX12_finds 26 = .ok (.return_, 1) := by decide +kernel
section GAT
variable {ad xs : Nat → Nat} {cD : va_G} {cy : Nat → ClassId} {A : Nat → Prop} {S : zS} {ρ : Nat → Nat} {cc : ByteArray} {nL : Nat}
variable {p : Program} {l : Launch} {e : Env} {R : Room} {s : State} {m : MethodId} {args : Array Value} {below : List Frame} {meth : Method} {c : Code} {Q : State → Prop} {Ts : List Cond} {cells slots pc : Nat} {H : Heap} {locs : List Loc} {ls : Array Slot} {rest : List Value}
theorem g_at (hM : MX xs cD cy A p s m args c cc nL Ts RX12) (hT : Typed zT ad S ρ) (hw : zPw cD cy A s.heap S H locs) (hd : decode cc pc = .ok (.getfield 114, 3)) (k : W p l e R s m args below meth c H locs cells slots Q (F0 m (pc + 3) ls (.ref (ad 51) :: rest))) : W p l e R s m args below meth c H locs cells slots Q (F0 m pc ls (.ref (ad 17) :: rest)) := by
  have c17 := ty_cel hT (r := 17) (by decide +kernel) rfl
  refine gf_RX12_114_12 p l e _ s m args below meth c H locs _ _ _ xs cD cy A cc nL _ S (ad 17) pc ls rest 2 hM hw c17.1 c17.2.2.1 hd rfl ?_
  have e1 : z_v S (ad 17) 2 (z_bs 12 + 47) = .ref (ad 51) := by
    show va_rf (zQ S (z_bs 12 + 47) (ad 17)) = _
    rw [ty_fld hT (r := 17) (f := 47) (r2 := 51) (by decide +kernel) rfl (by decide) rfl (by decide +kernel)]; rfl
  rw [e1]
  exact k
theorem z_iretQ {Post : Option Value → zS → (Nat → Nat) → Prop} {ρ1 : Nat → Nat} {own : String} {maxL : Nat} {v : Int32} {ty : FieldType} (hcf : CallFix p m c cc maxL s args Ts own) (hr : meth.sig.returnType = some ty) (hn : narrow ty (.int v) = .int v) (hlk : meth.locks = false) (hw : zPw cD cy A s.heap S H locs) (hp : Post (some (.int v)) S ρ1) (hdg : decode cc pc = .ok (.ireturn, 1)) : W p l e R s m args below meth c H locs cells slots (MQ below (QX cD cy Post A) args s cells slots A) (F0 m pc ls [.int v]) :=
  W.zret hcf.1 hcf.2.1 hr hn (fun t ht hW => ⟨⟨some (.int v), S, ρ1, rfl, hp, by rw [ht]; exact hw.1, hw.2.1⟩, hw.2.2.F ht⟩) hw.2.2.2.2 hdg hlk
end GAT
def PC (n : Nat) (P : List Nat) (S : zS) : Option Value → zS → (Nat → Nat) → Prop := fun rv S1 _ => ∃ v : Int32, rv = some (.int v) ∧ v = (if okB n P = true then 0 else 1) ∧ S = S1
set_option maxHeartbeats 400000 in
set_option maxRecDepth 100000 in
theorem c_X12_isCrossed {xs ad : Nat → Nat} {ρ : Nat → Nat} (lau : Launch) (cD : va_G) (cy : Nat → ClassId) (sz_ : Nat) (S_ : zS) (hTy : Typed zT ad S_ ρ) (n_ : Nat) (P : List Nat) (hn : n_ ≤ 8) (hPl : P.length = n_) (hall : ∀ k_, k_ < n_ → k_ ∈ P) (hat : ∀ k_, k_ < n_ → zA S_ (ad 51) k_ = nI (P.idxOf k_)) : Met lau yX12_isCrossed (Cond.code yX12_isCrossed cX12_isCrossed 8 (some .boolean) :: TB) ({ frames := 0, cells := 0, slots := 0, locals := 0 } : Room) (va_Pc [.ref (ad 17), .int (nI n_)] (zPre xs cD cy S_ sz_)) (QX cD cy (PC n_ P S_) (zAd cy S_ sz_)) 0 0 (zAd cy S_ sz_) := by
  have cat := ty_cel hTy (r := 51) (by decide +kernel) rfl
  have catN := cat.2.2.2.1 (by decide)
  refine z_ofW (QQ := QX cD cy (PC n_ P S_)) (own := RX12) (by decide +kernel) rfl rfl (Nat.le_of_ble_eq_true rfl) ?_
  intro p_ e_ s_ m_ args_ below_ meth_ c_ A_ ls hcf hr hlk hnm hK_ hE hZ hw hA hl
  have hM : MX xs cD cy A_ p_ s_ m_ args_ c_ cX12_isCrossed 8 (Cond.code yX12_isCrossed cX12_isCrossed 8 (some .boolean) :: TB) RX12 := ⟨hcf, fun w hw => List.mem_cons_of_mem _ hw, hK_, hE, hZ, hA⟩
  have hx := hcf.1
  have hb_ := hcf.2.1
  have hl : lv_has ls 8 [(0, .ref (ad 17)), (1, .int (nI n_))] := hl
  refine lv_iconst (v := 0) hx hb_ dX12_isCrossed_0 (by decide) ?_
  refine lv_istore_n (lv' := [(2, .int 0), (0, .ref (ad 17)), (1, .int (nI n_))]) hx hb_ dX12_isCrossed_1 rfl hl (by decide) rfl (fun ls hl => ?_)
  have JA : ∀ (nA jA : Nat) (iA : Int32), iA = nI jA → jA ≤ n_ → n_ < jA + nA → (∀ i_, i_ < jA → ∀ t_, i_ + 3 + 2 * t_ < n_ → xin P i_ (i_ + 2 + 2 * t_) = xin P i_ (i_ + 3 + 2 * t_)) → ∀ (H_ : Heap) (locs_ : List Loc), zPw cD cy A_ s_.heap S_ H_ locs_ → ∀ ls : Array Slot, lv_has ls 8 [(0, .ref (ad 17)), (1, .int (nI n_)), (2, .int iA)] → W p_ lau e_ ({ frames := 0, cells := 0, slots := 0, locals := 0 } : Room) s_ m_ args_ below_ meth_ c_ H_ locs_ 0 0 (MQ below_ (QX cD cy (PC n_ P S_) A_) args_ s_ 0 0 A_) (F0 m_ 2 ls []) := by
    intro nA
    induction nA with
    | zero => intro jA iA _ hjA h_; exact absurd h_ (by omega)
    | succ nA ihA =>
      intro jA iA eiA hjA hmA hok H_ locs_ hw ls hl
      refine lv_iload_n hx hb_ dX12_isCrossed_2 rfl (lv_at hl 2 rfl) ?_
      refine lv_iconst (v := 1) hx hb_ dX12_isCrossed_3 (by decide) ?_
      refine lv_iadd hx hb_ dX12_isCrossed_4 ?_
      refine z_topi (y := (nI (jA + 1))) (by rw [eiA]; exact nI_1 jA) ?_
      refine lv_iload_n hx hb_ dX12_isCrossed_5 rfl (lv_at hl 1 rfl) ?_
      refine lv_icmp_ge (tgt := 161) hx hb_ dX12_isCrossed_6 (by decide) (fun c_6 => ?_) (fun c_6 => ?_)
      · refine lv_iconst (v := 0) hx hb_ dX12_isCrossed_161 (by decide) ?_
        exact z_iretQ (ρ1 := fun _ => 0) (ty := .boolean) (v := 0) hcf hr rfl hlk hw (⟨_, rfl, (if_pos (okB_iff.mpr (fun i_ hi_ t_ ht => hok i_ (by have := zn_ge rfl rfl (by omega) c_6; omega) t_ ht))).symm, rfl⟩) dX12_isCrossed_162
      · have hlt : jA + 1 < n_ := zn_lt rfl rfl (by omega) c_6
        have hx8 : ∀ k_, k_ < n_ → P.idxOf k_ < 8 := fun k_ hk => by have := (get_ix (hall k_ hk)).2; omega
        refine lv_aload_n hx hb_ dX12_isCrossed_9 rfl (lv_at hl 0 rfl) ?_
        refine g_at hM hTy hw dX12_isCrossed_10 ?_
        refine lv_iload_n hx hb_ dX12_isCrossed_13 rfl (lv_at hl 2 rfl) ?_
        refine z_iald (n := 8) hcf hK_ hw cat.1 cat.2.2.1 catN (by rw [eiA]; exact vp_in_nI (by omega) (by decide)) dX12_isCrossed_14 ?_
        refine z_topi (y := (nI (P.idxOf jA))) (by rw [(show iA.toNatClampNeg = jA by rw [eiA]; exact nI_clamp (by omega))]; exact hat jA (by omega)) ?_
        refine lv_aload_n hx hb_ dX12_isCrossed_15 rfl (lv_at hl 0 rfl) ?_
        refine g_at hM hTy hw dX12_isCrossed_16 ?_
        refine lv_iload_n hx hb_ dX12_isCrossed_19 rfl (lv_at hl 2 rfl) ?_
        refine lv_iconst (v := 1) hx hb_ dX12_isCrossed_20 (by decide) ?_
        refine lv_iadd hx hb_ dX12_isCrossed_21 ?_
        refine z_iald (n := 8) hcf hK_ hw cat.1 cat.2.2.1 catN (by rw [eiA, nI_1]; exact vp_in_nI (by omega) (by decide)) dX12_isCrossed_22 ?_
        refine z_topi (y := (nI (P.idxOf (jA + 1)))) (by rw [(show (iA + 1).toNatClampNeg = (jA + 1) by rw [eiA, nI_1]; exact nI_clamp (by omega))]; exact hat (jA + 1) (by omega)) ?_
        refine lv_icmp_ge (tgt := 35) hx hb_ dX12_isCrossed_23 (by decide) (fun c_23 => ?_) (fun c_23 => ?_)
        · refine lv_aload_n hx hb_ dX12_isCrossed_35 rfl (lv_at hl 0 rfl) ?_
          refine g_at hM hTy hw dX12_isCrossed_36 ?_
          refine lv_iload_n hx hb_ dX12_isCrossed_39 rfl (lv_at hl 2 rfl) ?_
          refine lv_iconst (v := 1) hx hb_ dX12_isCrossed_40 (by decide) ?_
          refine lv_iadd hx hb_ dX12_isCrossed_41 ?_
          refine z_iald (n := 8) hcf hK_ hw cat.1 cat.2.2.1 catN (by rw [eiA, nI_1]; exact vp_in_nI (by omega) (by decide)) dX12_isCrossed_42 ?_
          refine z_topi (y := (nI (P.idxOf (jA + 1)))) (by rw [(show (iA + 1).toNatClampNeg = (jA + 1) by rw [eiA, nI_1]; exact nI_clamp (by omega))]; exact hat (jA + 1) (by omega)) ?_
          refine z_topi (y := (if nI (P.idxOf jA) < nI (P.idxOf (jA + 1)) then nI (P.idxOf jA) else nI (P.idxOf (jA + 1)))) ((if_neg (zx_leN c_23)).symm) ?_
          refine lv_istore_n (lv' := [(3, .int (if nI (P.idxOf jA) < nI (P.idxOf (jA + 1)) then nI (P.idxOf jA) else nI (P.idxOf (jA + 1)))), (0, .ref (ad 17)), (1, .int (nI n_)), (2, .int iA)]) hx hb_ dX12_isCrossed_43 rfl hl (by decide) rfl (fun ls hl => ?_)
          refine lv_aload_n hx hb_ dX12_isCrossed_44 rfl (lv_at hl 1 rfl) ?_
          refine g_at hM hTy hw dX12_isCrossed_45 ?_
          refine lv_iload_n hx hb_ dX12_isCrossed_48 rfl (lv_at hl 3 rfl) ?_
          refine z_iald (n := 8) hcf hK_ hw cat.1 cat.2.2.1 catN (by rw [eiA]; exact vp_in_nI (by omega) (by decide)) dX12_isCrossed_49 ?_
          refine z_topi (y := (nI (P.idxOf jA))) (by rw [(show iA.toNatClampNeg = jA by rw [eiA]; exact nI_clamp (by omega))]; exact hat jA (by omega)) ?_
          refine lv_aload_n hx hb_ dX12_isCrossed_50 rfl (lv_at hl 1 rfl) ?_
          refine g_at hM hTy hw dX12_isCrossed_51 ?_
          refine lv_iload_n hx hb_ dX12_isCrossed_54 rfl (lv_at hl 3 rfl) ?_
          refine lv_iconst (v := 1) hx hb_ dX12_isCrossed_55 (by decide) ?_
          refine lv_iadd hx hb_ dX12_isCrossed_56 ?_
          refine z_iald (n := 8) hcf hK_ hw cat.1 cat.2.2.1 catN (by rw [eiA, nI_1]; exact vp_in_nI (by omega) (by decide)) dX12_isCrossed_57 ?_
          refine z_topi (y := (nI (P.idxOf (jA + 1)))) (by rw [(show (iA + 1).toNatClampNeg = (jA + 1) by rw [eiA, nI_1]; exact nI_clamp (by omega))]; exact hat (jA + 1) (by omega)) ?_
          refine lv_iadd hx hb_ dX12_isCrossed_58 ?_
          refine lv_iload_n hx hb_ dX12_isCrossed_59 rfl (lv_at hl 0 rfl) ?_
          refine lv_isub hx hb_ dX12_isCrossed_60 ?_
          refine lv_istore (lv' := [(4, .int (((nI (P.idxOf jA)) + (nI (P.idxOf (jA + 1)))) - (if nI (P.idxOf jA) < nI (P.idxOf (jA + 1)) then nI (P.idxOf jA) else nI (P.idxOf (jA + 1))))), (3, .int (if nI (P.idxOf jA) < nI (P.idxOf (jA + 1)) then nI (P.idxOf jA) else nI (P.idxOf (jA + 1)))), (0, .ref (ad 17)), (1, .int (nI n_)), (2, .int iA)]) hx hb_ dX12_isCrossed_61 hl (by decide) rfl (fun ls hl => ?_)
          refine lv_iload_n hx hb_ dX12_isCrossed_63 rfl (lv_at hl 4 rfl) ?_
          refine lv_iconst (v := 2) hx hb_ dX12_isCrossed_64 (by decide) ?_
          refine lv_iadd hx hb_ dX12_isCrossed_65 ?_
          refine lv_istore (lv' := [(5, .int (iA + 2)), (4, .int (((nI (P.idxOf jA)) + (nI (P.idxOf (jA + 1)))) - (if nI (P.idxOf jA) < nI (P.idxOf (jA + 1)) then nI (P.idxOf jA) else nI (P.idxOf (jA + 1))))), (3, .int (if nI (P.idxOf jA) < nI (P.idxOf (jA + 1)) then nI (P.idxOf jA) else nI (P.idxOf (jA + 1)))), (0, .ref (ad 17)), (1, .int (nI n_)), (2, .int iA)]) hx hb_ dX12_isCrossed_66 hl (by decide) rfl (fun ls hl => ?_)
          have JB : ∀ (nB tB : Nat) (iB : Int32), iB = nI (jA + 2 + 2 * tB) → tB ≤ n_ → n_ < tB + nB → (∀ t_, t_ < tB → xin P jA (jA + 2 + 2 * t_) = xin P jA (jA + 3 + 2 * t_)) → ∀ (H_ : Heap) (locs_ : List Loc), zPw cD cy A_ s_.heap S_ H_ locs_ → ∀ ls : Array Slot, lv_has ls 8 [(0, .ref (ad 17)), (1, .int (nI n_)), (2, .int iA), (3, .int (if nI (P.idxOf jA) < nI (P.idxOf (jA + 1)) then nI (P.idxOf jA) else nI (P.idxOf (jA + 1)))), (4, .int (nI (P.idxOf jA) + nI (P.idxOf (jA + 1)) - (if nI (P.idxOf jA) < nI (P.idxOf (jA + 1)) then nI (P.idxOf jA) else nI (P.idxOf (jA + 1))))), (5, .int iB)] → W p_ lau e_ ({ frames := 0, cells := 0, slots := 0, locals := 0 } : Room) s_ m_ args_ below_ meth_ c_ H_ locs_ 0 0 (MQ below_ (QX cD cy (PC n_ P S_) A_) args_ s_ 0 0 A_) (F0 m_ 68 ls []) := by
            intro nB
            induction nB with
            | zero => intro tB iB _ htB h_; exact absurd h_ (by omega)
            | succ nB ihB =>
              intro tB iB eiB0 htB hmB hin H_ locs_ hw ls hl
              obtain ⟨jB, ejB⟩ : ∃ jB, jB = jA + 2 + 2 * tB := ⟨_, rfl⟩
              have eiB : iB = nI jB := by rw [eiB0, ejB]
              refine lv_iload hx hb_ dX12_isCrossed_68 (lv_at hl 5 rfl) ?_
              refine lv_iconst (v := 1) hx hb_ dX12_isCrossed_70 (by decide) ?_
              refine lv_iadd hx hb_ dX12_isCrossed_71 ?_
              refine z_topi (y := (nI (jB + 1))) (by rw [eiB]; exact nI_1 jB) ?_
              refine lv_iload_n hx hb_ dX12_isCrossed_72 rfl (lv_at hl 1 rfl) ?_
              refine lv_icmp_ge (tgt := 155) hx hb_ dX12_isCrossed_73 (by decide) (fun c_73 => ?_) (fun c_73 => ?_)
              · have hBn : n_ ≤ jB + 1 := zn_ge rfl rfl (by omega) c_73
                obtain ⟨i2_, ei2⟩ : ∃ y_ : Int32, y_ = iA + 1 := ⟨_, rfl⟩
                refine lv_iinc (v := i2_) (lv' := [(2, .int i2_), (0, .ref (ad 17)), (1, .int (nI n_)), (3, .int (if nI (P.idxOf jA) < nI (P.idxOf (jA + 1)) then nI (P.idxOf jA) else nI (P.idxOf (jA + 1)))), (4, .int (nI (P.idxOf jA) + nI (P.idxOf (jA + 1)) - (if nI (P.idxOf jA) < nI (P.idxOf (jA + 1)) then nI (P.idxOf jA) else nI (P.idxOf (jA + 1))))), (5, .int iB)]) hx hb_ dX12_isCrossed_155 hl (k := 2) rfl (by rw [ei2]; rfl) (by decide) rfl (fun ls hl => ?_)
                refine lv_goto (tgt := 2) hx hb_ dX12_isCrossed_158 (by decide) ?_
                exact ihA (jA + 1) i2_ (by rw [ei2, eiA]; exact nI_1 jA) (by omega) (by omega) (fun i_ hi_ t_ ht => (Nat.lt_or_ge i_ jA).elim (fun q_ => hok i_ q_ t_ ht) (fun q_ => by have e_ := (show i_ = jA by omega); subst e_; exact hin t_ (by have := hBn; omega))) _ _ hw ls (lv_sub hl [1, 2, 0] rfl)
              · have hltB : jB + 1 < n_ := zn_lt rfl rfl (by omega) c_73
                have hm0 := mx_in (hx8 jA (by omega)) (hx8 (jA + 1) (by omega)) (hx8 jB (by omega))
                have hm1 := mx_in (hx8 jA (by omega)) (hx8 (jA + 1) (by omega)) (hx8 (jB + 1) (by omega))
                refine lv_aload_n hx hb_ dX12_isCrossed_76 rfl (lv_at hl 0 rfl) ?_
                refine g_at hM hTy hw dX12_isCrossed_77 ?_
                refine lv_iload hx hb_ dX12_isCrossed_80 (lv_at hl 5 rfl) ?_
                refine z_iald (n := 8) hcf hK_ hw cat.1 cat.2.2.1 catN (by rw [eiB]; exact vp_in_nI (by omega) (by decide)) dX12_isCrossed_82 ?_
                refine z_topi (y := (nI (P.idxOf jB))) (by rw [(show iB.toNatClampNeg = jB by rw [eiB]; exact nI_clamp (by omega))]; exact hat jB (by omega)) ?_
                refine lv_iload_n hx hb_ dX12_isCrossed_83 rfl (lv_at hl 3 rfl) ?_
                refine lv_icmp_le (tgt := 103) hx hb_ dX12_isCrossed_84 (by decide) (fun c_84 => ?_) (fun c_84 => ?_)
                · refine lv_iconst (v := 0) hx hb_ dX12_isCrossed_103 (by decide) ?_
                  refine lv_istore (lv' := [(6, .int 0), (0, .ref (ad 17)), (1, .int (nI n_)), (2, .int iA), (3, .int (if nI (P.idxOf jA) < nI (P.idxOf (jA + 1)) then nI (P.idxOf jA) else nI (P.idxOf (jA + 1)))), (4, .int (nI (P.idxOf jA) + nI (P.idxOf (jA + 1)) - (if nI (P.idxOf jA) < nI (P.idxOf (jA + 1)) then nI (P.idxOf jA) else nI (P.idxOf (jA + 1))))), (5, .int iB)]) hx hb_ dX12_isCrossed_104 hl (by decide) rfl (fun ls hl => ?_)
                  refine lv_aload_n hx hb_ dX12_isCrossed_106 rfl (lv_at hl 1 rfl) ?_
                  refine g_at hM hTy hw dX12_isCrossed_107 ?_
                  refine lv_iload hx hb_ dX12_isCrossed_110 (lv_at hl 6 rfl) ?_
                  refine lv_iconst (v := 1) hx hb_ dX12_isCrossed_112 (by decide) ?_
                  refine lv_iadd hx hb_ dX12_isCrossed_113 ?_
                  refine z_iald (n := 8) hcf hK_ hw cat.1 cat.2.2.1 catN (by rw [eiB, nI_1]; exact vp_in_nI (by omega) (by decide)) dX12_isCrossed_114 ?_
                  refine z_topi (y := (nI (P.idxOf (jB + 1)))) (by rw [(show (iB + 1).toNatClampNeg = (jB + 1) by rw [eiB, nI_1]; exact nI_clamp (by omega))]; exact hat (jB + 1) (by omega)) ?_
                  refine lv_iload_n hx hb_ dX12_isCrossed_115 rfl (lv_at hl 4 rfl) ?_
                  refine lv_icmp_le (tgt := 137) hx hb_ dX12_isCrossed_116 (by decide) (fun c_116 => ?_) (fun c_116 => ?_)
                  · refine lv_iconst (v := 0) hx hb_ dX12_isCrossed_137 (by decide) ?_
                    refine lv_istore (lv' := [(7, .int 0), (6, .int 0), (0, .ref (ad 17)), (1, .int (nI n_)), (2, .int iA), (3, .int (if nI (P.idxOf jA) < nI (P.idxOf (jA + 1)) then nI (P.idxOf jA) else nI (P.idxOf (jA + 1)))), (4, .int (nI (P.idxOf jA) + nI (P.idxOf (jA + 1)) - (if nI (P.idxOf jA) < nI (P.idxOf (jA + 1)) then nI (P.idxOf jA) else nI (P.idxOf (jA + 1))))), (5, .int iB)]) hx hb_ dX12_isCrossed_138 hl (by decide) rfl (fun ls hl => ?_)
                    have h6 : xin P jA jB = false := (decide_eq_false (fun q_ => absurd (hm0.2 q_).1 (by rw [zx_le] at c_84; rw [zx_lt]; omega)))
                    have h7 : xin P jA (jB + 1) = false := (decide_eq_false (fun q_ => absurd (hm1.2 q_).1 (by rw [zx_le] at c_116; rw [zx_lt]; omega)))
                    have hone : xin P jA (jA + 2 + 2 * tB) = xin P jA (jA + 3 + 2 * tB) := by rw [show jA + 3 + 2 * tB = jB + 1 by omega, ← ejB, h6, h7]
                    refine lv_iload hx hb_ dX12_isCrossed_140 (lv_at hl 1 rfl) ?_
                    refine lv_iload hx hb_ dX12_isCrossed_142 (lv_at hl 0 rfl) ?_
                    refine lv_icmp_eq (tgt := 149) hx hb_ dX12_isCrossed_144 (by decide) (fun _ => ?_) (fun c_144 => absurd c_144 (by decide))
                    obtain ⟨i3, ei3⟩ : ∃ y_ : Int32, y_ = iB + 2 := ⟨_, rfl⟩
                    refine lv_iinc (v := i3) (lv' := [(5, .int i3), (7, .int 0), (6, .int 0), (0, .ref (ad 17)), (1, .int (nI n_)), (2, .int iA), (3, .int (if nI (P.idxOf jA) < nI (P.idxOf (jA + 1)) then nI (P.idxOf jA) else nI (P.idxOf (jA + 1)))), (4, .int (nI (P.idxOf jA) + nI (P.idxOf (jA + 1)) - (if nI (P.idxOf jA) < nI (P.idxOf (jA + 1)) then nI (P.idxOf jA) else nI (P.idxOf (jA + 1)))))]) hx hb_ dX12_isCrossed_149 hl (k := 7) rfl (by rw [ei3]; rfl) (by decide) rfl (fun ls hl => ?_)
                    refine lv_goto (tgt := 68) hx hb_ dX12_isCrossed_152 (by decide) ?_
                    exact ihB (tB + 1) i3 (by rw [ei3, eiB, show (2 : Int32) = nI 2 from rfl, nI_add]; congr 1; omega) (by omega) (by omega) (fun t_ ht => (Nat.lt_or_ge t_ tB).elim (fun q_ => hin t_ q_) (fun q_ => by have e_ := (show t_ = tB by omega); subst e_; exact hone)) _ _ hw ls (lv_sub hl [3, 4, 5, 6, 7, 0] rfl)
                  · refine lv_aload_n hx hb_ dX12_isCrossed_119 rfl (lv_at hl 1 rfl) ?_
                    refine g_at hM hTy hw dX12_isCrossed_120 ?_
                    refine lv_iload hx hb_ dX12_isCrossed_123 (lv_at hl 6 rfl) ?_
                    refine lv_iconst (v := 1) hx hb_ dX12_isCrossed_125 (by decide) ?_
                    refine lv_iadd hx hb_ dX12_isCrossed_126 ?_
                    refine z_iald (n := 8) hcf hK_ hw cat.1 cat.2.2.1 catN (by rw [eiB, nI_1]; exact vp_in_nI (by omega) (by decide)) dX12_isCrossed_127 ?_
                    refine z_topi (y := (nI (P.idxOf (jB + 1)))) (by rw [(show (iB + 1).toNatClampNeg = (jB + 1) by rw [eiB, nI_1]; exact nI_clamp (by omega))]; exact hat (jB + 1) (by omega)) ?_
                    refine lv_iload hx hb_ dX12_isCrossed_128 (lv_at hl 5 rfl) ?_
                    refine lv_icmp_ge (tgt := 137) hx hb_ dX12_isCrossed_130 (by decide) (fun c_130 => ?_) (fun c_130 => ?_)
                    · refine lv_iconst (v := 0) hx hb_ dX12_isCrossed_137 (by decide) ?_
                      refine lv_istore (lv' := [(7, .int 0), (6, .int 0), (0, .ref (ad 17)), (1, .int (nI n_)), (2, .int iA), (3, .int (if nI (P.idxOf jA) < nI (P.idxOf (jA + 1)) then nI (P.idxOf jA) else nI (P.idxOf (jA + 1)))), (4, .int (nI (P.idxOf jA) + nI (P.idxOf (jA + 1)) - (if nI (P.idxOf jA) < nI (P.idxOf (jA + 1)) then nI (P.idxOf jA) else nI (P.idxOf (jA + 1))))), (5, .int iB)]) hx hb_ dX12_isCrossed_138 hl (by decide) rfl (fun ls hl => ?_)
                      have h6 : xin P jA jB = false := (decide_eq_false (fun q_ => absurd (hm0.2 q_).1 (by rw [zx_le] at c_84; rw [zx_lt]; omega)))
                      have h7 : xin P jA (jB + 1) = false := (decide_eq_false (fun q_ => absurd (hm1.2 q_).2 (by rw [zx_le] at c_130; rw [zx_lt]; omega)))
                      have hone : xin P jA (jA + 2 + 2 * tB) = xin P jA (jA + 3 + 2 * tB) := by rw [show jA + 3 + 2 * tB = jB + 1 by omega, ← ejB, h6, h7]
                      refine lv_iload hx hb_ dX12_isCrossed_140 (lv_at hl 1 rfl) ?_
                      refine lv_iload hx hb_ dX12_isCrossed_142 (lv_at hl 0 rfl) ?_
                      refine lv_icmp_eq (tgt := 149) hx hb_ dX12_isCrossed_144 (by decide) (fun _ => ?_) (fun c_144 => absurd c_144 (by decide))
                      obtain ⟨i3, ei3⟩ : ∃ y_ : Int32, y_ = iB + 2 := ⟨_, rfl⟩
                      refine lv_iinc (v := i3) (lv' := [(5, .int i3), (7, .int 0), (6, .int 0), (0, .ref (ad 17)), (1, .int (nI n_)), (2, .int iA), (3, .int (if nI (P.idxOf jA) < nI (P.idxOf (jA + 1)) then nI (P.idxOf jA) else nI (P.idxOf (jA + 1)))), (4, .int (nI (P.idxOf jA) + nI (P.idxOf (jA + 1)) - (if nI (P.idxOf jA) < nI (P.idxOf (jA + 1)) then nI (P.idxOf jA) else nI (P.idxOf (jA + 1)))))]) hx hb_ dX12_isCrossed_149 hl (k := 7) rfl (by rw [ei3]; rfl) (by decide) rfl (fun ls hl => ?_)
                      refine lv_goto (tgt := 68) hx hb_ dX12_isCrossed_152 (by decide) ?_
                      exact ihB (tB + 1) i3 (by rw [ei3, eiB, show (2 : Int32) = nI 2 from rfl, nI_add]; congr 1; omega) (by omega) (by omega) (fun t_ ht => (Nat.lt_or_ge t_ tB).elim (fun q_ => hin t_ q_) (fun q_ => by have e_ := (show t_ = tB by omega); subst e_; exact hone)) _ _ hw ls (lv_sub hl [3, 4, 5, 6, 7, 0] rfl)
                    · refine lv_iconst (v := 1) hx hb_ dX12_isCrossed_133 (by decide) ?_
                      refine lv_goto (tgt := 138) hx hb_ dX12_isCrossed_134 (by decide) ?_
                      refine lv_istore (lv' := [(7, .int 1), (6, .int 0), (0, .ref (ad 17)), (1, .int (nI n_)), (2, .int iA), (3, .int (if nI (P.idxOf jA) < nI (P.idxOf (jA + 1)) then nI (P.idxOf jA) else nI (P.idxOf (jA + 1)))), (4, .int (nI (P.idxOf jA) + nI (P.idxOf (jA + 1)) - (if nI (P.idxOf jA) < nI (P.idxOf (jA + 1)) then nI (P.idxOf jA) else nI (P.idxOf (jA + 1))))), (5, .int iB)]) hx hb_ dX12_isCrossed_138 hl (by decide) rfl (fun ls hl => ?_)
                      have h6 : xin P jA jB = false := (decide_eq_false (fun q_ => absurd (hm0.2 q_).1 (by rw [zx_le] at c_84; rw [zx_lt]; omega)))
                      have h7 : xin P jA (jB + 1) = true := (decide_eq_true (hm1.1 ⟨Classical.byContradiction (fun q_ => c_116 (by rw [zx_le]; rw [zx_lt] at q_; omega)), Classical.byContradiction (fun q_ => c_130 (by rw [zx_le]; rw [zx_lt] at q_; omega))⟩))
                      refine lv_iload hx hb_ dX12_isCrossed_140 (lv_at hl 1 rfl) ?_
                      refine lv_iload hx hb_ dX12_isCrossed_142 (lv_at hl 0 rfl) ?_
                      refine lv_icmp_eq (tgt := 149) hx hb_ dX12_isCrossed_144 (by decide) (fun c_144 => absurd c_144 (by decide)) (fun _ => ?_)
                      refine lv_iconst (v := 1) hx hb_ dX12_isCrossed_147 (by decide) ?_
                      exact z_iretQ (ρ1 := fun _ => 0) (ty := .boolean) (v := 1) hcf hr rfl hlk hw (⟨_, rfl, (if_neg (fun q_ => by have z_ := okB_iff.mp q_ jA (by omega) tB (by omega); rw [show jA + 3 + 2 * tB = jB + 1 by omega, ← ejB, h6, h7] at z_; exact absurd z_ (by decide))).symm, rfl⟩) dX12_isCrossed_148
                · refine lv_aload_n hx hb_ dX12_isCrossed_87 rfl (lv_at hl 0 rfl) ?_
                  refine g_at hM hTy hw dX12_isCrossed_88 ?_
                  refine lv_iload hx hb_ dX12_isCrossed_91 (lv_at hl 5 rfl) ?_
                  refine z_iald (n := 8) hcf hK_ hw cat.1 cat.2.2.1 catN (by rw [eiB]; exact vp_in_nI (by omega) (by decide)) dX12_isCrossed_93 ?_
                  refine z_topi (y := (nI (P.idxOf jB))) (by rw [(show iB.toNatClampNeg = jB by rw [eiB]; exact nI_clamp (by omega))]; exact hat jB (by omega)) ?_
                  refine lv_iload hx hb_ dX12_isCrossed_94 (lv_at hl 4 rfl) ?_
                  refine lv_icmp_ge (tgt := 103) hx hb_ dX12_isCrossed_96 (by decide) (fun c_96 => ?_) (fun c_96 => ?_)
                  · refine lv_iconst (v := 0) hx hb_ dX12_isCrossed_103 (by decide) ?_
                    refine lv_istore (lv' := [(6, .int 0), (0, .ref (ad 17)), (1, .int (nI n_)), (2, .int iA), (3, .int (if nI (P.idxOf jA) < nI (P.idxOf (jA + 1)) then nI (P.idxOf jA) else nI (P.idxOf (jA + 1)))), (4, .int (nI (P.idxOf jA) + nI (P.idxOf (jA + 1)) - (if nI (P.idxOf jA) < nI (P.idxOf (jA + 1)) then nI (P.idxOf jA) else nI (P.idxOf (jA + 1))))), (5, .int iB)]) hx hb_ dX12_isCrossed_104 hl (by decide) rfl (fun ls hl => ?_)
                    refine lv_aload_n hx hb_ dX12_isCrossed_106 rfl (lv_at hl 1 rfl) ?_
                    refine g_at hM hTy hw dX12_isCrossed_107 ?_
                    refine lv_iload hx hb_ dX12_isCrossed_110 (lv_at hl 6 rfl) ?_
                    refine lv_iconst (v := 1) hx hb_ dX12_isCrossed_112 (by decide) ?_
                    refine lv_iadd hx hb_ dX12_isCrossed_113 ?_
                    refine z_iald (n := 8) hcf hK_ hw cat.1 cat.2.2.1 catN (by rw [eiB, nI_1]; exact vp_in_nI (by omega) (by decide)) dX12_isCrossed_114 ?_
                    refine z_topi (y := (nI (P.idxOf (jB + 1)))) (by rw [(show (iB + 1).toNatClampNeg = (jB + 1) by rw [eiB, nI_1]; exact nI_clamp (by omega))]; exact hat (jB + 1) (by omega)) ?_
                    refine lv_iload_n hx hb_ dX12_isCrossed_115 rfl (lv_at hl 4 rfl) ?_
                    refine lv_icmp_le (tgt := 137) hx hb_ dX12_isCrossed_116 (by decide) (fun c_116 => ?_) (fun c_116 => ?_)
                    · refine lv_iconst (v := 0) hx hb_ dX12_isCrossed_137 (by decide) ?_
                      refine lv_istore (lv' := [(7, .int 0), (6, .int 0), (0, .ref (ad 17)), (1, .int (nI n_)), (2, .int iA), (3, .int (if nI (P.idxOf jA) < nI (P.idxOf (jA + 1)) then nI (P.idxOf jA) else nI (P.idxOf (jA + 1)))), (4, .int (nI (P.idxOf jA) + nI (P.idxOf (jA + 1)) - (if nI (P.idxOf jA) < nI (P.idxOf (jA + 1)) then nI (P.idxOf jA) else nI (P.idxOf (jA + 1))))), (5, .int iB)]) hx hb_ dX12_isCrossed_138 hl (by decide) rfl (fun ls hl => ?_)
                      have h6 : xin P jA jB = false := (decide_eq_false (fun q_ => absurd (hm0.2 q_).2 (by rw [zx_le] at c_96; rw [zx_lt]; omega)))
                      have h7 : xin P jA (jB + 1) = false := (decide_eq_false (fun q_ => absurd (hm1.2 q_).1 (by rw [zx_le] at c_116; rw [zx_lt]; omega)))
                      have hone : xin P jA (jA + 2 + 2 * tB) = xin P jA (jA + 3 + 2 * tB) := by rw [show jA + 3 + 2 * tB = jB + 1 by omega, ← ejB, h6, h7]
                      refine lv_iload hx hb_ dX12_isCrossed_140 (lv_at hl 1 rfl) ?_
                      refine lv_iload hx hb_ dX12_isCrossed_142 (lv_at hl 0 rfl) ?_
                      refine lv_icmp_eq (tgt := 149) hx hb_ dX12_isCrossed_144 (by decide) (fun _ => ?_) (fun c_144 => absurd c_144 (by decide))
                      obtain ⟨i3, ei3⟩ : ∃ y_ : Int32, y_ = iB + 2 := ⟨_, rfl⟩
                      refine lv_iinc (v := i3) (lv' := [(5, .int i3), (7, .int 0), (6, .int 0), (0, .ref (ad 17)), (1, .int (nI n_)), (2, .int iA), (3, .int (if nI (P.idxOf jA) < nI (P.idxOf (jA + 1)) then nI (P.idxOf jA) else nI (P.idxOf (jA + 1)))), (4, .int (nI (P.idxOf jA) + nI (P.idxOf (jA + 1)) - (if nI (P.idxOf jA) < nI (P.idxOf (jA + 1)) then nI (P.idxOf jA) else nI (P.idxOf (jA + 1)))))]) hx hb_ dX12_isCrossed_149 hl (k := 7) rfl (by rw [ei3]; rfl) (by decide) rfl (fun ls hl => ?_)
                      refine lv_goto (tgt := 68) hx hb_ dX12_isCrossed_152 (by decide) ?_
                      exact ihB (tB + 1) i3 (by rw [ei3, eiB, show (2 : Int32) = nI 2 from rfl, nI_add]; congr 1; omega) (by omega) (by omega) (fun t_ ht => (Nat.lt_or_ge t_ tB).elim (fun q_ => hin t_ q_) (fun q_ => by have e_ := (show t_ = tB by omega); subst e_; exact hone)) _ _ hw ls (lv_sub hl [3, 4, 5, 6, 7, 0] rfl)
                    · refine lv_aload_n hx hb_ dX12_isCrossed_119 rfl (lv_at hl 1 rfl) ?_
                      refine g_at hM hTy hw dX12_isCrossed_120 ?_
                      refine lv_iload hx hb_ dX12_isCrossed_123 (lv_at hl 6 rfl) ?_
                      refine lv_iconst (v := 1) hx hb_ dX12_isCrossed_125 (by decide) ?_
                      refine lv_iadd hx hb_ dX12_isCrossed_126 ?_
                      refine z_iald (n := 8) hcf hK_ hw cat.1 cat.2.2.1 catN (by rw [eiB, nI_1]; exact vp_in_nI (by omega) (by decide)) dX12_isCrossed_127 ?_
                      refine z_topi (y := (nI (P.idxOf (jB + 1)))) (by rw [(show (iB + 1).toNatClampNeg = (jB + 1) by rw [eiB, nI_1]; exact nI_clamp (by omega))]; exact hat (jB + 1) (by omega)) ?_
                      refine lv_iload hx hb_ dX12_isCrossed_128 (lv_at hl 5 rfl) ?_
                      refine lv_icmp_ge (tgt := 137) hx hb_ dX12_isCrossed_130 (by decide) (fun c_130 => ?_) (fun c_130 => ?_)
                      · refine lv_iconst (v := 0) hx hb_ dX12_isCrossed_137 (by decide) ?_
                        refine lv_istore (lv' := [(7, .int 0), (6, .int 0), (0, .ref (ad 17)), (1, .int (nI n_)), (2, .int iA), (3, .int (if nI (P.idxOf jA) < nI (P.idxOf (jA + 1)) then nI (P.idxOf jA) else nI (P.idxOf (jA + 1)))), (4, .int (nI (P.idxOf jA) + nI (P.idxOf (jA + 1)) - (if nI (P.idxOf jA) < nI (P.idxOf (jA + 1)) then nI (P.idxOf jA) else nI (P.idxOf (jA + 1))))), (5, .int iB)]) hx hb_ dX12_isCrossed_138 hl (by decide) rfl (fun ls hl => ?_)
                        have h6 : xin P jA jB = false := (decide_eq_false (fun q_ => absurd (hm0.2 q_).2 (by rw [zx_le] at c_96; rw [zx_lt]; omega)))
                        have h7 : xin P jA (jB + 1) = false := (decide_eq_false (fun q_ => absurd (hm1.2 q_).2 (by rw [zx_le] at c_130; rw [zx_lt]; omega)))
                        have hone : xin P jA (jA + 2 + 2 * tB) = xin P jA (jA + 3 + 2 * tB) := by rw [show jA + 3 + 2 * tB = jB + 1 by omega, ← ejB, h6, h7]
                        refine lv_iload hx hb_ dX12_isCrossed_140 (lv_at hl 1 rfl) ?_
                        refine lv_iload hx hb_ dX12_isCrossed_142 (lv_at hl 0 rfl) ?_
                        refine lv_icmp_eq (tgt := 149) hx hb_ dX12_isCrossed_144 (by decide) (fun _ => ?_) (fun c_144 => absurd c_144 (by decide))
                        obtain ⟨i3, ei3⟩ : ∃ y_ : Int32, y_ = iB + 2 := ⟨_, rfl⟩
                        refine lv_iinc (v := i3) (lv' := [(5, .int i3), (7, .int 0), (6, .int 0), (0, .ref (ad 17)), (1, .int (nI n_)), (2, .int iA), (3, .int (if nI (P.idxOf jA) < nI (P.idxOf (jA + 1)) then nI (P.idxOf jA) else nI (P.idxOf (jA + 1)))), (4, .int (nI (P.idxOf jA) + nI (P.idxOf (jA + 1)) - (if nI (P.idxOf jA) < nI (P.idxOf (jA + 1)) then nI (P.idxOf jA) else nI (P.idxOf (jA + 1)))))]) hx hb_ dX12_isCrossed_149 hl (k := 7) rfl (by rw [ei3]; rfl) (by decide) rfl (fun ls hl => ?_)
                        refine lv_goto (tgt := 68) hx hb_ dX12_isCrossed_152 (by decide) ?_
                        exact ihB (tB + 1) i3 (by rw [ei3, eiB, show (2 : Int32) = nI 2 from rfl, nI_add]; congr 1; omega) (by omega) (by omega) (fun t_ ht => (Nat.lt_or_ge t_ tB).elim (fun q_ => hin t_ q_) (fun q_ => by have e_ := (show t_ = tB by omega); subst e_; exact hone)) _ _ hw ls (lv_sub hl [3, 4, 5, 6, 7, 0] rfl)
                      · refine lv_iconst (v := 1) hx hb_ dX12_isCrossed_133 (by decide) ?_
                        refine lv_goto (tgt := 138) hx hb_ dX12_isCrossed_134 (by decide) ?_
                        refine lv_istore (lv' := [(7, .int 1), (6, .int 0), (0, .ref (ad 17)), (1, .int (nI n_)), (2, .int iA), (3, .int (if nI (P.idxOf jA) < nI (P.idxOf (jA + 1)) then nI (P.idxOf jA) else nI (P.idxOf (jA + 1)))), (4, .int (nI (P.idxOf jA) + nI (P.idxOf (jA + 1)) - (if nI (P.idxOf jA) < nI (P.idxOf (jA + 1)) then nI (P.idxOf jA) else nI (P.idxOf (jA + 1))))), (5, .int iB)]) hx hb_ dX12_isCrossed_138 hl (by decide) rfl (fun ls hl => ?_)
                        have h6 : xin P jA jB = false := (decide_eq_false (fun q_ => absurd (hm0.2 q_).2 (by rw [zx_le] at c_96; rw [zx_lt]; omega)))
                        have h7 : xin P jA (jB + 1) = true := (decide_eq_true (hm1.1 ⟨Classical.byContradiction (fun q_ => c_116 (by rw [zx_le]; rw [zx_lt] at q_; omega)), Classical.byContradiction (fun q_ => c_130 (by rw [zx_le]; rw [zx_lt] at q_; omega))⟩))
                        refine lv_iload hx hb_ dX12_isCrossed_140 (lv_at hl 1 rfl) ?_
                        refine lv_iload hx hb_ dX12_isCrossed_142 (lv_at hl 0 rfl) ?_
                        refine lv_icmp_eq (tgt := 149) hx hb_ dX12_isCrossed_144 (by decide) (fun c_144 => absurd c_144 (by decide)) (fun _ => ?_)
                        refine lv_iconst (v := 1) hx hb_ dX12_isCrossed_147 (by decide) ?_
                        exact z_iretQ (ρ1 := fun _ => 0) (ty := .boolean) (v := 1) hcf hr rfl hlk hw (⟨_, rfl, (if_neg (fun q_ => by have z_ := okB_iff.mp q_ jA (by omega) tB (by omega); rw [show jA + 3 + 2 * tB = jB + 1 by omega, ← ejB, h6, h7] at z_; exact absurd z_ (by decide))).symm, rfl⟩) dX12_isCrossed_148
                  · refine lv_iconst (v := 1) hx hb_ dX12_isCrossed_99 (by decide) ?_
                    refine lv_goto (tgt := 104) hx hb_ dX12_isCrossed_100 (by decide) ?_
                    refine lv_istore (lv' := [(6, .int 1), (0, .ref (ad 17)), (1, .int (nI n_)), (2, .int iA), (3, .int (if nI (P.idxOf jA) < nI (P.idxOf (jA + 1)) then nI (P.idxOf jA) else nI (P.idxOf (jA + 1)))), (4, .int (nI (P.idxOf jA) + nI (P.idxOf (jA + 1)) - (if nI (P.idxOf jA) < nI (P.idxOf (jA + 1)) then nI (P.idxOf jA) else nI (P.idxOf (jA + 1))))), (5, .int iB)]) hx hb_ dX12_isCrossed_104 hl (by decide) rfl (fun ls hl => ?_)
                    refine lv_aload_n hx hb_ dX12_isCrossed_106 rfl (lv_at hl 1 rfl) ?_
                    refine g_at hM hTy hw dX12_isCrossed_107 ?_
                    refine lv_iload hx hb_ dX12_isCrossed_110 (lv_at hl 6 rfl) ?_
                    refine lv_iconst (v := 1) hx hb_ dX12_isCrossed_112 (by decide) ?_
                    refine lv_iadd hx hb_ dX12_isCrossed_113 ?_
                    refine z_iald (n := 8) hcf hK_ hw cat.1 cat.2.2.1 catN (by rw [eiB, nI_1]; exact vp_in_nI (by omega) (by decide)) dX12_isCrossed_114 ?_
                    refine z_topi (y := (nI (P.idxOf (jB + 1)))) (by rw [(show (iB + 1).toNatClampNeg = (jB + 1) by rw [eiB, nI_1]; exact nI_clamp (by omega))]; exact hat (jB + 1) (by omega)) ?_
                    refine lv_iload_n hx hb_ dX12_isCrossed_115 rfl (lv_at hl 4 rfl) ?_
                    refine lv_icmp_le (tgt := 137) hx hb_ dX12_isCrossed_116 (by decide) (fun c_116 => ?_) (fun c_116 => ?_)
                    · refine lv_iconst (v := 0) hx hb_ dX12_isCrossed_137 (by decide) ?_
                      refine lv_istore (lv' := [(7, .int 0), (6, .int 1), (0, .ref (ad 17)), (1, .int (nI n_)), (2, .int iA), (3, .int (if nI (P.idxOf jA) < nI (P.idxOf (jA + 1)) then nI (P.idxOf jA) else nI (P.idxOf (jA + 1)))), (4, .int (nI (P.idxOf jA) + nI (P.idxOf (jA + 1)) - (if nI (P.idxOf jA) < nI (P.idxOf (jA + 1)) then nI (P.idxOf jA) else nI (P.idxOf (jA + 1))))), (5, .int iB)]) hx hb_ dX12_isCrossed_138 hl (by decide) rfl (fun ls hl => ?_)
                      have h6 : xin P jA jB = true := (decide_eq_true (hm0.1 ⟨Classical.byContradiction (fun q_ => c_84 (by rw [zx_le]; rw [zx_lt] at q_; omega)), Classical.byContradiction (fun q_ => c_96 (by rw [zx_le]; rw [zx_lt] at q_; omega))⟩))
                      have h7 : xin P jA (jB + 1) = false := (decide_eq_false (fun q_ => absurd (hm1.2 q_).1 (by rw [zx_le] at c_116; rw [zx_lt]; omega)))
                      refine lv_iload hx hb_ dX12_isCrossed_140 (lv_at hl 1 rfl) ?_
                      refine lv_iload hx hb_ dX12_isCrossed_142 (lv_at hl 0 rfl) ?_
                      refine lv_icmp_eq (tgt := 149) hx hb_ dX12_isCrossed_144 (by decide) (fun c_144 => absurd c_144 (by decide)) (fun _ => ?_)
                      refine lv_iconst (v := 1) hx hb_ dX12_isCrossed_147 (by decide) ?_
                      exact z_iretQ (ρ1 := fun _ => 0) (ty := .boolean) (v := 1) hcf hr rfl hlk hw (⟨_, rfl, (if_neg (fun q_ => by have z_ := okB_iff.mp q_ jA (by omega) tB (by omega); rw [show jA + 3 + 2 * tB = jB + 1 by omega, ← ejB, h6, h7] at z_; exact absurd z_ (by decide))).symm, rfl⟩) dX12_isCrossed_148
                    · refine lv_aload_n hx hb_ dX12_isCrossed_119 rfl (lv_at hl 1 rfl) ?_
                      refine g_at hM hTy hw dX12_isCrossed_120 ?_
                      refine lv_iload hx hb_ dX12_isCrossed_123 (lv_at hl 6 rfl) ?_
                      refine lv_iconst (v := 1) hx hb_ dX12_isCrossed_125 (by decide) ?_
                      refine lv_iadd hx hb_ dX12_isCrossed_126 ?_
                      refine z_iald (n := 8) hcf hK_ hw cat.1 cat.2.2.1 catN (by rw [eiB, nI_1]; exact vp_in_nI (by omega) (by decide)) dX12_isCrossed_127 ?_
                      refine z_topi (y := (nI (P.idxOf (jB + 1)))) (by rw [(show (iB + 1).toNatClampNeg = (jB + 1) by rw [eiB, nI_1]; exact nI_clamp (by omega))]; exact hat (jB + 1) (by omega)) ?_
                      refine lv_iload hx hb_ dX12_isCrossed_128 (lv_at hl 5 rfl) ?_
                      refine lv_icmp_ge (tgt := 137) hx hb_ dX12_isCrossed_130 (by decide) (fun c_130 => ?_) (fun c_130 => ?_)
                      · refine lv_iconst (v := 0) hx hb_ dX12_isCrossed_137 (by decide) ?_
                        refine lv_istore (lv' := [(7, .int 0), (6, .int 1), (0, .ref (ad 17)), (1, .int (nI n_)), (2, .int iA), (3, .int (if nI (P.idxOf jA) < nI (P.idxOf (jA + 1)) then nI (P.idxOf jA) else nI (P.idxOf (jA + 1)))), (4, .int (nI (P.idxOf jA) + nI (P.idxOf (jA + 1)) - (if nI (P.idxOf jA) < nI (P.idxOf (jA + 1)) then nI (P.idxOf jA) else nI (P.idxOf (jA + 1))))), (5, .int iB)]) hx hb_ dX12_isCrossed_138 hl (by decide) rfl (fun ls hl => ?_)
                        have h6 : xin P jA jB = true := (decide_eq_true (hm0.1 ⟨Classical.byContradiction (fun q_ => c_84 (by rw [zx_le]; rw [zx_lt] at q_; omega)), Classical.byContradiction (fun q_ => c_96 (by rw [zx_le]; rw [zx_lt] at q_; omega))⟩))
                        have h7 : xin P jA (jB + 1) = false := (decide_eq_false (fun q_ => absurd (hm1.2 q_).2 (by rw [zx_le] at c_130; rw [zx_lt]; omega)))
                        refine lv_iload hx hb_ dX12_isCrossed_140 (lv_at hl 1 rfl) ?_
                        refine lv_iload hx hb_ dX12_isCrossed_142 (lv_at hl 0 rfl) ?_
                        refine lv_icmp_eq (tgt := 149) hx hb_ dX12_isCrossed_144 (by decide) (fun c_144 => absurd c_144 (by decide)) (fun _ => ?_)
                        refine lv_iconst (v := 1) hx hb_ dX12_isCrossed_147 (by decide) ?_
                        exact z_iretQ (ρ1 := fun _ => 0) (ty := .boolean) (v := 1) hcf hr rfl hlk hw (⟨_, rfl, (if_neg (fun q_ => by have z_ := okB_iff.mp q_ jA (by omega) tB (by omega); rw [show jA + 3 + 2 * tB = jB + 1 by omega, ← ejB, h6, h7] at z_; exact absurd z_ (by decide))).symm, rfl⟩) dX12_isCrossed_148
                      · refine lv_iconst (v := 1) hx hb_ dX12_isCrossed_133 (by decide) ?_
                        refine lv_goto (tgt := 138) hx hb_ dX12_isCrossed_134 (by decide) ?_
                        refine lv_istore (lv' := [(7, .int 1), (6, .int 1), (0, .ref (ad 17)), (1, .int (nI n_)), (2, .int iA), (3, .int (if nI (P.idxOf jA) < nI (P.idxOf (jA + 1)) then nI (P.idxOf jA) else nI (P.idxOf (jA + 1)))), (4, .int (nI (P.idxOf jA) + nI (P.idxOf (jA + 1)) - (if nI (P.idxOf jA) < nI (P.idxOf (jA + 1)) then nI (P.idxOf jA) else nI (P.idxOf (jA + 1))))), (5, .int iB)]) hx hb_ dX12_isCrossed_138 hl (by decide) rfl (fun ls hl => ?_)
                        have h6 : xin P jA jB = true := (decide_eq_true (hm0.1 ⟨Classical.byContradiction (fun q_ => c_84 (by rw [zx_le]; rw [zx_lt] at q_; omega)), Classical.byContradiction (fun q_ => c_96 (by rw [zx_le]; rw [zx_lt] at q_; omega))⟩))
                        have h7 : xin P jA (jB + 1) = true := (decide_eq_true (hm1.1 ⟨Classical.byContradiction (fun q_ => c_116 (by rw [zx_le]; rw [zx_lt] at q_; omega)), Classical.byContradiction (fun q_ => c_130 (by rw [zx_le]; rw [zx_lt] at q_; omega))⟩))
                        have hone : xin P jA (jA + 2 + 2 * tB) = xin P jA (jA + 3 + 2 * tB) := by rw [show jA + 3 + 2 * tB = jB + 1 by omega, ← ejB, h6, h7]
                        refine lv_iload hx hb_ dX12_isCrossed_140 (lv_at hl 1 rfl) ?_
                        refine lv_iload hx hb_ dX12_isCrossed_142 (lv_at hl 0 rfl) ?_
                        refine lv_icmp_eq (tgt := 149) hx hb_ dX12_isCrossed_144 (by decide) (fun _ => ?_) (fun c_144 => absurd c_144 (by decide))
                        obtain ⟨i3, ei3⟩ : ∃ y_ : Int32, y_ = iB + 2 := ⟨_, rfl⟩
                        refine lv_iinc (v := i3) (lv' := [(5, .int i3), (7, .int 1), (6, .int 1), (0, .ref (ad 17)), (1, .int (nI n_)), (2, .int iA), (3, .int (if nI (P.idxOf jA) < nI (P.idxOf (jA + 1)) then nI (P.idxOf jA) else nI (P.idxOf (jA + 1)))), (4, .int (nI (P.idxOf jA) + nI (P.idxOf (jA + 1)) - (if nI (P.idxOf jA) < nI (P.idxOf (jA + 1)) then nI (P.idxOf jA) else nI (P.idxOf (jA + 1)))))]) hx hb_ dX12_isCrossed_149 hl (k := 7) rfl (by rw [ei3]; rfl) (by decide) rfl (fun ls hl => ?_)
                        refine lv_goto (tgt := 68) hx hb_ dX12_isCrossed_152 (by decide) ?_
                        exact ihB (tB + 1) i3 (by rw [ei3, eiB, show (2 : Int32) = nI 2 from rfl, nI_add]; congr 1; omega) (by omega) (by omega) (fun t_ ht => (Nat.lt_or_ge t_ tB).elim (fun q_ => hin t_ q_) (fun q_ => by have e_ := (show t_ = tB by omega); subst e_; exact hone)) _ _ hw ls (lv_sub hl [3, 4, 5, 6, 7, 0] rfl)
          exact JB (n_ + 1) 0 _ (by rw [eiA, show (2 : Int32) = nI 2 from rfl, nI_add]) (Nat.zero_le _) (by omega) (fun t_ ht => absurd ht (Nat.not_lt_zero t_)) _ _ hw ls (lv_sub hl [3, 4, 5, 2, 1, 0] rfl)
        · refine lv_aload_n hx hb_ dX12_isCrossed_26 rfl (lv_at hl 0 rfl) ?_
          refine g_at hM hTy hw dX12_isCrossed_27 ?_
          refine lv_iload_n hx hb_ dX12_isCrossed_30 rfl (lv_at hl 2 rfl) ?_
          refine z_iald (n := 8) hcf hK_ hw cat.1 cat.2.2.1 catN (by rw [eiA]; exact vp_in_nI (by omega) (by decide)) dX12_isCrossed_31 ?_
          refine z_topi (y := (nI (P.idxOf jA))) (by rw [(show iA.toNatClampNeg = jA by rw [eiA]; exact nI_clamp (by omega))]; exact hat jA (by omega)) ?_
          refine lv_goto (tgt := 43) hx hb_ dX12_isCrossed_32 (by decide) ?_
          refine z_topi (y := (if nI (P.idxOf jA) < nI (P.idxOf (jA + 1)) then nI (P.idxOf jA) else nI (P.idxOf (jA + 1)))) ((if_pos (zx_ltN c_23)).symm) ?_
          refine lv_istore_n (lv' := [(3, .int (if nI (P.idxOf jA) < nI (P.idxOf (jA + 1)) then nI (P.idxOf jA) else nI (P.idxOf (jA + 1)))), (0, .ref (ad 17)), (1, .int (nI n_)), (2, .int iA)]) hx hb_ dX12_isCrossed_43 rfl hl (by decide) rfl (fun ls hl => ?_)
          refine lv_aload_n hx hb_ dX12_isCrossed_44 rfl (lv_at hl 1 rfl) ?_
          refine g_at hM hTy hw dX12_isCrossed_45 ?_
          refine lv_iload_n hx hb_ dX12_isCrossed_48 rfl (lv_at hl 3 rfl) ?_
          refine z_iald (n := 8) hcf hK_ hw cat.1 cat.2.2.1 catN (by rw [eiA]; exact vp_in_nI (by omega) (by decide)) dX12_isCrossed_49 ?_
          refine z_topi (y := (nI (P.idxOf jA))) (by rw [(show iA.toNatClampNeg = jA by rw [eiA]; exact nI_clamp (by omega))]; exact hat jA (by omega)) ?_
          refine lv_aload_n hx hb_ dX12_isCrossed_50 rfl (lv_at hl 1 rfl) ?_
          refine g_at hM hTy hw dX12_isCrossed_51 ?_
          refine lv_iload_n hx hb_ dX12_isCrossed_54 rfl (lv_at hl 3 rfl) ?_
          refine lv_iconst (v := 1) hx hb_ dX12_isCrossed_55 (by decide) ?_
          refine lv_iadd hx hb_ dX12_isCrossed_56 ?_
          refine z_iald (n := 8) hcf hK_ hw cat.1 cat.2.2.1 catN (by rw [eiA, nI_1]; exact vp_in_nI (by omega) (by decide)) dX12_isCrossed_57 ?_
          refine z_topi (y := (nI (P.idxOf (jA + 1)))) (by rw [(show (iA + 1).toNatClampNeg = (jA + 1) by rw [eiA, nI_1]; exact nI_clamp (by omega))]; exact hat (jA + 1) (by omega)) ?_
          refine lv_iadd hx hb_ dX12_isCrossed_58 ?_
          refine lv_iload_n hx hb_ dX12_isCrossed_59 rfl (lv_at hl 0 rfl) ?_
          refine lv_isub hx hb_ dX12_isCrossed_60 ?_
          refine lv_istore (lv' := [(4, .int (((nI (P.idxOf jA)) + (nI (P.idxOf (jA + 1)))) - (if nI (P.idxOf jA) < nI (P.idxOf (jA + 1)) then nI (P.idxOf jA) else nI (P.idxOf (jA + 1))))), (3, .int (if nI (P.idxOf jA) < nI (P.idxOf (jA + 1)) then nI (P.idxOf jA) else nI (P.idxOf (jA + 1)))), (0, .ref (ad 17)), (1, .int (nI n_)), (2, .int iA)]) hx hb_ dX12_isCrossed_61 hl (by decide) rfl (fun ls hl => ?_)
          refine lv_iload_n hx hb_ dX12_isCrossed_63 rfl (lv_at hl 4 rfl) ?_
          refine lv_iconst (v := 2) hx hb_ dX12_isCrossed_64 (by decide) ?_
          refine lv_iadd hx hb_ dX12_isCrossed_65 ?_
          refine lv_istore (lv' := [(5, .int (iA + 2)), (4, .int (((nI (P.idxOf jA)) + (nI (P.idxOf (jA + 1)))) - (if nI (P.idxOf jA) < nI (P.idxOf (jA + 1)) then nI (P.idxOf jA) else nI (P.idxOf (jA + 1))))), (3, .int (if nI (P.idxOf jA) < nI (P.idxOf (jA + 1)) then nI (P.idxOf jA) else nI (P.idxOf (jA + 1)))), (0, .ref (ad 17)), (1, .int (nI n_)), (2, .int iA)]) hx hb_ dX12_isCrossed_66 hl (by decide) rfl (fun ls hl => ?_)
          have JB : ∀ (nB tB : Nat) (iB : Int32), iB = nI (jA + 2 + 2 * tB) → tB ≤ n_ → n_ < tB + nB → (∀ t_, t_ < tB → xin P jA (jA + 2 + 2 * t_) = xin P jA (jA + 3 + 2 * t_)) → ∀ (H_ : Heap) (locs_ : List Loc), zPw cD cy A_ s_.heap S_ H_ locs_ → ∀ ls : Array Slot, lv_has ls 8 [(0, .ref (ad 17)), (1, .int (nI n_)), (2, .int iA), (3, .int (if nI (P.idxOf jA) < nI (P.idxOf (jA + 1)) then nI (P.idxOf jA) else nI (P.idxOf (jA + 1)))), (4, .int (nI (P.idxOf jA) + nI (P.idxOf (jA + 1)) - (if nI (P.idxOf jA) < nI (P.idxOf (jA + 1)) then nI (P.idxOf jA) else nI (P.idxOf (jA + 1))))), (5, .int iB)] → W p_ lau e_ ({ frames := 0, cells := 0, slots := 0, locals := 0 } : Room) s_ m_ args_ below_ meth_ c_ H_ locs_ 0 0 (MQ below_ (QX cD cy (PC n_ P S_) A_) args_ s_ 0 0 A_) (F0 m_ 68 ls []) := by
            intro nB
            induction nB with
            | zero => intro tB iB _ htB h_; exact absurd h_ (by omega)
            | succ nB ihB =>
              intro tB iB eiB0 htB hmB hin H_ locs_ hw ls hl
              obtain ⟨jB, ejB⟩ : ∃ jB, jB = jA + 2 + 2 * tB := ⟨_, rfl⟩
              have eiB : iB = nI jB := by rw [eiB0, ejB]
              refine lv_iload hx hb_ dX12_isCrossed_68 (lv_at hl 5 rfl) ?_
              refine lv_iconst (v := 1) hx hb_ dX12_isCrossed_70 (by decide) ?_
              refine lv_iadd hx hb_ dX12_isCrossed_71 ?_
              refine z_topi (y := (nI (jB + 1))) (by rw [eiB]; exact nI_1 jB) ?_
              refine lv_iload_n hx hb_ dX12_isCrossed_72 rfl (lv_at hl 1 rfl) ?_
              refine lv_icmp_ge (tgt := 155) hx hb_ dX12_isCrossed_73 (by decide) (fun c_73 => ?_) (fun c_73 => ?_)
              · have hBn : n_ ≤ jB + 1 := zn_ge rfl rfl (by omega) c_73
                obtain ⟨i2_, ei2⟩ : ∃ y_ : Int32, y_ = iA + 1 := ⟨_, rfl⟩
                refine lv_iinc (v := i2_) (lv' := [(2, .int i2_), (0, .ref (ad 17)), (1, .int (nI n_)), (3, .int (if nI (P.idxOf jA) < nI (P.idxOf (jA + 1)) then nI (P.idxOf jA) else nI (P.idxOf (jA + 1)))), (4, .int (nI (P.idxOf jA) + nI (P.idxOf (jA + 1)) - (if nI (P.idxOf jA) < nI (P.idxOf (jA + 1)) then nI (P.idxOf jA) else nI (P.idxOf (jA + 1))))), (5, .int iB)]) hx hb_ dX12_isCrossed_155 hl (k := 2) rfl (by rw [ei2]; rfl) (by decide) rfl (fun ls hl => ?_)
                refine lv_goto (tgt := 2) hx hb_ dX12_isCrossed_158 (by decide) ?_
                exact ihA (jA + 1) i2_ (by rw [ei2, eiA]; exact nI_1 jA) (by omega) (by omega) (fun i_ hi_ t_ ht => (Nat.lt_or_ge i_ jA).elim (fun q_ => hok i_ q_ t_ ht) (fun q_ => by have e_ := (show i_ = jA by omega); subst e_; exact hin t_ (by have := hBn; omega))) _ _ hw ls (lv_sub hl [1, 2, 0] rfl)
              · have hltB : jB + 1 < n_ := zn_lt rfl rfl (by omega) c_73
                have hm0 := mx_in (hx8 jA (by omega)) (hx8 (jA + 1) (by omega)) (hx8 jB (by omega))
                have hm1 := mx_in (hx8 jA (by omega)) (hx8 (jA + 1) (by omega)) (hx8 (jB + 1) (by omega))
                refine lv_aload_n hx hb_ dX12_isCrossed_76 rfl (lv_at hl 0 rfl) ?_
                refine g_at hM hTy hw dX12_isCrossed_77 ?_
                refine lv_iload hx hb_ dX12_isCrossed_80 (lv_at hl 5 rfl) ?_
                refine z_iald (n := 8) hcf hK_ hw cat.1 cat.2.2.1 catN (by rw [eiB]; exact vp_in_nI (by omega) (by decide)) dX12_isCrossed_82 ?_
                refine z_topi (y := (nI (P.idxOf jB))) (by rw [(show iB.toNatClampNeg = jB by rw [eiB]; exact nI_clamp (by omega))]; exact hat jB (by omega)) ?_
                refine lv_iload_n hx hb_ dX12_isCrossed_83 rfl (lv_at hl 3 rfl) ?_
                refine lv_icmp_le (tgt := 103) hx hb_ dX12_isCrossed_84 (by decide) (fun c_84 => ?_) (fun c_84 => ?_)
                · refine lv_iconst (v := 0) hx hb_ dX12_isCrossed_103 (by decide) ?_
                  refine lv_istore (lv' := [(6, .int 0), (0, .ref (ad 17)), (1, .int (nI n_)), (2, .int iA), (3, .int (if nI (P.idxOf jA) < nI (P.idxOf (jA + 1)) then nI (P.idxOf jA) else nI (P.idxOf (jA + 1)))), (4, .int (nI (P.idxOf jA) + nI (P.idxOf (jA + 1)) - (if nI (P.idxOf jA) < nI (P.idxOf (jA + 1)) then nI (P.idxOf jA) else nI (P.idxOf (jA + 1))))), (5, .int iB)]) hx hb_ dX12_isCrossed_104 hl (by decide) rfl (fun ls hl => ?_)
                  refine lv_aload_n hx hb_ dX12_isCrossed_106 rfl (lv_at hl 1 rfl) ?_
                  refine g_at hM hTy hw dX12_isCrossed_107 ?_
                  refine lv_iload hx hb_ dX12_isCrossed_110 (lv_at hl 6 rfl) ?_
                  refine lv_iconst (v := 1) hx hb_ dX12_isCrossed_112 (by decide) ?_
                  refine lv_iadd hx hb_ dX12_isCrossed_113 ?_
                  refine z_iald (n := 8) hcf hK_ hw cat.1 cat.2.2.1 catN (by rw [eiB, nI_1]; exact vp_in_nI (by omega) (by decide)) dX12_isCrossed_114 ?_
                  refine z_topi (y := (nI (P.idxOf (jB + 1)))) (by rw [(show (iB + 1).toNatClampNeg = (jB + 1) by rw [eiB, nI_1]; exact nI_clamp (by omega))]; exact hat (jB + 1) (by omega)) ?_
                  refine lv_iload_n hx hb_ dX12_isCrossed_115 rfl (lv_at hl 4 rfl) ?_
                  refine lv_icmp_le (tgt := 137) hx hb_ dX12_isCrossed_116 (by decide) (fun c_116 => ?_) (fun c_116 => ?_)
                  · refine lv_iconst (v := 0) hx hb_ dX12_isCrossed_137 (by decide) ?_
                    refine lv_istore (lv' := [(7, .int 0), (6, .int 0), (0, .ref (ad 17)), (1, .int (nI n_)), (2, .int iA), (3, .int (if nI (P.idxOf jA) < nI (P.idxOf (jA + 1)) then nI (P.idxOf jA) else nI (P.idxOf (jA + 1)))), (4, .int (nI (P.idxOf jA) + nI (P.idxOf (jA + 1)) - (if nI (P.idxOf jA) < nI (P.idxOf (jA + 1)) then nI (P.idxOf jA) else nI (P.idxOf (jA + 1))))), (5, .int iB)]) hx hb_ dX12_isCrossed_138 hl (by decide) rfl (fun ls hl => ?_)
                    have h6 : xin P jA jB = false := (decide_eq_false (fun q_ => absurd (hm0.2 q_).1 (by rw [zx_le] at c_84; rw [zx_lt]; omega)))
                    have h7 : xin P jA (jB + 1) = false := (decide_eq_false (fun q_ => absurd (hm1.2 q_).1 (by rw [zx_le] at c_116; rw [zx_lt]; omega)))
                    have hone : xin P jA (jA + 2 + 2 * tB) = xin P jA (jA + 3 + 2 * tB) := by rw [show jA + 3 + 2 * tB = jB + 1 by omega, ← ejB, h6, h7]
                    refine lv_iload hx hb_ dX12_isCrossed_140 (lv_at hl 1 rfl) ?_
                    refine lv_iload hx hb_ dX12_isCrossed_142 (lv_at hl 0 rfl) ?_
                    refine lv_icmp_eq (tgt := 149) hx hb_ dX12_isCrossed_144 (by decide) (fun _ => ?_) (fun c_144 => absurd c_144 (by decide))
                    obtain ⟨i3, ei3⟩ : ∃ y_ : Int32, y_ = iB + 2 := ⟨_, rfl⟩
                    refine lv_iinc (v := i3) (lv' := [(5, .int i3), (7, .int 0), (6, .int 0), (0, .ref (ad 17)), (1, .int (nI n_)), (2, .int iA), (3, .int (if nI (P.idxOf jA) < nI (P.idxOf (jA + 1)) then nI (P.idxOf jA) else nI (P.idxOf (jA + 1)))), (4, .int (nI (P.idxOf jA) + nI (P.idxOf (jA + 1)) - (if nI (P.idxOf jA) < nI (P.idxOf (jA + 1)) then nI (P.idxOf jA) else nI (P.idxOf (jA + 1)))))]) hx hb_ dX12_isCrossed_149 hl (k := 7) rfl (by rw [ei3]; rfl) (by decide) rfl (fun ls hl => ?_)
                    refine lv_goto (tgt := 68) hx hb_ dX12_isCrossed_152 (by decide) ?_
                    exact ihB (tB + 1) i3 (by rw [ei3, eiB, show (2 : Int32) = nI 2 from rfl, nI_add]; congr 1; omega) (by omega) (by omega) (fun t_ ht => (Nat.lt_or_ge t_ tB).elim (fun q_ => hin t_ q_) (fun q_ => by have e_ := (show t_ = tB by omega); subst e_; exact hone)) _ _ hw ls (lv_sub hl [3, 4, 5, 6, 7, 0] rfl)
                  · refine lv_aload_n hx hb_ dX12_isCrossed_119 rfl (lv_at hl 1 rfl) ?_
                    refine g_at hM hTy hw dX12_isCrossed_120 ?_
                    refine lv_iload hx hb_ dX12_isCrossed_123 (lv_at hl 6 rfl) ?_
                    refine lv_iconst (v := 1) hx hb_ dX12_isCrossed_125 (by decide) ?_
                    refine lv_iadd hx hb_ dX12_isCrossed_126 ?_
                    refine z_iald (n := 8) hcf hK_ hw cat.1 cat.2.2.1 catN (by rw [eiB, nI_1]; exact vp_in_nI (by omega) (by decide)) dX12_isCrossed_127 ?_
                    refine z_topi (y := (nI (P.idxOf (jB + 1)))) (by rw [(show (iB + 1).toNatClampNeg = (jB + 1) by rw [eiB, nI_1]; exact nI_clamp (by omega))]; exact hat (jB + 1) (by omega)) ?_
                    refine lv_iload hx hb_ dX12_isCrossed_128 (lv_at hl 5 rfl) ?_
                    refine lv_icmp_ge (tgt := 137) hx hb_ dX12_isCrossed_130 (by decide) (fun c_130 => ?_) (fun c_130 => ?_)
                    · refine lv_iconst (v := 0) hx hb_ dX12_isCrossed_137 (by decide) ?_
                      refine lv_istore (lv' := [(7, .int 0), (6, .int 0), (0, .ref (ad 17)), (1, .int (nI n_)), (2, .int iA), (3, .int (if nI (P.idxOf jA) < nI (P.idxOf (jA + 1)) then nI (P.idxOf jA) else nI (P.idxOf (jA + 1)))), (4, .int (nI (P.idxOf jA) + nI (P.idxOf (jA + 1)) - (if nI (P.idxOf jA) < nI (P.idxOf (jA + 1)) then nI (P.idxOf jA) else nI (P.idxOf (jA + 1))))), (5, .int iB)]) hx hb_ dX12_isCrossed_138 hl (by decide) rfl (fun ls hl => ?_)
                      have h6 : xin P jA jB = false := (decide_eq_false (fun q_ => absurd (hm0.2 q_).1 (by rw [zx_le] at c_84; rw [zx_lt]; omega)))
                      have h7 : xin P jA (jB + 1) = false := (decide_eq_false (fun q_ => absurd (hm1.2 q_).2 (by rw [zx_le] at c_130; rw [zx_lt]; omega)))
                      have hone : xin P jA (jA + 2 + 2 * tB) = xin P jA (jA + 3 + 2 * tB) := by rw [show jA + 3 + 2 * tB = jB + 1 by omega, ← ejB, h6, h7]
                      refine lv_iload hx hb_ dX12_isCrossed_140 (lv_at hl 1 rfl) ?_
                      refine lv_iload hx hb_ dX12_isCrossed_142 (lv_at hl 0 rfl) ?_
                      refine lv_icmp_eq (tgt := 149) hx hb_ dX12_isCrossed_144 (by decide) (fun _ => ?_) (fun c_144 => absurd c_144 (by decide))
                      obtain ⟨i3, ei3⟩ : ∃ y_ : Int32, y_ = iB + 2 := ⟨_, rfl⟩
                      refine lv_iinc (v := i3) (lv' := [(5, .int i3), (7, .int 0), (6, .int 0), (0, .ref (ad 17)), (1, .int (nI n_)), (2, .int iA), (3, .int (if nI (P.idxOf jA) < nI (P.idxOf (jA + 1)) then nI (P.idxOf jA) else nI (P.idxOf (jA + 1)))), (4, .int (nI (P.idxOf jA) + nI (P.idxOf (jA + 1)) - (if nI (P.idxOf jA) < nI (P.idxOf (jA + 1)) then nI (P.idxOf jA) else nI (P.idxOf (jA + 1)))))]) hx hb_ dX12_isCrossed_149 hl (k := 7) rfl (by rw [ei3]; rfl) (by decide) rfl (fun ls hl => ?_)
                      refine lv_goto (tgt := 68) hx hb_ dX12_isCrossed_152 (by decide) ?_
                      exact ihB (tB + 1) i3 (by rw [ei3, eiB, show (2 : Int32) = nI 2 from rfl, nI_add]; congr 1; omega) (by omega) (by omega) (fun t_ ht => (Nat.lt_or_ge t_ tB).elim (fun q_ => hin t_ q_) (fun q_ => by have e_ := (show t_ = tB by omega); subst e_; exact hone)) _ _ hw ls (lv_sub hl [3, 4, 5, 6, 7, 0] rfl)
                    · refine lv_iconst (v := 1) hx hb_ dX12_isCrossed_133 (by decide) ?_
                      refine lv_goto (tgt := 138) hx hb_ dX12_isCrossed_134 (by decide) ?_
                      refine lv_istore (lv' := [(7, .int 1), (6, .int 0), (0, .ref (ad 17)), (1, .int (nI n_)), (2, .int iA), (3, .int (if nI (P.idxOf jA) < nI (P.idxOf (jA + 1)) then nI (P.idxOf jA) else nI (P.idxOf (jA + 1)))), (4, .int (nI (P.idxOf jA) + nI (P.idxOf (jA + 1)) - (if nI (P.idxOf jA) < nI (P.idxOf (jA + 1)) then nI (P.idxOf jA) else nI (P.idxOf (jA + 1))))), (5, .int iB)]) hx hb_ dX12_isCrossed_138 hl (by decide) rfl (fun ls hl => ?_)
                      have h6 : xin P jA jB = false := (decide_eq_false (fun q_ => absurd (hm0.2 q_).1 (by rw [zx_le] at c_84; rw [zx_lt]; omega)))
                      have h7 : xin P jA (jB + 1) = true := (decide_eq_true (hm1.1 ⟨Classical.byContradiction (fun q_ => c_116 (by rw [zx_le]; rw [zx_lt] at q_; omega)), Classical.byContradiction (fun q_ => c_130 (by rw [zx_le]; rw [zx_lt] at q_; omega))⟩))
                      refine lv_iload hx hb_ dX12_isCrossed_140 (lv_at hl 1 rfl) ?_
                      refine lv_iload hx hb_ dX12_isCrossed_142 (lv_at hl 0 rfl) ?_
                      refine lv_icmp_eq (tgt := 149) hx hb_ dX12_isCrossed_144 (by decide) (fun c_144 => absurd c_144 (by decide)) (fun _ => ?_)
                      refine lv_iconst (v := 1) hx hb_ dX12_isCrossed_147 (by decide) ?_
                      exact z_iretQ (ρ1 := fun _ => 0) (ty := .boolean) (v := 1) hcf hr rfl hlk hw (⟨_, rfl, (if_neg (fun q_ => by have z_ := okB_iff.mp q_ jA (by omega) tB (by omega); rw [show jA + 3 + 2 * tB = jB + 1 by omega, ← ejB, h6, h7] at z_; exact absurd z_ (by decide))).symm, rfl⟩) dX12_isCrossed_148
                · refine lv_aload_n hx hb_ dX12_isCrossed_87 rfl (lv_at hl 0 rfl) ?_
                  refine g_at hM hTy hw dX12_isCrossed_88 ?_
                  refine lv_iload hx hb_ dX12_isCrossed_91 (lv_at hl 5 rfl) ?_
                  refine z_iald (n := 8) hcf hK_ hw cat.1 cat.2.2.1 catN (by rw [eiB]; exact vp_in_nI (by omega) (by decide)) dX12_isCrossed_93 ?_
                  refine z_topi (y := (nI (P.idxOf jB))) (by rw [(show iB.toNatClampNeg = jB by rw [eiB]; exact nI_clamp (by omega))]; exact hat jB (by omega)) ?_
                  refine lv_iload hx hb_ dX12_isCrossed_94 (lv_at hl 4 rfl) ?_
                  refine lv_icmp_ge (tgt := 103) hx hb_ dX12_isCrossed_96 (by decide) (fun c_96 => ?_) (fun c_96 => ?_)
                  · refine lv_iconst (v := 0) hx hb_ dX12_isCrossed_103 (by decide) ?_
                    refine lv_istore (lv' := [(6, .int 0), (0, .ref (ad 17)), (1, .int (nI n_)), (2, .int iA), (3, .int (if nI (P.idxOf jA) < nI (P.idxOf (jA + 1)) then nI (P.idxOf jA) else nI (P.idxOf (jA + 1)))), (4, .int (nI (P.idxOf jA) + nI (P.idxOf (jA + 1)) - (if nI (P.idxOf jA) < nI (P.idxOf (jA + 1)) then nI (P.idxOf jA) else nI (P.idxOf (jA + 1))))), (5, .int iB)]) hx hb_ dX12_isCrossed_104 hl (by decide) rfl (fun ls hl => ?_)
                    refine lv_aload_n hx hb_ dX12_isCrossed_106 rfl (lv_at hl 1 rfl) ?_
                    refine g_at hM hTy hw dX12_isCrossed_107 ?_
                    refine lv_iload hx hb_ dX12_isCrossed_110 (lv_at hl 6 rfl) ?_
                    refine lv_iconst (v := 1) hx hb_ dX12_isCrossed_112 (by decide) ?_
                    refine lv_iadd hx hb_ dX12_isCrossed_113 ?_
                    refine z_iald (n := 8) hcf hK_ hw cat.1 cat.2.2.1 catN (by rw [eiB, nI_1]; exact vp_in_nI (by omega) (by decide)) dX12_isCrossed_114 ?_
                    refine z_topi (y := (nI (P.idxOf (jB + 1)))) (by rw [(show (iB + 1).toNatClampNeg = (jB + 1) by rw [eiB, nI_1]; exact nI_clamp (by omega))]; exact hat (jB + 1) (by omega)) ?_
                    refine lv_iload_n hx hb_ dX12_isCrossed_115 rfl (lv_at hl 4 rfl) ?_
                    refine lv_icmp_le (tgt := 137) hx hb_ dX12_isCrossed_116 (by decide) (fun c_116 => ?_) (fun c_116 => ?_)
                    · refine lv_iconst (v := 0) hx hb_ dX12_isCrossed_137 (by decide) ?_
                      refine lv_istore (lv' := [(7, .int 0), (6, .int 0), (0, .ref (ad 17)), (1, .int (nI n_)), (2, .int iA), (3, .int (if nI (P.idxOf jA) < nI (P.idxOf (jA + 1)) then nI (P.idxOf jA) else nI (P.idxOf (jA + 1)))), (4, .int (nI (P.idxOf jA) + nI (P.idxOf (jA + 1)) - (if nI (P.idxOf jA) < nI (P.idxOf (jA + 1)) then nI (P.idxOf jA) else nI (P.idxOf (jA + 1))))), (5, .int iB)]) hx hb_ dX12_isCrossed_138 hl (by decide) rfl (fun ls hl => ?_)
                      have h6 : xin P jA jB = false := (decide_eq_false (fun q_ => absurd (hm0.2 q_).2 (by rw [zx_le] at c_96; rw [zx_lt]; omega)))
                      have h7 : xin P jA (jB + 1) = false := (decide_eq_false (fun q_ => absurd (hm1.2 q_).1 (by rw [zx_le] at c_116; rw [zx_lt]; omega)))
                      have hone : xin P jA (jA + 2 + 2 * tB) = xin P jA (jA + 3 + 2 * tB) := by rw [show jA + 3 + 2 * tB = jB + 1 by omega, ← ejB, h6, h7]
                      refine lv_iload hx hb_ dX12_isCrossed_140 (lv_at hl 1 rfl) ?_
                      refine lv_iload hx hb_ dX12_isCrossed_142 (lv_at hl 0 rfl) ?_
                      refine lv_icmp_eq (tgt := 149) hx hb_ dX12_isCrossed_144 (by decide) (fun _ => ?_) (fun c_144 => absurd c_144 (by decide))
                      obtain ⟨i3, ei3⟩ : ∃ y_ : Int32, y_ = iB + 2 := ⟨_, rfl⟩
                      refine lv_iinc (v := i3) (lv' := [(5, .int i3), (7, .int 0), (6, .int 0), (0, .ref (ad 17)), (1, .int (nI n_)), (2, .int iA), (3, .int (if nI (P.idxOf jA) < nI (P.idxOf (jA + 1)) then nI (P.idxOf jA) else nI (P.idxOf (jA + 1)))), (4, .int (nI (P.idxOf jA) + nI (P.idxOf (jA + 1)) - (if nI (P.idxOf jA) < nI (P.idxOf (jA + 1)) then nI (P.idxOf jA) else nI (P.idxOf (jA + 1)))))]) hx hb_ dX12_isCrossed_149 hl (k := 7) rfl (by rw [ei3]; rfl) (by decide) rfl (fun ls hl => ?_)
                      refine lv_goto (tgt := 68) hx hb_ dX12_isCrossed_152 (by decide) ?_
                      exact ihB (tB + 1) i3 (by rw [ei3, eiB, show (2 : Int32) = nI 2 from rfl, nI_add]; congr 1; omega) (by omega) (by omega) (fun t_ ht => (Nat.lt_or_ge t_ tB).elim (fun q_ => hin t_ q_) (fun q_ => by have e_ := (show t_ = tB by omega); subst e_; exact hone)) _ _ hw ls (lv_sub hl [3, 4, 5, 6, 7, 0] rfl)
                    · refine lv_aload_n hx hb_ dX12_isCrossed_119 rfl (lv_at hl 1 rfl) ?_
                      refine g_at hM hTy hw dX12_isCrossed_120 ?_
                      refine lv_iload hx hb_ dX12_isCrossed_123 (lv_at hl 6 rfl) ?_
                      refine lv_iconst (v := 1) hx hb_ dX12_isCrossed_125 (by decide) ?_
                      refine lv_iadd hx hb_ dX12_isCrossed_126 ?_
                      refine z_iald (n := 8) hcf hK_ hw cat.1 cat.2.2.1 catN (by rw [eiB, nI_1]; exact vp_in_nI (by omega) (by decide)) dX12_isCrossed_127 ?_
                      refine z_topi (y := (nI (P.idxOf (jB + 1)))) (by rw [(show (iB + 1).toNatClampNeg = (jB + 1) by rw [eiB, nI_1]; exact nI_clamp (by omega))]; exact hat (jB + 1) (by omega)) ?_
                      refine lv_iload hx hb_ dX12_isCrossed_128 (lv_at hl 5 rfl) ?_
                      refine lv_icmp_ge (tgt := 137) hx hb_ dX12_isCrossed_130 (by decide) (fun c_130 => ?_) (fun c_130 => ?_)
                      · refine lv_iconst (v := 0) hx hb_ dX12_isCrossed_137 (by decide) ?_
                        refine lv_istore (lv' := [(7, .int 0), (6, .int 0), (0, .ref (ad 17)), (1, .int (nI n_)), (2, .int iA), (3, .int (if nI (P.idxOf jA) < nI (P.idxOf (jA + 1)) then nI (P.idxOf jA) else nI (P.idxOf (jA + 1)))), (4, .int (nI (P.idxOf jA) + nI (P.idxOf (jA + 1)) - (if nI (P.idxOf jA) < nI (P.idxOf (jA + 1)) then nI (P.idxOf jA) else nI (P.idxOf (jA + 1))))), (5, .int iB)]) hx hb_ dX12_isCrossed_138 hl (by decide) rfl (fun ls hl => ?_)
                        have h6 : xin P jA jB = false := (decide_eq_false (fun q_ => absurd (hm0.2 q_).2 (by rw [zx_le] at c_96; rw [zx_lt]; omega)))
                        have h7 : xin P jA (jB + 1) = false := (decide_eq_false (fun q_ => absurd (hm1.2 q_).2 (by rw [zx_le] at c_130; rw [zx_lt]; omega)))
                        have hone : xin P jA (jA + 2 + 2 * tB) = xin P jA (jA + 3 + 2 * tB) := by rw [show jA + 3 + 2 * tB = jB + 1 by omega, ← ejB, h6, h7]
                        refine lv_iload hx hb_ dX12_isCrossed_140 (lv_at hl 1 rfl) ?_
                        refine lv_iload hx hb_ dX12_isCrossed_142 (lv_at hl 0 rfl) ?_
                        refine lv_icmp_eq (tgt := 149) hx hb_ dX12_isCrossed_144 (by decide) (fun _ => ?_) (fun c_144 => absurd c_144 (by decide))
                        obtain ⟨i3, ei3⟩ : ∃ y_ : Int32, y_ = iB + 2 := ⟨_, rfl⟩
                        refine lv_iinc (v := i3) (lv' := [(5, .int i3), (7, .int 0), (6, .int 0), (0, .ref (ad 17)), (1, .int (nI n_)), (2, .int iA), (3, .int (if nI (P.idxOf jA) < nI (P.idxOf (jA + 1)) then nI (P.idxOf jA) else nI (P.idxOf (jA + 1)))), (4, .int (nI (P.idxOf jA) + nI (P.idxOf (jA + 1)) - (if nI (P.idxOf jA) < nI (P.idxOf (jA + 1)) then nI (P.idxOf jA) else nI (P.idxOf (jA + 1)))))]) hx hb_ dX12_isCrossed_149 hl (k := 7) rfl (by rw [ei3]; rfl) (by decide) rfl (fun ls hl => ?_)
                        refine lv_goto (tgt := 68) hx hb_ dX12_isCrossed_152 (by decide) ?_
                        exact ihB (tB + 1) i3 (by rw [ei3, eiB, show (2 : Int32) = nI 2 from rfl, nI_add]; congr 1; omega) (by omega) (by omega) (fun t_ ht => (Nat.lt_or_ge t_ tB).elim (fun q_ => hin t_ q_) (fun q_ => by have e_ := (show t_ = tB by omega); subst e_; exact hone)) _ _ hw ls (lv_sub hl [3, 4, 5, 6, 7, 0] rfl)
                      · refine lv_iconst (v := 1) hx hb_ dX12_isCrossed_133 (by decide) ?_
                        refine lv_goto (tgt := 138) hx hb_ dX12_isCrossed_134 (by decide) ?_
                        refine lv_istore (lv' := [(7, .int 1), (6, .int 0), (0, .ref (ad 17)), (1, .int (nI n_)), (2, .int iA), (3, .int (if nI (P.idxOf jA) < nI (P.idxOf (jA + 1)) then nI (P.idxOf jA) else nI (P.idxOf (jA + 1)))), (4, .int (nI (P.idxOf jA) + nI (P.idxOf (jA + 1)) - (if nI (P.idxOf jA) < nI (P.idxOf (jA + 1)) then nI (P.idxOf jA) else nI (P.idxOf (jA + 1))))), (5, .int iB)]) hx hb_ dX12_isCrossed_138 hl (by decide) rfl (fun ls hl => ?_)
                        have h6 : xin P jA jB = false := (decide_eq_false (fun q_ => absurd (hm0.2 q_).2 (by rw [zx_le] at c_96; rw [zx_lt]; omega)))
                        have h7 : xin P jA (jB + 1) = true := (decide_eq_true (hm1.1 ⟨Classical.byContradiction (fun q_ => c_116 (by rw [zx_le]; rw [zx_lt] at q_; omega)), Classical.byContradiction (fun q_ => c_130 (by rw [zx_le]; rw [zx_lt] at q_; omega))⟩))
                        refine lv_iload hx hb_ dX12_isCrossed_140 (lv_at hl 1 rfl) ?_
                        refine lv_iload hx hb_ dX12_isCrossed_142 (lv_at hl 0 rfl) ?_
                        refine lv_icmp_eq (tgt := 149) hx hb_ dX12_isCrossed_144 (by decide) (fun c_144 => absurd c_144 (by decide)) (fun _ => ?_)
                        refine lv_iconst (v := 1) hx hb_ dX12_isCrossed_147 (by decide) ?_
                        exact z_iretQ (ρ1 := fun _ => 0) (ty := .boolean) (v := 1) hcf hr rfl hlk hw (⟨_, rfl, (if_neg (fun q_ => by have z_ := okB_iff.mp q_ jA (by omega) tB (by omega); rw [show jA + 3 + 2 * tB = jB + 1 by omega, ← ejB, h6, h7] at z_; exact absurd z_ (by decide))).symm, rfl⟩) dX12_isCrossed_148
                  · refine lv_iconst (v := 1) hx hb_ dX12_isCrossed_99 (by decide) ?_
                    refine lv_goto (tgt := 104) hx hb_ dX12_isCrossed_100 (by decide) ?_
                    refine lv_istore (lv' := [(6, .int 1), (0, .ref (ad 17)), (1, .int (nI n_)), (2, .int iA), (3, .int (if nI (P.idxOf jA) < nI (P.idxOf (jA + 1)) then nI (P.idxOf jA) else nI (P.idxOf (jA + 1)))), (4, .int (nI (P.idxOf jA) + nI (P.idxOf (jA + 1)) - (if nI (P.idxOf jA) < nI (P.idxOf (jA + 1)) then nI (P.idxOf jA) else nI (P.idxOf (jA + 1))))), (5, .int iB)]) hx hb_ dX12_isCrossed_104 hl (by decide) rfl (fun ls hl => ?_)
                    refine lv_aload_n hx hb_ dX12_isCrossed_106 rfl (lv_at hl 1 rfl) ?_
                    refine g_at hM hTy hw dX12_isCrossed_107 ?_
                    refine lv_iload hx hb_ dX12_isCrossed_110 (lv_at hl 6 rfl) ?_
                    refine lv_iconst (v := 1) hx hb_ dX12_isCrossed_112 (by decide) ?_
                    refine lv_iadd hx hb_ dX12_isCrossed_113 ?_
                    refine z_iald (n := 8) hcf hK_ hw cat.1 cat.2.2.1 catN (by rw [eiB, nI_1]; exact vp_in_nI (by omega) (by decide)) dX12_isCrossed_114 ?_
                    refine z_topi (y := (nI (P.idxOf (jB + 1)))) (by rw [(show (iB + 1).toNatClampNeg = (jB + 1) by rw [eiB, nI_1]; exact nI_clamp (by omega))]; exact hat (jB + 1) (by omega)) ?_
                    refine lv_iload_n hx hb_ dX12_isCrossed_115 rfl (lv_at hl 4 rfl) ?_
                    refine lv_icmp_le (tgt := 137) hx hb_ dX12_isCrossed_116 (by decide) (fun c_116 => ?_) (fun c_116 => ?_)
                    · refine lv_iconst (v := 0) hx hb_ dX12_isCrossed_137 (by decide) ?_
                      refine lv_istore (lv' := [(7, .int 0), (6, .int 1), (0, .ref (ad 17)), (1, .int (nI n_)), (2, .int iA), (3, .int (if nI (P.idxOf jA) < nI (P.idxOf (jA + 1)) then nI (P.idxOf jA) else nI (P.idxOf (jA + 1)))), (4, .int (nI (P.idxOf jA) + nI (P.idxOf (jA + 1)) - (if nI (P.idxOf jA) < nI (P.idxOf (jA + 1)) then nI (P.idxOf jA) else nI (P.idxOf (jA + 1))))), (5, .int iB)]) hx hb_ dX12_isCrossed_138 hl (by decide) rfl (fun ls hl => ?_)
                      have h6 : xin P jA jB = true := (decide_eq_true (hm0.1 ⟨Classical.byContradiction (fun q_ => c_84 (by rw [zx_le]; rw [zx_lt] at q_; omega)), Classical.byContradiction (fun q_ => c_96 (by rw [zx_le]; rw [zx_lt] at q_; omega))⟩))
                      have h7 : xin P jA (jB + 1) = false := (decide_eq_false (fun q_ => absurd (hm1.2 q_).1 (by rw [zx_le] at c_116; rw [zx_lt]; omega)))
                      refine lv_iload hx hb_ dX12_isCrossed_140 (lv_at hl 1 rfl) ?_
                      refine lv_iload hx hb_ dX12_isCrossed_142 (lv_at hl 0 rfl) ?_
                      refine lv_icmp_eq (tgt := 149) hx hb_ dX12_isCrossed_144 (by decide) (fun c_144 => absurd c_144 (by decide)) (fun _ => ?_)
                      refine lv_iconst (v := 1) hx hb_ dX12_isCrossed_147 (by decide) ?_
                      exact z_iretQ (ρ1 := fun _ => 0) (ty := .boolean) (v := 1) hcf hr rfl hlk hw (⟨_, rfl, (if_neg (fun q_ => by have z_ := okB_iff.mp q_ jA (by omega) tB (by omega); rw [show jA + 3 + 2 * tB = jB + 1 by omega, ← ejB, h6, h7] at z_; exact absurd z_ (by decide))).symm, rfl⟩) dX12_isCrossed_148
                    · refine lv_aload_n hx hb_ dX12_isCrossed_119 rfl (lv_at hl 1 rfl) ?_
                      refine g_at hM hTy hw dX12_isCrossed_120 ?_
                      refine lv_iload hx hb_ dX12_isCrossed_123 (lv_at hl 6 rfl) ?_
                      refine lv_iconst (v := 1) hx hb_ dX12_isCrossed_125 (by decide) ?_
                      refine lv_iadd hx hb_ dX12_isCrossed_126 ?_
                      refine z_iald (n := 8) hcf hK_ hw cat.1 cat.2.2.1 catN (by rw [eiB, nI_1]; exact vp_in_nI (by omega) (by decide)) dX12_isCrossed_127 ?_
                      refine z_topi (y := (nI (P.idxOf (jB + 1)))) (by rw [(show (iB + 1).toNatClampNeg = (jB + 1) by rw [eiB, nI_1]; exact nI_clamp (by omega))]; exact hat (jB + 1) (by omega)) ?_
                      refine lv_iload hx hb_ dX12_isCrossed_128 (lv_at hl 5 rfl) ?_
                      refine lv_icmp_ge (tgt := 137) hx hb_ dX12_isCrossed_130 (by decide) (fun c_130 => ?_) (fun c_130 => ?_)
                      · refine lv_iconst (v := 0) hx hb_ dX12_isCrossed_137 (by decide) ?_
                        refine lv_istore (lv' := [(7, .int 0), (6, .int 1), (0, .ref (ad 17)), (1, .int (nI n_)), (2, .int iA), (3, .int (if nI (P.idxOf jA) < nI (P.idxOf (jA + 1)) then nI (P.idxOf jA) else nI (P.idxOf (jA + 1)))), (4, .int (nI (P.idxOf jA) + nI (P.idxOf (jA + 1)) - (if nI (P.idxOf jA) < nI (P.idxOf (jA + 1)) then nI (P.idxOf jA) else nI (P.idxOf (jA + 1))))), (5, .int iB)]) hx hb_ dX12_isCrossed_138 hl (by decide) rfl (fun ls hl => ?_)
                        have h6 : xin P jA jB = true := (decide_eq_true (hm0.1 ⟨Classical.byContradiction (fun q_ => c_84 (by rw [zx_le]; rw [zx_lt] at q_; omega)), Classical.byContradiction (fun q_ => c_96 (by rw [zx_le]; rw [zx_lt] at q_; omega))⟩))
                        have h7 : xin P jA (jB + 1) = false := (decide_eq_false (fun q_ => absurd (hm1.2 q_).2 (by rw [zx_le] at c_130; rw [zx_lt]; omega)))
                        refine lv_iload hx hb_ dX12_isCrossed_140 (lv_at hl 1 rfl) ?_
                        refine lv_iload hx hb_ dX12_isCrossed_142 (lv_at hl 0 rfl) ?_
                        refine lv_icmp_eq (tgt := 149) hx hb_ dX12_isCrossed_144 (by decide) (fun c_144 => absurd c_144 (by decide)) (fun _ => ?_)
                        refine lv_iconst (v := 1) hx hb_ dX12_isCrossed_147 (by decide) ?_
                        exact z_iretQ (ρ1 := fun _ => 0) (ty := .boolean) (v := 1) hcf hr rfl hlk hw (⟨_, rfl, (if_neg (fun q_ => by have z_ := okB_iff.mp q_ jA (by omega) tB (by omega); rw [show jA + 3 + 2 * tB = jB + 1 by omega, ← ejB, h6, h7] at z_; exact absurd z_ (by decide))).symm, rfl⟩) dX12_isCrossed_148
                      · refine lv_iconst (v := 1) hx hb_ dX12_isCrossed_133 (by decide) ?_
                        refine lv_goto (tgt := 138) hx hb_ dX12_isCrossed_134 (by decide) ?_
                        refine lv_istore (lv' := [(7, .int 1), (6, .int 1), (0, .ref (ad 17)), (1, .int (nI n_)), (2, .int iA), (3, .int (if nI (P.idxOf jA) < nI (P.idxOf (jA + 1)) then nI (P.idxOf jA) else nI (P.idxOf (jA + 1)))), (4, .int (nI (P.idxOf jA) + nI (P.idxOf (jA + 1)) - (if nI (P.idxOf jA) < nI (P.idxOf (jA + 1)) then nI (P.idxOf jA) else nI (P.idxOf (jA + 1))))), (5, .int iB)]) hx hb_ dX12_isCrossed_138 hl (by decide) rfl (fun ls hl => ?_)
                        have h6 : xin P jA jB = true := (decide_eq_true (hm0.1 ⟨Classical.byContradiction (fun q_ => c_84 (by rw [zx_le]; rw [zx_lt] at q_; omega)), Classical.byContradiction (fun q_ => c_96 (by rw [zx_le]; rw [zx_lt] at q_; omega))⟩))
                        have h7 : xin P jA (jB + 1) = true := (decide_eq_true (hm1.1 ⟨Classical.byContradiction (fun q_ => c_116 (by rw [zx_le]; rw [zx_lt] at q_; omega)), Classical.byContradiction (fun q_ => c_130 (by rw [zx_le]; rw [zx_lt] at q_; omega))⟩))
                        have hone : xin P jA (jA + 2 + 2 * tB) = xin P jA (jA + 3 + 2 * tB) := by rw [show jA + 3 + 2 * tB = jB + 1 by omega, ← ejB, h6, h7]
                        refine lv_iload hx hb_ dX12_isCrossed_140 (lv_at hl 1 rfl) ?_
                        refine lv_iload hx hb_ dX12_isCrossed_142 (lv_at hl 0 rfl) ?_
                        refine lv_icmp_eq (tgt := 149) hx hb_ dX12_isCrossed_144 (by decide) (fun _ => ?_) (fun c_144 => absurd c_144 (by decide))
                        obtain ⟨i3, ei3⟩ : ∃ y_ : Int32, y_ = iB + 2 := ⟨_, rfl⟩
                        refine lv_iinc (v := i3) (lv' := [(5, .int i3), (7, .int 1), (6, .int 1), (0, .ref (ad 17)), (1, .int (nI n_)), (2, .int iA), (3, .int (if nI (P.idxOf jA) < nI (P.idxOf (jA + 1)) then nI (P.idxOf jA) else nI (P.idxOf (jA + 1)))), (4, .int (nI (P.idxOf jA) + nI (P.idxOf (jA + 1)) - (if nI (P.idxOf jA) < nI (P.idxOf (jA + 1)) then nI (P.idxOf jA) else nI (P.idxOf (jA + 1)))))]) hx hb_ dX12_isCrossed_149 hl (k := 7) rfl (by rw [ei3]; rfl) (by decide) rfl (fun ls hl => ?_)
                        refine lv_goto (tgt := 68) hx hb_ dX12_isCrossed_152 (by decide) ?_
                        exact ihB (tB + 1) i3 (by rw [ei3, eiB, show (2 : Int32) = nI 2 from rfl, nI_add]; congr 1; omega) (by omega) (by omega) (fun t_ ht => (Nat.lt_or_ge t_ tB).elim (fun q_ => hin t_ q_) (fun q_ => by have e_ := (show t_ = tB by omega); subst e_; exact hone)) _ _ hw ls (lv_sub hl [3, 4, 5, 6, 7, 0] rfl)
          exact JB (n_ + 1) 0 _ (by rw [eiA, show (2 : Int32) = nI 2 from rfl, nI_add]) (Nat.zero_le _) (by omega) (fun t_ ht => absurd ht (Nat.not_lt_zero t_)) _ _ hw ls (lv_sub hl [3, 4, 5, 2, 1, 0] rfl)
  exact JA (n_ + 1) 0 0 nI_0.symm (Nat.zero_le _) (by omega) (fun i_ hi_ => absurd hi_ (Nat.not_lt_zero i_)) _ _ hw ls (lv_sub hl [1, 2, 0] rfl)
