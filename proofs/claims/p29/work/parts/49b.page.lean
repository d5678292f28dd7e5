/-! by hand: pages, by f and place alone -/
theorem zx_of {x : Int32} {a b : Nat} (h1 : ¬ x < nI a) (h2 : x ≤ nI b) (hb : b < 2 ^ 31) (hab : a < 2 ^ 31) : ∃ j : Nat, a ≤ j ∧ j ≤ b ∧ x = nI j := by
  rw [zx_lt, nI_toInt hab] at h1; rw [zx_le, nI_toInt hb] at h2
  obtain ⟨j, hj, e⟩ := nI_of (x := x) (by rw [zx_lt]; show ¬ x.toInt < 0; omega)
  have := nI_toInt hj
  rw [← e] at this
  exact ⟨j, by omega, by omega, e⟩
theorem shl1 : ∀ f, f < 11 → (1 : Int32) <<< (nI f &&& 31) = nI (2 ^ f) := by decide +kernel
theorem zx_n0 {x : Int32} (h : 0 ≤ x) : ¬ x < 0 := by rw [zx_le] at h; rw [zx_lt]; omega
theorem q_page_out {f p : Int32} {f0 : Nat} (h1 : ¬ p < 0) (h3 : ¬ f < 1) (h4 : f ≤ 6) (ef : f = nI f0) (h5 : f0 ≤ 6) (h : ¬ p < nI (2 ^ f0)) : q_page f p = -5 := by
  have : f.toNatClampNeg = f0 := by rw [ef]; exact nI_clamp (by omega)
  unfold q_page
  rw [if_neg h1, if_neg (by simp [h3, h4]), this, if_neg h]
theorem q_page_in {f p : Int32} {f0 : Nat} (h1 : ¬ p < 0) (h3 : ¬ f < 1) (h4 : f ≤ 6) (ef : f = nI f0) (h5 : f0 ≤ 6) (h : p < nI (2 ^ f0)) : q_page f p = cPg f0 (0, 1, p) := by
  have : f.toNatClampNeg = f0 := by rw [ef]; exact nI_clamp (by omega)
  unfold q_page
  rw [if_neg h1, if_neg (by simp [h3, h4]), this, if_pos h]
def hlf : Nat → Int32
  | 0 => 0
  | k + 1 => nI (2 ^ k)
theorem hlf_s : ∀ k, k < 6 → nI (2 ^ k) >>> ((1 : Int32) &&& 31) = hlf k := by decide +kernel
theorem hlf_0 : ∀ f, f < 7 → 1 ≤ f → (1 : Int32) <<< ((nI f - 1) &&& 31) = hlf f := by decide +kernel
theorem p2_lt {k : Nat} (h : k < 31) : 2 ^ k < 2 ^ 31 := Nat.pow_lt_pow_right (by decide) h
def stp (z d : Int32) (q : Int32 × Int32) : Int32 × Int32 := if q.1 < z / 2 then (q.1, q.2 + d) else (z - 1 - q.1, d - 1 - q.2)
def mC (f : Nat) (i : Nat) : Nat → Int32 × Int32
  | 0 => (nI i, 0)
  | t + 1 => stp (nI (2 ^ (f - t))) (nI (2 ^ t)) (mC f i t)
def mFd (f : Nat) (p : Int32) : Nat → Int32
  | 0 => -1
  | k + 1 => if (mC f k f).2 = p then nI k else mFd f p k
theorem mFd_a : ∀ f, f < 5 → ∀ p, p < 2 ^ f → 1 ≤ f → mFd f (nI p) (2 ^ f) = cPg f (0, 1, nI p) := by decide +kernel
theorem mFd_5 : ∀ p, p < 32 → mFd 5 (nI p) 32 = cPg 5 (0, 1, nI p) := by decide +kernel
theorem mFd_6a : ∀ p, p < 32 → mFd 6 (nI p) 64 = cPg 6 (0, 1, nI p) := by decide +kernel
theorem mFd_6b : ∀ p, p < 32 → mFd 6 (nI (32 + p)) 64 = cPg 6 (0, 1, nI (32 + p)) := by decide +kernel
theorem mFd_all {f p : Nat} (h1 : 1 ≤ f) (hf : f ≤ 6) (hp : p < 2 ^ f) : mFd f (nI p) (2 ^ f) = cPg f (0, 1, nI p) := by
  rcases (show f < 5 ∨ f = 5 ∨ f = 6 by omega) with q | rfl | rfl
  · exact mFd_a f q p hp h1
  · exact mFd_5 p hp
  · rcases Nat.lt_or_ge p 32 with q | q
    · exact mFd_6a p q
    · have hp : p < 64 := hp
      have := mFd_6b (p - 32) (by omega)
      rwa [show 32 + (p - 32) = p by omega] at this
theorem dv2 : ∀ u, u < 6 → nI (2 ^ (u + 1)) / 2 = nI (2 ^ u) := by decide +kernel
theorem ml2 : ∀ t, t < 6 → nI (2 ^ t) * 2 = nI (2 ^ (t + 1)) := by decide +kernel
theorem dX11_page_0 : decode cX11_page 0 = .ok (.iload_n 2, 1) := by decide +kernel
theorem dX11_page_1 : decode cX11_page 1 = .ok (.ifCond .ge 10, 3) := by decide +kernel
theorem dX11_page_4 : decode cX11_page 4 = .ok (.aload_n 0, 1) := by decide +kernel
theorem dX11_page_5 : decode cX11_page 5 = .ok (.bipush (-5), 2) := by decide +kernel
theorem dX11_page_7 : decode cX11_page 7 = .ok (.invokevirtual 65, 3) := by decide +kernel
theorem dX11_page_10 : decode cX11_page 10 = .ok (.ireturn, 1) := by decide +kernel
theorem dX11_page_11 : decode cX11_page 11 = .ok (.iload_n 1, 1) := by decide +kernel
theorem dX11_page_12 : decode cX11_page 12 = .ok (.iconst 1, 1) := by decide +kernel
theorem dX11_page_13 : decode cX11_page 13 = .ok (.if_icmp .lt 9, 3) := by decide +kernel
theorem dX11_page_16 : decode cX11_page 16 = .ok (.iload_n 1, 1) := by decide +kernel
theorem dX11_page_17 : decode cX11_page 17 = .ok (.bipush 6, 2) := by decide +kernel
theorem dX11_page_19 : decode cX11_page 19 = .ok (.if_icmp .le 10, 3) := by decide +kernel
theorem dX11_page_22 : decode cX11_page 22 = .ok (.aload_n 0, 1) := by decide +kernel
theorem dX11_page_23 : decode cX11_page 23 = .ok (.bipush (-6), 2) := by decide +kernel
theorem dX11_page_25 : decode cX11_page 25 = .ok (.invokevirtual 65, 3) := by decide +kernel
theorem dX11_page_28 : decode cX11_page 28 = .ok (.ireturn, 1) := by decide +kernel
theorem dX11_page_29 : decode cX11_page 29 = .ok (.iload_n 2, 1) := by decide +kernel
theorem dX11_page_30 : decode cX11_page 30 = .ok (.iconst 1, 1) := by decide +kernel
theorem dX11_page_31 : decode cX11_page 31 = .ok (.iload_n 1, 1) := by decide +kernel
theorem dX11_page_32 : decode cX11_page 32 = .ok (.ishl, 1) := by decide +kernel
theorem dX11_page_33 : decode cX11_page 33 = .ok (.if_icmp .lt 10, 3) := by decide +kernel
theorem dX11_page_36 : decode cX11_page 36 = .ok (.aload_n 0, 1) := by decide +kernel
theorem dX11_page_37 : decode cX11_page 37 = .ok (.bipush (-5), 2) := by decide +kernel
theorem dX11_page_39 : decode cX11_page 39 = .ok (.invokevirtual 65, 3) := by decide +kernel
theorem dX11_page_42 : decode cX11_page 42 = .ok (.ireturn, 1) := by decide +kernel
theorem dX11_page_43 : decode cX11_page 43 = .ok (.iconst 0, 1) := by decide +kernel
theorem dX11_page_44 : decode cX11_page 44 = .ok (.istore_n 3, 1) := by decide +kernel
theorem dX11_page_45 : decode cX11_page 45 = .ok (.iconst 1, 1) := by decide +kernel
theorem dX11_page_46 : decode cX11_page 46 = .ok (.istore 4, 2) := by decide +kernel
theorem dX11_page_48 : decode cX11_page 48 = .ok (.iload_n 2, 1) := by decide +kernel
theorem dX11_page_49 : decode cX11_page 49 = .ok (.istore 5, 2) := by decide +kernel
theorem dX11_page_51 : decode cX11_page 51 = .ok (.iconst 1, 1) := by decide +kernel
theorem dX11_page_52 : decode cX11_page 52 = .ok (.iload_n 1, 1) := by decide +kernel
theorem dX11_page_53 : decode cX11_page 53 = .ok (.iconst 1, 1) := by decide +kernel
theorem dX11_page_54 : decode cX11_page 54 = .ok (.isub, 1) := by decide +kernel
theorem dX11_page_55 : decode cX11_page 55 = .ok (.ishl, 1) := by decide +kernel
theorem dX11_page_56 : decode cX11_page 56 = .ok (.istore 6, 2) := by decide +kernel
theorem dX11_page_58 : decode cX11_page 58 = .ok (.iload 6, 2) := by decide +kernel
theorem dX11_page_60 : decode cX11_page 60 = .ok (.ifCond .le 51, 3) := by decide +kernel
theorem dX11_page_63 : decode cX11_page 63 = .ok (.iload 4, 2) := by decide +kernel
theorem dX11_page_65 : decode cX11_page 65 = .ok (.iconst 2, 1) := by decide +kernel
theorem dX11_page_66 : decode cX11_page 66 = .ok (.imul, 1) := by decide +kernel
theorem dX11_page_67 : decode cX11_page 67 = .ok (.istore 4, 2) := by decide +kernel
theorem dX11_page_69 : decode cX11_page 69 = .ok (.iload 5, 2) := by decide +kernel
theorem dX11_page_71 : decode cX11_page 71 = .ok (.iload 6, 2) := by decide +kernel
theorem dX11_page_73 : decode cX11_page 73 = .ok (.if_icmp .ge 22, 3) := by decide +kernel
theorem dX11_page_76 : decode cX11_page 76 = .ok (.iload 4, 2) := by decide +kernel
theorem dX11_page_78 : decode cX11_page 78 = .ok (.iconst 1, 1) := by decide +kernel
theorem dX11_page_79 : decode cX11_page 79 = .ok (.isub, 1) := by decide +kernel
theorem dX11_page_80 : decode cX11_page 80 = .ok (.iload_n 3, 1) := by decide +kernel
theorem dX11_page_81 : decode cX11_page 81 = .ok (.isub, 1) := by decide +kernel
theorem dX11_page_82 : decode cX11_page 82 = .ok (.istore_n 3, 1) := by decide +kernel
theorem dX11_page_83 : decode cX11_page 83 = .ok (.iload 6, 2) := by decide +kernel
theorem dX11_page_85 : decode cX11_page 85 = .ok (.iconst 1, 1) := by decide +kernel
theorem dX11_page_86 : decode cX11_page 86 = .ok (.isub, 1) := by decide +kernel
theorem dX11_page_87 : decode cX11_page 87 = .ok (.iload 5, 2) := by decide +kernel
theorem dX11_page_89 : decode cX11_page 89 = .ok (.isub, 1) := by decide +kernel
theorem dX11_page_90 : decode cX11_page 90 = .ok (.istore 5, 2) := by decide +kernel
theorem dX11_page_92 : decode cX11_page 92 = .ok (.goto 10, 3) := by decide +kernel
theorem dX11_page_95 : decode cX11_page 95 = .ok (.iload 5, 2) := by decide +kernel
theorem dX11_page_97 : decode cX11_page 97 = .ok (.iload 6, 2) := by decide +kernel
theorem dX11_page_99 : decode cX11_page 99 = .ok (.isub, 1) := by decide +kernel
theorem dX11_page_100 : decode cX11_page 100 = .ok (.istore 5, 2) := by decide +kernel
theorem dX11_page_102 : decode cX11_page 102 = .ok (.iload 6, 2) := by decide +kernel
theorem dX11_page_104 : decode cX11_page 104 = .ok (.iconst 1, 1) := by decide +kernel
theorem dX11_page_105 : decode cX11_page 105 = .ok (.ishr, 1) := by decide +kernel
theorem dX11_page_106 : decode cX11_page 106 = .ok (.istore 6, 2) := by decide +kernel
theorem dX11_page_108 : decode cX11_page 108 = .ok (.goto (-50), 3) := by decide +kernel
theorem dX11_page_111 : decode cX11_page 111 = .ok (.iload_n 3, 1) := by decide +kernel
theorem dX11_page_112 : decode cX11_page 112 = .ok (.ireturn, 1) := by decide +kernel
theorem dX12_page_0 : decode cX12_page 0 = .ok (.iload_n 1, 1) := by decide +kernel
theorem dX12_page_1 : decode cX12_page 1 = .ok (.iconst 1, 1) := by decide +kernel
theorem dX12_page_2 : decode cX12_page 2 = .ok (.if_icmp .lt 9, 3) := by decide +kernel
theorem dX12_page_5 : decode cX12_page 5 = .ok (.iload_n 1, 1) := by decide +kernel
theorem dX12_page_6 : decode cX12_page 6 = .ok (.bipush 6, 2) := by decide +kernel
theorem dX12_page_8 : decode cX12_page 8 = .ok (.if_icmp .le 19, 3) := by decide +kernel
theorem dX12_page_11 : decode cX12_page 11 = .ok (.aload_n 0, 1) := by decide +kernel
theorem dX12_page_12 : decode cX12_page 12 = .ok (.iload_n 2, 1) := by decide +kernel
theorem dX12_page_13 : decode cX12_page 13 = .ok (.ifCond .ge 8, 3) := by decide +kernel
theorem dX12_page_16 : decode cX12_page 16 = .ok (.bipush (-5), 2) := by decide +kernel
theorem dX12_page_18 : decode cX12_page 18 = .ok (.goto 5, 3) := by decide +kernel
theorem dX12_page_21 : decode cX12_page 21 = .ok (.bipush (-6), 2) := by decide +kernel
theorem dX12_page_23 : decode cX12_page 23 = .ok (.invokevirtual 136, 3) := by decide +kernel
theorem dX12_page_26 : decode cX12_page 26 = .ok (.ireturn, 1) := by decide +kernel
theorem dX12_page_27 : decode cX12_page 27 = .ok (.iconst 1, 1) := by decide +kernel
theorem dX12_page_28 : decode cX12_page 28 = .ok (.iload_n 1, 1) := by decide +kernel
theorem dX12_page_29 : decode cX12_page 29 = .ok (.ishl, 1) := by decide +kernel
theorem dX12_page_30 : decode cX12_page 30 = .ok (.istore_n 3, 1) := by decide +kernel
theorem dX12_page_31 : decode cX12_page 31 = .ok (.iload_n 3, 1) := by decide +kernel
theorem dX12_page_32 : decode cX12_page 32 = .ok (.istore 4, 2) := by decide +kernel
theorem dX12_page_34 : decode cX12_page 34 = .ok (.iconst 1, 1) := by decide +kernel
theorem dX12_page_35 : decode cX12_page 35 = .ok (.istore 5, 2) := by decide +kernel
theorem dX12_page_37 : decode cX12_page 37 = .ok (.iload_n 2, 1) := by decide +kernel
theorem dX12_page_38 : decode cX12_page 38 = .ok (.ifCond .lt 8, 3) := by decide +kernel
theorem dX12_page_41 : decode cX12_page 41 = .ok (.iload_n 2, 1) := by decide +kernel
theorem dX12_page_42 : decode cX12_page 42 = .ok (.iload_n 3, 1) := by decide +kernel
theorem dX12_page_43 : decode cX12_page 43 = .ok (.if_icmp .lt 10, 3) := by decide +kernel
theorem dX12_page_46 : decode cX12_page 46 = .ok (.aload_n 0, 1) := by decide +kernel
theorem dX12_page_47 : decode cX12_page 47 = .ok (.bipush (-5), 2) := by decide +kernel
theorem dX12_page_49 : decode cX12_page 49 = .ok (.invokevirtual 136, 3) := by decide +kernel
theorem dX12_page_52 : decode cX12_page 52 = .ok (.ireturn, 1) := by decide +kernel
theorem dX12_page_53 : decode cX12_page 53 = .ok (.iconst 0, 1) := by decide +kernel
theorem dX12_page_54 : decode cX12_page 54 = .ok (.istore 6, 2) := by decide +kernel
theorem dX12_page_56 : decode cX12_page 56 = .ok (.iload 6, 2) := by decide +kernel
theorem dX12_page_58 : decode cX12_page 58 = .ok (.iload_n 3, 1) := by decide +kernel
theorem dX12_page_59 : decode cX12_page 59 = .ok (.if_icmp .ge 26, 3) := by decide +kernel
theorem dX12_page_62 : decode cX12_page 62 = .ok (.aload_n 0, 1) := by decide +kernel
theorem dX12_page_63 : decode cX12_page 63 = .ok (.getfield 120, 3) := by decide +kernel
theorem dX12_page_66 : decode cX12_page 66 = .ok (.iload 6, 2) := by decide +kernel
theorem dX12_page_68 : decode cX12_page 68 = .ok (.iload 6, 2) := by decide +kernel
theorem dX12_page_70 : decode cX12_page 70 = .ok (.iastore, 1) := by decide +kernel
theorem dX12_page_71 : decode cX12_page 71 = .ok (.aload_n 0, 1) := by decide +kernel
theorem dX12_page_72 : decode cX12_page 72 = .ok (.getfield 123, 3) := by decide +kernel
theorem dX12_page_75 : decode cX12_page 75 = .ok (.iload 6, 2) := by decide +kernel
theorem dX12_page_77 : decode cX12_page 77 = .ok (.iconst 0, 1) := by decide +kernel
theorem dX12_page_78 : decode cX12_page 78 = .ok (.iastore, 1) := by decide +kernel
theorem dX12_page_79 : decode cX12_page 79 = .ok (.iinc 6 1, 3) := by decide +kernel
theorem dX12_page_82 : decode cX12_page 82 = .ok (.goto (-26), 3) := by decide +kernel
theorem dX12_page_85 : decode cX12_page 85 = .ok (.iload 4, 2) := by decide +kernel
theorem dX12_page_87 : decode cX12_page 87 = .ok (.iconst 1, 1) := by decide +kernel
theorem dX12_page_88 : decode cX12_page 88 = .ok (.if_icmp .le 100, 3) := by decide +kernel
theorem dX12_page_91 : decode cX12_page 91 = .ok (.iconst 0, 1) := by decide +kernel
theorem dX12_page_92 : decode cX12_page 92 = .ok (.istore 6, 2) := by decide +kernel
theorem dX12_page_94 : decode cX12_page 94 = .ok (.iload 6, 2) := by decide +kernel
theorem dX12_page_96 : decode cX12_page 96 = .ok (.iload_n 3, 1) := by decide +kernel
theorem dX12_page_97 : decode cX12_page 97 = .ok (.if_icmp .ge 76, 3) := by decide +kernel
theorem dX12_page_100 : decode cX12_page 100 = .ok (.aload_n 0, 1) := by decide +kernel
theorem dX12_page_101 : decode cX12_page 101 = .ok (.getfield 120, 3) := by decide +kernel
theorem dX12_page_104 : decode cX12_page 104 = .ok (.iload 6, 2) := by decide +kernel
theorem dX12_page_106 : decode cX12_page 106 = .ok (.iaload, 1) := by decide +kernel
theorem dX12_page_107 : decode cX12_page 107 = .ok (.iload 4, 2) := by decide +kernel
theorem dX12_page_109 : decode cX12_page 109 = .ok (.iconst 2, 1) := by decide +kernel
theorem dX12_page_110 : decode cX12_page 110 = .ok (.idiv, 1) := by decide +kernel
theorem dX12_page_111 : decode cX12_page 111 = .ok (.if_icmp .lt 44, 3) := by decide +kernel
theorem dX12_page_114 : decode cX12_page 114 = .ok (.aload_n 0, 1) := by decide +kernel
theorem dX12_page_115 : decode cX12_page 115 = .ok (.getfield 120, 3) := by decide +kernel
theorem dX12_page_118 : decode cX12_page 118 = .ok (.iload 6, 2) := by decide +kernel
theorem dX12_page_120 : decode cX12_page 120 = .ok (.iload 4, 2) := by decide +kernel
theorem dX12_page_122 : decode cX12_page 122 = .ok (.iconst 1, 1) := by decide +kernel
theorem dX12_page_123 : decode cX12_page 123 = .ok (.isub, 1) := by decide +kernel
theorem dX12_page_124 : decode cX12_page 124 = .ok (.aload_n 0, 1) := by decide +kernel
theorem dX12_page_125 : decode cX12_page 125 = .ok (.getfield 120, 3) := by decide +kernel
theorem dX12_page_128 : decode cX12_page 128 = .ok (.iload 6, 2) := by decide +kernel
theorem dX12_page_130 : decode cX12_page 130 = .ok (.iaload, 1) := by decide +kernel
theorem dX12_page_131 : decode cX12_page 131 = .ok (.isub, 1) := by decide +kernel
theorem dX12_page_132 : decode cX12_page 132 = .ok (.iastore, 1) := by decide +kernel
theorem dX12_page_133 : decode cX12_page 133 = .ok (.aload_n 0, 1) := by decide +kernel
theorem dX12_page_134 : decode cX12_page 134 = .ok (.getfield 123, 3) := by decide +kernel
theorem dX12_page_137 : decode cX12_page 137 = .ok (.iload 6, 2) := by decide +kernel
theorem dX12_page_139 : decode cX12_page 139 = .ok (.iload 5, 2) := by decide +kernel
theorem dX12_page_141 : decode cX12_page 141 = .ok (.iconst 1, 1) := by decide +kernel
theorem dX12_page_142 : decode cX12_page 142 = .ok (.isub, 1) := by decide +kernel
theorem dX12_page_143 : decode cX12_page 143 = .ok (.aload_n 0, 1) := by decide +kernel
theorem dX12_page_144 : decode cX12_page 144 = .ok (.getfield 123, 3) := by decide +kernel
theorem dX12_page_147 : decode cX12_page 147 = .ok (.iload 6, 2) := by decide +kernel
theorem dX12_page_149 : decode cX12_page 149 = .ok (.iaload, 1) := by decide +kernel
theorem dX12_page_150 : decode cX12_page 150 = .ok (.isub, 1) := by decide +kernel
theorem dX12_page_151 : decode cX12_page 151 = .ok (.iastore, 1) := by decide +kernel
theorem dX12_page_152 : decode cX12_page 152 = .ok (.goto 15, 3) := by decide +kernel
theorem dX12_page_155 : decode cX12_page 155 = .ok (.aload_n 0, 1) := by decide +kernel
theorem dX12_page_156 : decode cX12_page 156 = .ok (.getfield 123, 3) := by decide +kernel
theorem dX12_page_159 : decode cX12_page 159 = .ok (.iload 6, 2) := by decide +kernel
theorem dX12_page_161 : decode cX12_page 161 = .ok (.dup2, 1) := by decide +kernel
theorem dX12_page_162 : decode cX12_page 162 = .ok (.iaload, 1) := by decide +kernel
theorem dX12_page_163 : decode cX12_page 163 = .ok (.iload 5, 2) := by decide +kernel
theorem dX12_page_165 : decode cX12_page 165 = .ok (.iadd, 1) := by decide +kernel
theorem dX12_page_166 : decode cX12_page 166 = .ok (.iastore, 1) := by decide +kernel
theorem dX12_page_167 : decode cX12_page 167 = .ok (.iinc 6 1, 3) := by decide +kernel
theorem dX12_page_170 : decode cX12_page 170 = .ok (.goto (-76), 3) := by decide +kernel
theorem dX12_page_173 : decode cX12_page 173 = .ok (.iload 4, 2) := by decide +kernel
theorem dX12_page_175 : decode cX12_page 175 = .ok (.iconst 2, 1) := by decide +kernel
theorem dX12_page_176 : decode cX12_page 176 = .ok (.idiv, 1) := by decide +kernel
theorem dX12_page_177 : decode cX12_page 177 = .ok (.istore 4, 2) := by decide +kernel
theorem dX12_page_179 : decode cX12_page 179 = .ok (.iload 5, 2) := by decide +kernel
theorem dX12_page_181 : decode cX12_page 181 = .ok (.iconst 2, 1) := by decide +kernel
theorem dX12_page_182 : decode cX12_page 182 = .ok (.imul, 1) := by decide +kernel
theorem dX12_page_183 : decode cX12_page 183 = .ok (.istore 5, 2) := by decide +kernel
theorem dX12_page_185 : decode cX12_page 185 = .ok (.goto (-100), 3) := by decide +kernel
theorem dX12_page_188 : decode cX12_page 188 = .ok (.iconst (-1), 1) := by decide +kernel
theorem dX12_page_189 : decode cX12_page 189 = .ok (.istore 6, 2) := by decide +kernel
theorem dX12_page_191 : decode cX12_page 191 = .ok (.iconst 0, 1) := by decide +kernel
theorem dX12_page_192 : decode cX12_page 192 = .ok (.istore 7, 2) := by decide +kernel
theorem dX12_page_194 : decode cX12_page 194 = .ok (.iload 7, 2) := by decide +kernel
theorem dX12_page_196 : decode cX12_page 196 = .ok (.iload_n 3, 1) := by decide +kernel
theorem dX12_page_197 : decode cX12_page 197 = .ok (.if_icmp .ge 24, 3) := by decide +kernel
theorem dX12_page_200 : decode cX12_page 200 = .ok (.aload_n 0, 1) := by decide +kernel
theorem dX12_page_201 : decode cX12_page 201 = .ok (.getfield 123, 3) := by decide +kernel
theorem dX12_page_204 : decode cX12_page 204 = .ok (.iload 7, 2) := by decide +kernel
theorem dX12_page_206 : decode cX12_page 206 = .ok (.iaload, 1) := by decide +kernel
theorem dX12_page_207 : decode cX12_page 207 = .ok (.iload_n 2, 1) := by decide +kernel
theorem dX12_page_208 : decode cX12_page 208 = .ok (.if_icmp .ne 7, 3) := by decide +kernel
theorem dX12_page_211 : decode cX12_page 211 = .ok (.iload 7, 2) := by decide +kernel
theorem dX12_page_213 : decode cX12_page 213 = .ok (.istore 6, 2) := by decide +kernel
theorem dX12_page_215 : decode cX12_page 215 = .ok (.iinc 7 1, 3) := by decide +kernel
theorem dX12_page_218 : decode cX12_page 218 = .ok (.goto (-24), 3) := by decide +kernel
theorem dX12_page_221 : decode cX12_page 221 = .ok (.iload 6, 2) := by decide +kernel
theorem dX12_page_223 : decode cX12_page 223 = .ok (.ireturn, 1) := by decide +kernel
theorem gf_RX12_123_12 : RGet RX12 123 12 52 := rg_F (ref := "FoldedInHalfModel") uX12 rfl (by decide) (by decide) (tb_5 227 rfl rfl) (.inl rfl)
theorem gf_RX12_120_12 : RGet RX12 120 12 51 := rg_F (ref := "FoldedInHalfModel") uX12 rfl (by decide) (by decide) (tb_5 226 rfl rfl) (.inl rfl)
theorem gl_52 {ad xs : Nat → Nat} {cD : va_G} {cy : Nat → ClassId} {A : Nat → Prop} {S : zS} {ρ : Nat → Nat} {cc : ByteArray} {nL : Nat} {p : Program} {l : Launch} {e : Env} {R : Room} {s : State} {m : MethodId} {args : Array Value} {below : List Frame} {meth : Method} {c : Code} {Q : State → Prop} {Ts : List Cond} {cells slots pc : Nat} {H : Heap} {locs : List Loc} {ls : Array Slot} {rest : List Value} (hM : MX xs cD cy A p s m args c cc nL Ts RX12) (hT : Typed zT ad S ρ) (hw : zPw cD cy A s.heap S H locs) (hd : decode cc pc = .ok (.getfield 123, 3)) (k : W p l e R s m args below meth c H locs cells slots Q (F0 m (pc + 3) ls (.ref (ad 54) :: rest))) : W p l e R s m args below meth c H locs cells slots Q (F0 m pc ls (.ref (ad 17) :: rest)) := by
  have c17 := ty_cel hT (r := 17) (by decide +kernel) rfl
  refine gf_RX12_123_12 p l e _ s m args below meth c H locs _ _ _ xs cD cy A cc nL _ S (ad 17) pc ls rest 2 hM hw c17.1 c17.2.2.1 hd rfl ?_
  have e1 : z_v S (ad 17) 2 (z_bs 12 + 52) = .ref (ad 54) := by
    show va_rf (zQ S (z_bs 12 + 52) (ad 17)) = _
    rw [ty_fld hT (r := 17) (f := 52) (r2 := 54) (by decide +kernel) rfl (by decide) rfl (by decide +kernel)]; rfl
  rw [e1]
  exact k
theorem gl_51 {ad xs : Nat → Nat} {cD : va_G} {cy : Nat → ClassId} {A : Nat → Prop} {S : zS} {ρ : Nat → Nat} {cc : ByteArray} {nL : Nat} {p : Program} {l : Launch} {e : Env} {R : Room} {s : State} {m : MethodId} {args : Array Value} {below : List Frame} {meth : Method} {c : Code} {Q : State → Prop} {Ts : List Cond} {cells slots pc : Nat} {H : Heap} {locs : List Loc} {ls : Array Slot} {rest : List Value} (hM : MX xs cD cy A p s m args c cc nL Ts RX12) (hT : Typed zT ad S ρ) (hw : zPw cD cy A s.heap S H locs) (hd : decode cc pc = .ok (.getfield 120, 3)) (k : W p l e R s m args below meth c H locs cells slots Q (F0 m (pc + 3) ls (.ref (ad 53) :: rest))) : W p l e R s m args below meth c H locs cells slots Q (F0 m pc ls (.ref (ad 17) :: rest)) := by
  have c17 := ty_cel hT (r := 17) (by decide +kernel) rfl
  refine gf_RX12_120_12 p l e _ s m args below meth c H locs _ _ _ xs cD cy A cc nL _ S (ad 17) pc ls rest 2 hM hw c17.1 c17.2.2.1 hd rfl ?_
  have e1 : z_v S (ad 17) 2 (z_bs 12 + 51) = .ref (ad 53) := by
    show va_rf (zQ S (z_bs 12 + 51) (ad 17)) = _
    rw [ty_fld hT (r := 17) (f := 51) (r2 := 53) (by decide +kernel) rfl (by decide) rfl (by decide +kernel)]; rfl
  rw [e1]
  exact k
set_option maxHeartbeats 1000000 in
set_option maxRecDepth 100000 in
theorem c_X11_page {xs ad : Nat → Nat} {ρ : Nat → Nat} {neg0 : Int → Int} {Post : Option Value → zS → (Nat → Nat) → Prop} (hb0 : bndN neg0) (l : Launch) (cD : va_G) (cy : Nat → ClassId) (sz_ : Nat) (S_ : zS) (hV : WCF ad S_ ρ S_ ρ) (f_ pq : Int32) (hP : ∀ rv S1 ρ1, PW ad S_ ρ (q_page f_ pq) rv S1 ρ1 → Post rv S1 ρ1) : Met l yX11_page (Cond.code yX11_page cX11_page 7 (some .int) :: TB) ({ frames := 1, cells := 0, slots := 0, locals := 22 } : Room) (va_Pc [.ref (ad 0), .int f_, .int pq] (zPre xs cD cy S_ sz_)) (QX cD cy Post (zAd cy S_ sz_)) 0 0 (zAd cy S_ sz_) := by
  refine z_ofW (QQ := QX cD cy Post) (own := RX11) (by decide +kernel) rfl rfl (Nat.le_of_ble_eq_true rfl) ?_
  intro p_ e_ s_ m_ args_ below_ meth_ c_ A_ ls hcf hr hlk hnm hK_ hE hZ hw hA hl
  have hM : MX xs cD cy A_ p_ s_ m_ args_ c_ cX11_page 7 (Cond.code yX11_page cX11_page 7 (some .int) :: TB) RX11 := ⟨hcf, fun w hw => List.mem_cons_of_mem _ hw, hK_, hE, hZ, hA⟩
  have hSh := hV.1.1
  obtain ⟨hx, hb_, hml, hown, hts⟩ := id hcf
  have hl : lv_has ls 7 [(0, .ref (ad 0)), (1, .int f_), (2, .int pq)] := hl
  refine lv_iload_n hx hb_ dX11_page_0 rfl (lv_at hl 2 rfl) ?_
  refine lv_if_ge (tgt := 11) hx hb_ dX11_page_1 (by decide) (fun c_1 => ?_) (fun c_1 => ?_)
  · refine lv_iload_n hx hb_ dX11_page_11 rfl (lv_at hl 1 rfl) ?_
    refine lv_iconst (v := 1) hx hb_ dX11_page_12 (by decide) ?_
    refine lv_icmp_lt (tgt := 22) hx hb_ dX11_page_13 (by decide) (fun c_13 => ?_) (fun c_13 => ?_)
    · refine lv_aload_n hx hb_ dX11_page_22 rfl (lv_at hl 0 rfl) ?_
      refine lv_bipush (v := (-6)) hx hb_ dX11_page_23 (by decide) ?_
      refine cl_refuse hb0 hM hA hV hw ⟨by decide, by decide, by decide, by decide⟩ (show (0 : Nat) ≤ 8 by decide) hl.1 dX11_page_25 (fun S1 ρ1 H_ locs_ hV hw => ?_)
      exact z_iretW (v := (-6)) hcf hr hlk hw hP hV (by simp [q_page, c_1, c_13]) dX11_page_28
    · refine lv_iload_n hx hb_ dX11_page_16 rfl (lv_at hl 1 rfl) ?_
      refine lv_bipush (v := 6) hx hb_ dX11_page_17 (by decide) ?_
      refine lv_icmp_le (tgt := 29) hx hb_ dX11_page_19 (by decide) (fun c_19 => ?_) (fun c_19 => ?_)
      · obtain ⟨f0, hf1, hf6, ef⟩ := zx_of (a := 1) (b := 6) c_13 c_19 (by decide) (by decide)
        refine lv_iload_n hx hb_ dX11_page_29 rfl (lv_at hl 2 rfl) ?_
        refine lv_iconst (v := 1) hx hb_ dX11_page_30 (by decide) ?_
        refine lv_iload_n hx hb_ dX11_page_31 rfl (lv_at hl 1 rfl) ?_
        refine lv_ishl hx hb_ dX11_page_32 ?_
        refine z_topi (y := (nI (2 ^ f0))) (by rw [ef]; exact shl1 f0 (by omega)) ?_
        refine lv_icmp_lt (tgt := 43) hx hb_ dX11_page_33 (by decide) (fun c_33 => ?_) (fun c_33 => ?_)
        · refine lv_iconst (v := 0) hx hb_ dX11_page_43 (by decide) ?_
          refine lv_istore_n (lv' := [(3, .int 0), (0, .ref (ad 0)), (1, .int f_), (2, .int pq)]) hx hb_ dX11_page_44 rfl hl (by decide) rfl (fun ls hl => ?_)
          refine lv_iconst (v := 1) hx hb_ dX11_page_45 (by decide) ?_
          refine lv_istore (lv' := [(4, .int 1), (3, .int 0), (0, .ref (ad 0)), (1, .int f_), (2, .int pq)]) hx hb_ dX11_page_46 hl (by decide) rfl (fun ls hl => ?_)
          refine lv_iload_n hx hb_ dX11_page_48 rfl (lv_at hl 4 rfl) ?_
          refine lv_istore (lv' := [(5, .int pq), (4, .int 1), (3, .int 0), (0, .ref (ad 0)), (1, .int f_), (2, .int pq)]) hx hb_ dX11_page_49 hl (by decide) rfl (fun ls hl => ?_)
          refine lv_iconst (v := 1) hx hb_ dX11_page_51 (by decide) ?_
          refine lv_iload_n hx hb_ dX11_page_52 rfl (lv_at hl 4 rfl) ?_
          refine lv_iconst (v := 1) hx hb_ dX11_page_53 (by decide) ?_
          refine lv_isub hx hb_ dX11_page_54 ?_
          refine lv_ishl hx hb_ dX11_page_55 ?_
          refine z_topi (y := (hlf f0)) (by rw [ef]; exact hlf_0 f0 (by omega) hf1) ?_
          refine lv_istore (lv' := [(6, .int (hlf f0)), (5, .int pq), (4, .int 1), (3, .int 0), (0, .ref (ad 0)), (1, .int f_), (2, .int pq)]) hx hb_ dX11_page_56 hl (by decide) rfl (fun ls hl => ?_)
          have J_ : ∀ k_, k_ ≤ 6 → ∀ h_ : Int32, h_ = hlf k_ → ∀ a_ n_ q_ : Int32, cPg k_ (a_, n_, q_) = cPg f0 (0, 1, pq) → ∀ (H_ : Heap) (locs_ : List Loc), zPw cD cy A_ s_.heap S_ H_ locs_ → ∀ ls : Array Slot, lv_has ls 7 [(0, .ref (ad 0)), (1, .int f_), (2, .int pq), (3, .int a_), (4, .int n_), (5, .int q_), (6, .int h_)] → W p_ l e_ ({ frames := 1, cells := 0, slots := 0, locals := 22 } : Room) s_ m_ args_ below_ meth_ c_ H_ locs_ 0 0 (MQ below_ (QX cD cy Post A_) args_ s_ 0 0 A_) (F0 m_ 58 ls []) := by
            intro k_
            induction k_ with
            | zero =>
              intro hk h_ eh a_ n_ q_ hg H_ locs_ hw ls hl
              refine lv_iload hx hb_ dX11_page_58 (lv_at hl 6 rfl) ?_
              refine lv_if_le (tgt := 111) hx hb_ dX11_page_60 (by decide) (fun c_60 => ?_) (fun c_60 => absurd (by rw [eh]; decide) c_60)
              refine lv_iload_n hx hb_ dX11_page_111 rfl (lv_at hl 3 rfl) ?_
              exact z_iretW (v := a_) hcf hr hlk hw hP hV (by rw [q_page_in (zx_n0 c_1) c_13 c_19 ef hf6 c_33, ← hg]; rfl) dX11_page_112
            | succ k_ ih_ =>
              intro hk h_ eh a_ n_ q_ hg H_ locs_ hw ls hl
              refine lv_iload hx hb_ dX11_page_58 (lv_at hl 6 rfl) ?_
              refine lv_if_le (tgt := 111) hx hb_ dX11_page_60 (by decide) (fun c_60 => absurd c_60 (by rw [eh]; exact nI_nle (Nat.two_pow_pos k_) (p2_lt (by omega)))) (fun c_60 => ?_)
              refine lv_iload hx hb_ dX11_page_63 (lv_at hl 4 rfl) ?_
              refine lv_iconst (v := 2) hx hb_ dX11_page_65 (by decide) ?_
              refine lv_imul hx hb_ dX11_page_66 ?_
              refine lv_istore (lv' := [(4, .int (n_ * 2)), (0, .ref (ad 0)), (1, .int f_), (2, .int pq), (3, .int a_), (5, .int q_), (6, .int h_)]) hx hb_ dX11_page_67 hl (by decide) rfl (fun ls hl => ?_)
              refine lv_iload hx hb_ dX11_page_69 (lv_at hl 5 rfl) ?_
              refine lv_iload hx hb_ dX11_page_71 (lv_at hl 6 rfl) ?_
              refine lv_icmp_ge (tgt := 95) hx hb_ dX11_page_73 (by decide) (fun c_73 => ?_) (fun c_73 => ?_)
              · refine lv_iload hx hb_ dX11_page_95 (lv_at hl 5 rfl) ?_
                refine lv_iload hx hb_ dX11_page_97 (lv_at hl 6 rfl) ?_
                refine lv_isub hx hb_ dX11_page_99 ?_
                refine lv_istore (lv' := [(5, .int (q_ - h_)), (4, .int (n_ * 2)), (0, .ref (ad 0)), (1, .int f_), (2, .int pq), (3, .int a_), (6, .int h_)]) hx hb_ dX11_page_100 hl (by decide) rfl (fun ls hl => ?_)
                refine lv_iload hx hb_ dX11_page_102 (lv_at hl 6 rfl) ?_
                refine lv_iconst (v := 1) hx hb_ dX11_page_104 (by decide) ?_
                refine lv_ishr hx hb_ dX11_page_105 ?_
                refine lv_istore (lv' := [(6, .int (h_ >>> (1 &&& 31))), (5, .int (q_ - h_)), (4, .int (n_ * 2)), (0, .ref (ad 0)), (1, .int f_), (2, .int pq), (3, .int a_)]) hx hb_ dX11_page_106 hl (by decide) rfl (fun ls hl => ?_)
                refine lv_goto (tgt := 58) hx hb_ dX11_page_108 (by decide) ?_
                refine ih_ (by omega) (h_ >>> (1 &&& 31)) (by rw [eh]; exact hlf_s k_ (by omega)) a_ (n_ * 2) (q_ - h_) ?_ _ _ hw ls (lv_sub hl [3, 4, 5, 6, 2, 1, 0] rfl)
                rw [← hg]; subst eh; exact (if_pos c_73).symm
              · refine lv_iload hx hb_ dX11_page_76 (lv_at hl 0 rfl) ?_
                refine lv_iconst (v := 1) hx hb_ dX11_page_78 (by decide) ?_
                refine lv_isub hx hb_ dX11_page_79 ?_
                refine lv_iload_n hx hb_ dX11_page_80 rfl (lv_at hl 4 rfl) ?_
                refine lv_isub hx hb_ dX11_page_81 ?_
                refine lv_istore_n (lv' := [(3, .int (((n_ * 2) - 1) - a_)), (4, .int (n_ * 2)), (0, .ref (ad 0)), (1, .int f_), (2, .int pq), (5, .int q_), (6, .int h_)]) hx hb_ dX11_page_82 rfl hl (by decide) rfl (fun ls hl => ?_)
                refine lv_iload hx hb_ dX11_page_83 (lv_at hl 6 rfl) ?_
                refine lv_iconst (v := 1) hx hb_ dX11_page_85 (by decide) ?_
                refine lv_isub hx hb_ dX11_page_86 ?_
                refine lv_iload hx hb_ dX11_page_87 (lv_at hl 5 rfl) ?_
                refine lv_isub hx hb_ dX11_page_89 ?_
                refine lv_istore (lv' := [(5, .int ((h_ - 1) - q_)), (3, .int (((n_ * 2) - 1) - a_)), (4, .int (n_ * 2)), (0, .ref (ad 0)), (1, .int f_), (2, .int pq), (6, .int h_)]) hx hb_ dX11_page_90 hl (by decide) rfl (fun ls hl => ?_)
                refine lv_goto (tgt := 102) hx hb_ dX11_page_92 (by decide) ?_
                refine lv_iload hx hb_ dX11_page_102 (lv_at hl 6 rfl) ?_
                refine lv_iconst (v := 1) hx hb_ dX11_page_104 (by decide) ?_
                refine lv_ishr hx hb_ dX11_page_105 ?_
                refine lv_istore (lv' := [(6, .int (h_ >>> (1 &&& 31))), (5, .int ((h_ - 1) - q_)), (3, .int (((n_ * 2) - 1) - a_)), (4, .int (n_ * 2)), (0, .ref (ad 0)), (1, .int f_), (2, .int pq)]) hx hb_ dX11_page_106 hl (by decide) rfl (fun ls hl => ?_)
                refine lv_goto (tgt := 58) hx hb_ dX11_page_108 (by decide) ?_
                refine ih_ (by omega) (h_ >>> (1 &&& 31)) (by rw [eh]; exact hlf_s k_ (by omega)) (((n_ * 2) - 1) - a_) (n_ * 2) ((h_ - 1) - q_) ?_ _ _ hw ls (lv_sub hl [4, 5, 6, 2, 3, 1, 0] rfl)
                rw [← hg]; subst eh; exact (if_neg c_73).symm
          exact J_ f0 hf6 (hlf f0) rfl 0 1 pq rfl _ _ hw ls (lv_sub hl [4, 5, 6, 3, 2, 1, 0] rfl)
        · refine lv_aload_n hx hb_ dX11_page_36 rfl (lv_at hl 0 rfl) ?_
          refine lv_bipush (v := (-5)) hx hb_ dX11_page_37 (by decide) ?_
          refine cl_refuse hb0 hM hA hV hw ⟨by decide, by decide, by decide, by decide⟩ (show (0 : Nat) ≤ 8 by decide) hl.1 dX11_page_39 (fun S1 ρ1 H_ locs_ hV hw => ?_)
          exact z_iretW (v := (-5)) hcf hr hlk hw hP hV (by rw [q_page_out (zx_n0 c_1) c_13 c_19 ef hf6 c_33]) dX11_page_42
      · refine lv_aload_n hx hb_ dX11_page_22 rfl (lv_at hl 0 rfl) ?_
        refine lv_bipush (v := (-6)) hx hb_ dX11_page_23 (by decide) ?_
        refine cl_refuse hb0 hM hA hV hw ⟨by decide, by decide, by decide, by decide⟩ (show (0 : Nat) ≤ 8 by decide) hl.1 dX11_page_25 (fun S1 ρ1 H_ locs_ hV hw => ?_)
        exact z_iretW (v := (-6)) hcf hr hlk hw hP hV (by simp [q_page, c_1, c_13, c_19]) dX11_page_28
  · refine lv_aload_n hx hb_ dX11_page_4 rfl (lv_at hl 0 rfl) ?_
    refine lv_bipush (v := (-5)) hx hb_ dX11_page_5 (by decide) ?_
    refine cl_refuse hb0 hM hA hV hw ⟨by decide, by decide, by decide, by decide⟩ (show (0 : Nat) ≤ 8 by decide) hl.1 dX11_page_7 (fun S1 ρ1 H_ locs_ hV hw => ?_)
    exact z_iretW (v := (-5)) hcf hr hlk hw hP hV (by simp [q_page, c_1]) dX11_page_10
set_option maxHeartbeats 1000000 in
set_option maxRecDepth 100000 in
theorem c_X12_page {xs ad : Nat → Nat} {ρ : Nat → Nat} {neg0 : Int → Int} {Post : Option Value → zS → (Nat → Nat) → Prop} (hb0 : bndN neg0) (l : Launch) (cD : va_G) (cy : Nat → ClassId) (sz_ : Nat) (S_ : zS) (hV : WCF ad S_ ρ S_ ρ) (f_ pq : Int32) (hP : ∀ rv S1 ρ1, PW ad S_ ρ (q_page f_ pq) rv S1 ρ1 → Post rv S1 ρ1) : Met l yX12_page (Cond.code yX12_page cX12_page 8 (some .int) :: TB) ({ frames := 1, cells := 0, slots := 0, locals := 21 } : Room) (va_Pc [.ref (ad 17), .int f_, .int pq] (zPre xs cD cy S_ sz_)) (QX cD cy Post (zAd cy S_ sz_)) 0 0 (zAd cy S_ sz_) := by
  refine z_ofW (QQ := QX cD cy Post) (own := RX12) (by decide +kernel) rfl rfl (Nat.le_of_ble_eq_true rfl) ?_
  intro p_ e_ s_ m_ args_ below_ meth_ c_ A_ ls hcf hr hlk hnm hK_ hE hZ hw hA hl
  have hM : MX xs cD cy A_ p_ s_ m_ args_ c_ cX12_page 8 (Cond.code yX12_page cX12_page 8 (some .int) :: TB) RX12 := ⟨hcf, fun w hw => List.mem_cons_of_mem _ hw, hK_, hE, hZ, hA⟩
  have hSh := hV.1.1
  have hZ : ∀ fh fd : Nat → Int32, WCF ad S_ ρ (zsA (zsA S_ (ad 53) fh) (ad 54) fd) ρ := fun fh fd => wcf_A hb0 (by decide +kernel) rfl (by decide +kernel) (wcf_A hb0 (by decide +kernel) rfl (by decide +kernel) hV)
  obtain ⟨hx, hb_, hml, hown, hts⟩ := id hcf
  have hl : lv_has ls 8 [(0, .ref (ad 17)), (1, .int f_), (2, .int pq)] := hl
  refine lv_iload_n hx hb_ dX12_page_0 rfl (lv_at hl 1 rfl) ?_
  refine lv_iconst (v := 1) hx hb_ dX12_page_1 (by decide) ?_
  refine lv_icmp_lt (tgt := 11) hx hb_ dX12_page_2 (by decide) (fun c_2 => ?_) (fun c_2 => ?_)
  · refine lv_aload_n hx hb_ dX12_page_11 rfl (lv_at hl 0 rfl) ?_
    refine lv_iload_n hx hb_ dX12_page_12 rfl (lv_at hl 2 rfl) ?_
    refine lv_if_ge (tgt := 21) hx hb_ dX12_page_13 (by decide) (fun c_13 => ?_) (fun c_13 => ?_)
    · refine lv_bipush (v := (-6)) hx hb_ dX12_page_21 (by decide) ?_
      refine cl_no hb0 hM hA hV hw ⟨by decide, by decide, by decide, by decide⟩ (by decide) (show (0 : Nat) ≤ 8 by decide) hl.1 dX12_page_23 (fun S1 ρ1 H_ locs_ hV hw => ?_)
      exact z_iretW (v := (-6)) hcf hr hlk hw hP hV (by simp [q_page, c_2, c_13]) dX12_page_26
    · refine lv_bipush (v := (-5)) hx hb_ dX12_page_16 (by decide) ?_
      refine lv_goto (tgt := 23) hx hb_ dX12_page_18 (by decide) ?_
      refine cl_no hb0 hM hA hV hw ⟨by decide, by decide, by decide, by decide⟩ (by decide) (show (0 : Nat) ≤ 8 by decide) hl.1 dX12_page_23 (fun S1 ρ1 H_ locs_ hV hw => ?_)
      exact z_iretW (v := (-5)) hcf hr hlk hw hP hV (by simp [q_page, c_2, c_13]) dX12_page_26
  · refine lv_iload_n hx hb_ dX12_page_5 rfl (lv_at hl 1 rfl) ?_
    refine lv_bipush (v := 6) hx hb_ dX12_page_6 (by decide) ?_
    refine lv_icmp_le (tgt := 27) hx hb_ dX12_page_8 (by decide) (fun c_8 => ?_) (fun c_8 => ?_)
    · obtain ⟨f0, hf1, hf6, ef⟩ := zx_of (a := 1) (b := 6) c_2 c_8 (by decide) (by decide)
      have h64 : 2 ^ f0 ≤ 64 := Nat.pow_le_pow_right (n := 2) (by decide) hf6
      refine lv_iconst (v := 1) hx hb_ dX12_page_27 (by decide) ?_
      refine lv_iload_n hx hb_ dX12_page_28 rfl (lv_at hl 1 rfl) ?_
      refine lv_ishl hx hb_ dX12_page_29 ?_
      refine z_topi (y := (nI (2 ^ f0))) (by rw [ef]; exact shl1 f0 (by omega)) ?_
      refine lv_istore_n (lv' := [(3, .int (nI (2 ^ f0))), (0, .ref (ad 17)), (1, .int f_), (2, .int pq)]) hx hb_ dX12_page_30 rfl hl (by decide) rfl (fun ls hl => ?_)
      refine lv_iload_n hx hb_ dX12_page_31 rfl (lv_at hl 0 rfl) ?_
      refine lv_istore (lv' := [(4, .int (nI (2 ^ f0))), (3, .int (nI (2 ^ f0))), (0, .ref (ad 17)), (1, .int f_), (2, .int pq)]) hx hb_ dX12_page_32 hl (by decide) rfl (fun ls hl => ?_)
      refine lv_iconst (v := 1) hx hb_ dX12_page_34 (by decide) ?_
      refine lv_istore (lv' := [(5, .int 1), (4, .int (nI (2 ^ f0))), (3, .int (nI (2 ^ f0))), (0, .ref (ad 17)), (1, .int f_), (2, .int pq)]) hx hb_ dX12_page_35 hl (by decide) rfl (fun ls hl => ?_)
      refine lv_iload_n hx hb_ dX12_page_37 rfl (lv_at hl 5 rfl) ?_
      refine lv_if_lt (tgt := 46) hx hb_ dX12_page_38 (by decide) (fun c_38 => ?_) (fun c_38 => ?_)
      · refine lv_aload_n hx hb_ dX12_page_46 rfl (lv_at hl 3 rfl) ?_
        refine lv_bipush (v := (-5)) hx hb_ dX12_page_47 (by decide) ?_
        refine cl_no hb0 hM hA hV hw ⟨by decide, by decide, by decide, by decide⟩ (by decide) (show (0 : Nat) ≤ 8 by decide) hl.1 dX12_page_49 (fun S1 ρ1 H_ locs_ hV hw => ?_)
        exact z_iretW (v := (-5)) hcf hr hlk hw hP hV (by simp [q_page, c_38]) dX12_page_52
      · refine lv_iload_n hx hb_ dX12_page_41 rfl (lv_at hl 5 rfl) ?_
        refine lv_iload_n hx hb_ dX12_page_42 rfl (lv_at hl 2 rfl) ?_
        refine lv_icmp_lt (tgt := 53) hx hb_ dX12_page_43 (by decide) (fun c_43 => ?_) (fun c_43 => ?_)
        · refine lv_iconst (v := 0) hx hb_ dX12_page_53 (by decide) ?_
          refine lv_istore (lv' := [(6, .int 0), (5, .int 1), (4, .int (nI (2 ^ f0))), (3, .int (nI (2 ^ f0))), (0, .ref (ad 17)), (1, .int f_), (2, .int pq)]) hx hb_ dX12_page_54 hl (by decide) rfl (fun ls hl => ?_)
          have JA : ∀ (nA jA : Nat) (iA : Int32), iA = nI jA → jA ≤ 2 ^ f0 → 2 ^ f0 < jA + nA → ∀ (fh fd : Nat → Int32), (∀ k_, k_ < jA → (fh k_, fd k_) = mC f0 k_ 0) → ∀ (H_ : Heap) (locs_ : List Loc), zPw cD cy A_ s_.heap (zsA (zsA S_ (ad 53) fh) (ad 54) fd) H_ locs_ → ∀ ls : Array Slot, lv_has ls 8 [(0, .ref (ad 17)), (1, .int f_), (2, .int pq), (3, .int (nI (2 ^ f0))), (4, .int (nI (2 ^ f0))), (5, .int 1), (6, .int iA)] → W p_ l e_ ({ frames := 1, cells := 0, slots := 0, locals := 21 } : Room) s_ m_ args_ below_ meth_ c_ H_ locs_ 0 0 (MQ below_ (QX cD cy Post A_) args_ s_ 0 0 A_) (F0 m_ 56 ls []) := by
            intro nA
            induction nA with
            | zero => intro jA iA _ hjA h_; exact absurd h_ (by omega)
            | succ nA ihA =>
              intro jA iA eiA hjA hmA fh fd hfd H_ locs_ hw ls hl
              refine lv_iload hx hb_ dX12_page_56 (lv_at hl 6 rfl) ?_
              refine lv_iload_n hx hb_ dX12_page_58 rfl (lv_at hl 3 rfl) ?_
              refine lv_icmp_ge (tgt := 85) hx hb_ dX12_page_59 (by decide) (fun c_59 => ?_) (fun c_59 => ?_)
              · have hjA : jA = 2 ^ f0 := by have := zn_ge eiA rfl (by omega) c_59; omega
                have JB : ∀ u_ t_, t_ + u_ = f0 → ∀ z_ dp : Int32, z_ = nI (2 ^ u_) → dp = nI (2 ^ t_) → ∀ fh fd : Nat → Int32, (∀ k_, k_ < 2 ^ f0 → (fh k_, fd k_) = mC f0 k_ t_) → ∀ (H_ : Heap) (locs_ : List Loc), zPw cD cy A_ s_.heap (zsA (zsA S_ (ad 53) fh) (ad 54) fd) H_ locs_ → ∀ ls : Array Slot, lv_has ls 8 [(0, .ref (ad 17)), (1, .int f_), (2, .int pq), (3, .int (nI (2 ^ f0))), (4, .int z_), (5, .int dp)] → W p_ l e_ ({ frames := 1, cells := 0, slots := 0, locals := 21 } : Room) s_ m_ args_ below_ meth_ c_ H_ locs_ 0 0 (MQ below_ (QX cD cy Post A_) args_ s_ 0 0 A_) (F0 m_ 85 ls []) := by
                  intro u_
                  induction u_ with
                  | zero =>
                    intro t_ hut z_ dp ez ed fh fd hfd H_ locs_ hw ls hl
                    refine lv_iload hx hb_ dX12_page_85 (lv_at hl 4 rfl) ?_
                    refine lv_iconst (v := 1) hx hb_ dX12_page_87 (by decide) ?_
                    refine lv_icmp_le (tgt := 188) hx hb_ dX12_page_88 (by decide) (fun c_88 => ?_) (fun c_88 => absurd (by rw [ez]; decide) c_88)
                    refine lv_iconst (v := (-1)) hx hb_ dX12_page_188 (by decide) ?_
                    refine lv_istore (lv' := [(6, .int (-1)), (0, .ref (ad 17)), (1, .int f_), (2, .int pq), (3, .int (nI (2 ^ f0))), (4, .int z_), (5, .int dp)]) hx hb_ dX12_page_189 hl (by decide) rfl (fun ls hl => ?_)
                    refine lv_iconst (v := 0) hx hb_ dX12_page_191 (by decide) ?_
                    refine lv_istore (lv' := [(7, .int 0), (6, .int (-1)), (0, .ref (ad 17)), (1, .int f_), (2, .int pq), (3, .int (nI (2 ^ f0))), (4, .int z_), (5, .int dp)]) hx hb_ dX12_page_192 hl (by decide) rfl (fun ls hl => ?_)
                    have JD : ∀ (nD jD : Nat) (iD : Int32), iD = nI jD → jD ≤ 2 ^ f0 → 2 ^ f0 < jD + nD → ∀ (bs : Int32), bs = mFd f0 pq jD → ∀ (H_ : Heap) (locs_ : List Loc), zPw cD cy A_ s_.heap (zsA (zsA S_ (ad 53) fh) (ad 54) fd) H_ locs_ → ∀ ls : Array Slot, lv_has ls 8 [(0, .ref (ad 17)), (1, .int f_), (2, .int pq), (3, .int (nI (2 ^ f0))), (6, .int bs), (7, .int iD)] → W p_ l e_ ({ frames := 1, cells := 0, slots := 0, locals := 21 } : Room) s_ m_ args_ below_ meth_ c_ H_ locs_ 0 0 (MQ below_ (QX cD cy Post A_) args_ s_ 0 0 A_) (F0 m_ 194 ls []) := by
                      intro nD
                      induction nD with
                      | zero => intro jD iD _ hjD h_; exact absurd h_ (by omega)
                      | succ nD ihD =>
                        intro jD iD eiD hjD hmD bs hbs H_ locs_ hw ls hl
                        refine lv_iload hx hb_ dX12_page_194 (lv_at hl 5 rfl) ?_
                        refine lv_iload_n hx hb_ dX12_page_196 rfl (lv_at hl 3 rfl) ?_
                        refine lv_icmp_ge (tgt := 221) hx hb_ dX12_page_197 (by decide) (fun c_197 => ?_) (fun c_197 => ?_)
                        · refine lv_iload hx hb_ dX12_page_221 (lv_at hl 4 rfl) ?_
                          exact z_iretW (v := bs) hcf hr hlk hw hP (hZ _ _) (by have hj : jD = 2 ^ f0 := (by have := zn_ge eiD rfl (by omega) c_197; omega); obtain ⟨p0, hp0, ep⟩ := nI_of c_38; rw [q_page_in c_38 c_2 c_8 ef hf6 c_43, hbs, hj, ep]; exact mFd_all hf1 hf6 (by rw [ep, nI_ltI hp0 (by omega)] at c_43; exact c_43)) dX12_page_223
                        · have hlt : jD < 2 ^ f0 := zn_lt eiD rfl (by omega) c_197
                          refine lv_aload_n hx hb_ dX12_page_200 rfl (lv_at hl 0 rfl) ?_
                          refine gl_52 hM (hZ _ _).1.1 hw dX12_page_201 ?_
                          refine lv_iload hx hb_ dX12_page_204 (lv_at hl 5 rfl) ?_
                          refine z_iald (n := 64) hcf hK_ hw (ty_cel hSh (r := 54) (by decide +kernel) rfl).1 (ty_cel hSh (r := 54) (by decide +kernel) rfl).2.2.1 ((ty_cel hSh (r := 54) (by decide +kernel) rfl).2.2.2.1 (by decide)) (by rw [eiD]; exact vp_in_nI (by omega) (by decide)) dX12_page_206 ?_
                          refine z_topi (y := (fd jD)) (by rw [(show iD.toNatClampNeg = jD by rw [eiD]; exact nI_clamp (by omega))]; exact congrFun (show zA (zsA (zsA S_ (ad 53) fh) (ad 54) fd) (ad 54) = fd from (zA_zsA _ _ _)) _) ?_
                          refine lv_iload_n hx hb_ dX12_page_207 rfl (lv_at hl 2 rfl) ?_
                          refine lv_icmp_ne (tgt := 215) hx hb_ dX12_page_208 (by decide) (fun c_208 => ?_) (fun c_208 => ?_)
                          · obtain ⟨i4, ei4⟩ : ∃ y_ : Int32, y_ = iD + 1 := ⟨_, rfl⟩
                            refine lv_iinc (v := i4) (lv' := [(7, .int i4), (0, .ref (ad 17)), (1, .int f_), (2, .int pq), (3, .int (nI (2 ^ f0))), (6, .int bs)]) hx hb_ dX12_page_215 hl (k := 5) rfl (by rw [ei4]; rfl) (by decide) rfl (fun ls hl => ?_)
                            refine lv_goto (tgt := 194) hx hb_ dX12_page_218 (by decide) ?_
                            have hd : fd jD = (mC f0 jD f0).2 := by have := hfd jD hlt; rw [show t_ = f0 by omega] at this; rw [← this]
                            exact ihD (jD + 1) i4 (by rw [ei4, eiD]; exact nI_1 jD) hlt (by omega) _ (by rw [hbs]; exact (if_neg (by rw [← hd]; exact c_208)).symm) _ _ hw ls (lv_sub hl [1, 2, 3, 4, 5, 0] rfl)
                          · refine lv_iload hx hb_ dX12_page_211 (lv_at hl 5 rfl) ?_
                            refine lv_istore (lv' := [(6, .int iD), (0, .ref (ad 17)), (1, .int f_), (2, .int pq), (3, .int (nI (2 ^ f0))), (7, .int iD)]) hx hb_ dX12_page_213 hl (by decide) rfl (fun ls hl => ?_)
                            obtain ⟨i4, ei4⟩ : ∃ y_ : Int32, y_ = iD + 1 := ⟨_, rfl⟩
                            refine lv_iinc (v := i4) (lv' := [(7, .int i4), (6, .int iD), (0, .ref (ad 17)), (1, .int f_), (2, .int pq), (3, .int (nI (2 ^ f0)))]) hx hb_ dX12_page_215 hl (k := 5) rfl (by rw [ei4]; rfl) (by decide) rfl (fun ls hl => ?_)
                            refine lv_goto (tgt := 194) hx hb_ dX12_page_218 (by decide) ?_
                            have hd : fd jD = (mC f0 jD f0).2 := by have := hfd jD hlt; rw [show t_ = f0 by omega] at this; rw [← this]
                            exact ihD (jD + 1) i4 (by rw [ei4, eiD]; exact nI_1 jD) hlt (by omega) _ (by rw [eiD]; exact (if_pos (by rw [← hd]; exact c_208)).symm) _ _ hw ls (lv_sub hl [2, 3, 4, 5, 1, 0] rfl)
                    exact JD (2 ^ f0 + 1) 0 0 nI_0.symm (Nat.zero_le _) (by omega) (-1) rfl _ _ hw ls (lv_sub hl [2, 3, 4, 5, 1, 0] rfl)
                  | succ u_ ihB =>
                    intro t_ hut z_ dp ez ed fh fd hfd H_ locs_ hw ls hl
                    refine lv_iload hx hb_ dX12_page_85 (lv_at hl 4 rfl) ?_
                    refine lv_iconst (v := 1) hx hb_ dX12_page_87 (by decide) ?_
                    refine lv_icmp_le (tgt := 188) hx hb_ dX12_page_88 (by decide) (fun c_88 => absurd c_88 (by rw [ez, show (1 : Int32) = nI 1 from rfl, nI_leI (p2_lt (by omega)) (by decide)]; have := Nat.two_pow_pos u_; rw [Nat.pow_succ]; omega)) (fun c_88 => ?_)
                    refine lv_iconst (v := 0) hx hb_ dX12_page_91 (by decide) ?_
                    refine lv_istore (lv' := [(6, .int 0), (0, .ref (ad 17)), (1, .int f_), (2, .int pq), (3, .int (nI (2 ^ f0))), (4, .int z_), (5, .int dp)]) hx hb_ dX12_page_92 hl (by decide) rfl (fun ls hl => ?_)
                    have JC : ∀ (nC jC : Nat) (iC : Int32), iC = nI jC → jC ≤ 2 ^ f0 → 2 ^ f0 < jC + nC → ∀ (fh fd : Nat → Int32), (∀ k_, k_ < jC → (fh k_, fd k_) = mC f0 k_ (t_ + 1)) → (∀ k_, jC ≤ k_ → k_ < 2 ^ f0 → (fh k_, fd k_) = mC f0 k_ t_) → ∀ (H_ : Heap) (locs_ : List Loc), zPw cD cy A_ s_.heap (zsA (zsA S_ (ad 53) fh) (ad 54) fd) H_ locs_ → ∀ ls : Array Slot, lv_has ls 8 [(0, .ref (ad 17)), (1, .int f_), (2, .int pq), (3, .int (nI (2 ^ f0))), (4, .int z_), (5, .int dp), (6, .int iC)] → W p_ l e_ ({ frames := 1, cells := 0, slots := 0, locals := 21 } : Room) s_ m_ args_ below_ meth_ c_ H_ locs_ 0 0 (MQ below_ (QX cD cy Post A_) args_ s_ 0 0 A_) (F0 m_ 94 ls []) := by
                      intro nC
                      induction nC with
                      | zero => intro jC iC _ hjC h_; exact absurd h_ (by omega)
                      | succ nC ihC =>
                        intro jC iC eiC hjC hmC fh fd hlo hhi H_ locs_ hw ls hl
                        refine lv_iload hx hb_ dX12_page_94 (lv_at hl 6 rfl) ?_
                        refine lv_iload_n hx hb_ dX12_page_96 rfl (lv_at hl 3 rfl) ?_
                        refine lv_icmp_ge (tgt := 173) hx hb_ dX12_page_97 (by decide) (fun c_97 => ?_) (fun c_97 => ?_)
                        · refine lv_iload hx hb_ dX12_page_173 (lv_at hl 4 rfl) ?_
                          refine lv_iconst (v := 2) hx hb_ dX12_page_175 (by decide) ?_
                          refine lv_idiv hx hb_ dX12_page_176 (by decide) ?_
                          refine lv_istore (lv' := [(4, .int (z_ / 2)), (0, .ref (ad 17)), (1, .int f_), (2, .int pq), (3, .int (nI (2 ^ f0))), (5, .int dp), (6, .int iC)]) hx hb_ dX12_page_177 hl (by decide) rfl (fun ls hl => ?_)
                          refine lv_iload hx hb_ dX12_page_179 (lv_at hl 5 rfl) ?_
                          refine lv_iconst (v := 2) hx hb_ dX12_page_181 (by decide) ?_
                          refine lv_imul hx hb_ dX12_page_182 ?_
                          refine lv_istore (lv' := [(5, .int (dp * 2)), (4, .int (z_ / 2)), (0, .ref (ad 17)), (1, .int f_), (2, .int pq), (3, .int (nI (2 ^ f0))), (6, .int iC)]) hx hb_ dX12_page_183 hl (by decide) rfl (fun ls hl => ?_)
                          refine lv_goto (tgt := 85) hx hb_ dX12_page_185 (by decide) ?_
                          have hjC : jC = 2 ^ f0 := by have := zn_ge eiC rfl (by omega) c_97; omega
                          exact ihB (t_ + 1) (by omega) (z_ / 2) (dp * 2) (by rw [ez]; exact dv2 u_ (by omega)) (by rw [ed]; exact ml2 t_ (by omega)) fh fd (fun k_ hk => hlo k_ (by omega)) _ _ hw ls (lv_sub hl [2, 3, 4, 5, 1, 0] rfl)
                        · have hlt : jC < 2 ^ f0 := zn_lt eiC rfl (by omega) c_97
                          refine lv_aload_n hx hb_ dX12_page_100 rfl (lv_at hl 0 rfl) ?_
                          refine gl_51 hM (hZ _ _).1.1 hw dX12_page_101 ?_
                          refine lv_iload hx hb_ dX12_page_104 (lv_at hl 6 rfl) ?_
                          refine z_iald (n := 64) hcf hK_ hw (ty_cel hSh (r := 53) (by decide +kernel) rfl).1 (ty_cel hSh (r := 53) (by decide +kernel) rfl).2.2.1 ((ty_cel hSh (r := 53) (by decide +kernel) rfl).2.2.2.1 (by decide)) (by rw [eiC]; exact vp_in_nI (by omega) (by decide)) dX12_page_106 ?_
                          refine z_topi (y := (fh jC)) (by rw [(show iC.toNatClampNeg = jC by rw [eiC]; exact nI_clamp (by omega))]; exact congrFun (show zA (zsA (zsA S_ (ad 53) fh) (ad 54) fd) (ad 53) = fh from ((zA_ne _ _ (ad_inj hSh (r := 53) (r2 := 54) (by decide +kernel) (by decide +kernel) (by decide))).trans (zA_zsA _ _ _))) _) ?_
                          refine lv_iload hx hb_ dX12_page_107 (lv_at hl 4 rfl) ?_
                          refine lv_iconst (v := 2) hx hb_ dX12_page_109 (by decide) ?_
                          refine lv_idiv hx hb_ dX12_page_110 (by decide) ?_
                          refine lv_icmp_lt (tgt := 155) hx hb_ dX12_page_111 (by decide) (fun c_111 => ?_) (fun c_111 => ?_)
                          · refine lv_aload_n hx hb_ dX12_page_155 rfl (lv_at hl 0 rfl) ?_
                            refine gl_52 hM (hZ _ _).1.1 hw dX12_page_156 ?_
                            refine lv_iload hx hb_ dX12_page_159 (lv_at hl 6 rfl) ?_
                            refine lv_dup2_11 hx hb_ dX12_page_161 rfl rfl ?_
                            refine z_iald (n := 64) hcf hK_ hw (ty_cel hSh (r := 54) (by decide +kernel) rfl).1 (ty_cel hSh (r := 54) (by decide +kernel) rfl).2.2.1 ((ty_cel hSh (r := 54) (by decide +kernel) rfl).2.2.2.1 (by decide)) (by rw [eiC]; exact vp_in_nI (by omega) (by decide)) dX12_page_162 ?_
                            refine z_topi (y := (fd jC)) (by rw [(show iC.toNatClampNeg = jC by rw [eiC]; exact nI_clamp (by omega))]; exact congrFun (show zA (zsA (zsA S_ (ad 53) fh) (ad 54) fd) (ad 54) = fd from (zA_zsA _ _ _)) _) ?_
                            refine lv_iload hx hb_ dX12_page_163 (lv_at hl 5 rfl) ?_
                            refine lv_iadd hx hb_ dX12_page_165 ?_
                            refine z_iast (n := 64) hcf hK_ hw (ty_cel hSh (r := 54) (by decide +kernel) rfl).1 (ty_cel hSh (r := 54) (by decide +kernel) rfl).2.2.1 ((ty_cel hSh (r := 54) (by decide +kernel) rfl).2.2.2.1 (by decide)) (by rw [eiC]; exact vp_in_nI (by omega) (by decide)) dX12_page_166 (fun H_ locs_ hw => ?_)
                            obtain ⟨f10, ef10⟩ : ∃ zz, zz = (upd (zA (zsA (zsA S_ (ad 53) fh) (ad 54) fd) (ad 54)) (iC : Int32).toNatClampNeg ((fd jC) + dp)) := ⟨_, rfl⟩
                            rw [← ef10] at hw
                            have hf10 : f10 = upd fd jC ((fd jC) + dp) := by rw [ef10, (show iC.toNatClampNeg = jC by rw [eiC]; exact nI_clamp (by omega)), show zA (zsA (zsA S_ (ad 53) fh) (ad 54) fd) (ad 54) = _ from (zA_zsA _ _ _)]
                            rw [zsA_zsA] at hw
                            obtain ⟨i3, ei3⟩ : ∃ y_ : Int32, y_ = iC + 1 := ⟨_, rfl⟩
                            refine lv_iinc (v := i3) (lv' := [(6, .int i3), (0, .ref (ad 17)), (1, .int f_), (2, .int pq), (3, .int (nI (2 ^ f0))), (4, .int z_), (5, .int dp)]) hx hb_ dX12_page_167 hl (k := 6) rfl (by rw [ei3]; rfl) (by decide) rfl (fun ls hl => ?_)
                            refine lv_goto (tgt := 94) hx hb_ dX12_page_170 (by decide) ?_
                            refine ihC (jC + 1) i3 (by rw [ei3, eiC]; exact nI_1 jC) hlt (by omega) fh f10 (fun k_ hk => ?_) (fun k_ hk hk2 => ?_) _ _ hw ls (lv_sub hl [1, 2, 3, 4, 5, 6, 0] rfl)
                            · rcases Nat.lt_or_ge k_ jC with q_ | q_
                              · rw [hf10, upd_no _ _ (by omega)]; exact hlo k_ q_
                              · obtain rfl : k_ = jC := by omega
                                have hc := hhi k_ (Nat.le_refl _) hlt
                                show _ = stp (nI (2 ^ (f0 - t_))) (nI (2 ^ t_)) (mC f0 k_ t_)
                                rw [hf10, upd_at, ← hc, show f0 - t_ = u_ + 1 by omega, ← ez, ← ed]; exact (if_pos c_111).symm
                            · rw [hf10, upd_no _ _ (by omega)]; exact hhi k_ (by omega) hk2
                          · refine lv_aload_n hx hb_ dX12_page_114 rfl (lv_at hl 0 rfl) ?_
                            refine gl_51 hM (hZ _ _).1.1 hw dX12_page_115 ?_
                            refine lv_iload hx hb_ dX12_page_118 (lv_at hl 6 rfl) ?_
                            refine lv_iload hx hb_ dX12_page_120 (lv_at hl 4 rfl) ?_
                            refine lv_iconst (v := 1) hx hb_ dX12_page_122 (by decide) ?_
                            refine lv_isub hx hb_ dX12_page_123 ?_
                            refine lv_aload_n hx hb_ dX12_page_124 rfl (lv_at hl 0 rfl) ?_
                            refine gl_51 hM (hZ _ _).1.1 hw dX12_page_125 ?_
                            refine lv_iload hx hb_ dX12_page_128 (lv_at hl 6 rfl) ?_
                            refine z_iald (n := 64) hcf hK_ hw (ty_cel hSh (r := 53) (by decide +kernel) rfl).1 (ty_cel hSh (r := 53) (by decide +kernel) rfl).2.2.1 ((ty_cel hSh (r := 53) (by decide +kernel) rfl).2.2.2.1 (by decide)) (by rw [eiC]; exact vp_in_nI (by omega) (by decide)) dX12_page_130 ?_
                            refine z_topi (y := (fh jC)) (by rw [(show iC.toNatClampNeg = jC by rw [eiC]; exact nI_clamp (by omega))]; exact congrFun (show zA (zsA (zsA S_ (ad 53) fh) (ad 54) fd) (ad 53) = fh from ((zA_ne _ _ (ad_inj hSh (r := 53) (r2 := 54) (by decide +kernel) (by decide +kernel) (by decide))).trans (zA_zsA _ _ _))) _) ?_
                            refine lv_isub hx hb_ dX12_page_131 ?_
                            refine z_iast (n := 64) hcf hK_ hw (ty_cel hSh (r := 53) (by decide +kernel) rfl).1 (ty_cel hSh (r := 53) (by decide +kernel) rfl).2.2.1 ((ty_cel hSh (r := 53) (by decide +kernel) rfl).2.2.2.1 (by decide)) (by rw [eiC]; exact vp_in_nI (by omega) (by decide)) dX12_page_132 (fun H_ locs_ hw => ?_)
                            obtain ⟨f11, ef11⟩ : ∃ zz, zz = (upd (zA (zsA (zsA S_ (ad 53) fh) (ad 54) fd) (ad 53)) (iC : Int32).toNatClampNeg ((z_ - 1) - (fh jC))) := ⟨_, rfl⟩
                            rw [← ef11] at hw
                            have hf11 : f11 = upd fh jC ((z_ - 1) - (fh jC)) := by rw [ef11, (show iC.toNatClampNeg = jC by rw [eiC]; exact nI_clamp (by omega)), show zA (zsA (zsA S_ (ad 53) fh) (ad 54) fd) (ad 53) = _ from ((zA_ne _ _ (ad_inj hSh (r := 53) (r2 := 54) (by decide +kernel) (by decide +kernel) (by decide))).trans (zA_zsA _ _ _))]
                            rw [zsA_comm _ _ _ (ad_inj hSh (r := 54) (r2 := 53) (by decide +kernel) (by decide +kernel) (by decide)), zsA_zsA] at hw
                            refine lv_aload_n hx hb_ dX12_page_133 rfl (lv_at hl 0 rfl) ?_
                            refine gl_52 hM (hZ _ _).1.1 hw dX12_page_134 ?_
                            refine lv_iload hx hb_ dX12_page_137 (lv_at hl 6 rfl) ?_
                            refine lv_iload hx hb_ dX12_page_139 (lv_at hl 5 rfl) ?_
                            refine lv_iconst (v := 1) hx hb_ dX12_page_141 (by decide) ?_
                            refine lv_isub hx hb_ dX12_page_142 ?_
                            refine lv_aload_n hx hb_ dX12_page_143 rfl (lv_at hl 0 rfl) ?_
                            refine gl_52 hM (hZ _ _).1.1 hw dX12_page_144 ?_
                            refine lv_iload hx hb_ dX12_page_147 (lv_at hl 6 rfl) ?_
                            refine z_iald (n := 64) hcf hK_ hw (ty_cel hSh (r := 54) (by decide +kernel) rfl).1 (ty_cel hSh (r := 54) (by decide +kernel) rfl).2.2.1 ((ty_cel hSh (r := 54) (by decide +kernel) rfl).2.2.2.1 (by decide)) (by rw [eiC]; exact vp_in_nI (by omega) (by decide)) dX12_page_149 ?_
                            refine z_topi (y := (fd jC)) (by rw [(show iC.toNatClampNeg = jC by rw [eiC]; exact nI_clamp (by omega))]; exact congrFun (show zA (zsA (zsA S_ (ad 53) f11) (ad 54) fd) (ad 54) = fd from (zA_zsA _ _ _)) _) ?_
                            refine lv_isub hx hb_ dX12_page_150 ?_
                            refine z_iast (n := 64) hcf hK_ hw (ty_cel hSh (r := 54) (by decide +kernel) rfl).1 (ty_cel hSh (r := 54) (by decide +kernel) rfl).2.2.1 ((ty_cel hSh (r := 54) (by decide +kernel) rfl).2.2.2.1 (by decide)) (by rw [eiC]; exact vp_in_nI (by omega) (by decide)) dX12_page_151 (fun H_ locs_ hw => ?_)
                            obtain ⟨f12, ef12⟩ : ∃ zz, zz = (upd (zA (zsA (zsA S_ (ad 53) f11) (ad 54) fd) (ad 54)) (iC : Int32).toNatClampNeg ((dp - 1) - (fd jC))) := ⟨_, rfl⟩
                            rw [← ef12] at hw
                            have hf12 : f12 = upd fd jC ((dp - 1) - (fd jC)) := by rw [ef12, (show iC.toNatClampNeg = jC by rw [eiC]; exact nI_clamp (by omega)), show zA (zsA (zsA S_ (ad 53) f11) (ad 54) fd) (ad 54) = _ from (zA_zsA _ _ _)]
                            rw [zsA_zsA] at hw
                            refine lv_goto (tgt := 167) hx hb_ dX12_page_152 (by decide) ?_
                            obtain ⟨i3, ei3⟩ : ∃ y_ : Int32, y_ = iC + 1 := ⟨_, rfl⟩
                            refine lv_iinc (v := i3) (lv' := [(6, .int i3), (0, .ref (ad 17)), (1, .int f_), (2, .int pq), (3, .int (nI (2 ^ f0))), (4, .int z_), (5, .int dp)]) hx hb_ dX12_page_167 hl (k := 6) rfl (by rw [ei3]; rfl) (by decide) rfl (fun ls hl => ?_)
                            refine lv_goto (tgt := 94) hx hb_ dX12_page_170 (by decide) ?_
                            refine ihC (jC + 1) i3 (by rw [ei3, eiC]; exact nI_1 jC) hlt (by omega) f11 f12 (fun k_ hk => ?_) (fun k_ hk hk2 => ?_) _ _ hw ls (lv_sub hl [1, 2, 3, 4, 5, 6, 0] rfl)
                            · rcases Nat.lt_or_ge k_ jC with q_ | q_
                              · rw [hf11, upd_no _ _ (by omega)]; rw [hf12, upd_no _ _ (by omega)]; exact hlo k_ q_
                              · obtain rfl : k_ = jC := by omega
                                have hc := hhi k_ (Nat.le_refl _) hlt
                                show _ = stp (nI (2 ^ (f0 - t_))) (nI (2 ^ t_)) (mC f0 k_ t_)
                                rw [hf11, hf12, upd_at, upd_at, ← hc, show f0 - t_ = u_ + 1 by omega, ← ez, ← ed]; exact (if_neg c_111).symm
                            · rw [hf11, upd_no _ _ (by omega)]; rw [hf12, upd_no _ _ (by omega)]; exact hhi k_ (by omega) hk2
                    exact JC (2 ^ f0 + 1) 0 0 nI_0.symm (Nat.zero_le _) (by omega) fh fd (fun k_ h_ => absurd h_ (Nat.not_lt_zero k_)) (fun k_ _ h_ => hfd k_ h_) _ _ hw ls (lv_sub hl [1, 2, 3, 4, 5, 6, 0] rfl)
                exact JB f0 0 (by omega) (nI (2 ^ f0)) 1 rfl rfl fh fd (fun k_ hk => hfd k_ (by omega)) _ _ hw ls (lv_sub hl [0, 1, 2, 3, 4, 5] rfl)
              · have hlt : jA < 2 ^ f0 := zn_lt eiA rfl (by omega) c_59
                refine lv_aload_n hx hb_ dX12_page_62 rfl (lv_at hl 0 rfl) ?_
                refine gl_51 hM (hZ _ _).1.1 hw dX12_page_63 ?_
                refine lv_iload hx hb_ dX12_page_66 (lv_at hl 6 rfl) ?_
                refine lv_iload hx hb_ dX12_page_68 (lv_at hl 6 rfl) ?_
                refine z_iast (n := 64) hcf hK_ hw (ty_cel hSh (r := 53) (by decide +kernel) rfl).1 (ty_cel hSh (r := 53) (by decide +kernel) rfl).2.2.1 ((ty_cel hSh (r := 53) (by decide +kernel) rfl).2.2.2.1 (by decide)) (by rw [eiA]; exact vp_in_nI (by omega) (by decide)) dX12_page_70 (fun H_ locs_ hw => ?_)
                obtain ⟨f13, ef13⟩ : ∃ zz, zz = (upd (zA (zsA (zsA S_ (ad 53) fh) (ad 54) fd) (ad 53)) (iA : Int32).toNatClampNeg iA) := ⟨_, rfl⟩
                rw [← ef13] at hw
                have hf13 : f13 = upd fh jA iA := by rw [ef13, (show iA.toNatClampNeg = jA by rw [eiA]; exact nI_clamp (by omega)), show zA (zsA (zsA S_ (ad 53) fh) (ad 54) fd) (ad 53) = _ from ((zA_ne _ _ (ad_inj hSh (r := 53) (r2 := 54) (by decide +kernel) (by decide +kernel) (by decide))).trans (zA_zsA _ _ _))]
                rw [zsA_comm _ _ _ (ad_inj hSh (r := 54) (r2 := 53) (by decide +kernel) (by decide +kernel) (by decide)), zsA_zsA] at hw
                refine lv_aload_n hx hb_ dX12_page_71 rfl (lv_at hl 0 rfl) ?_
                refine gl_52 hM (hZ _ _).1.1 hw dX12_page_72 ?_
                refine lv_iload hx hb_ dX12_page_75 (lv_at hl 6 rfl) ?_
                refine lv_iconst (v := 0) hx hb_ dX12_page_77 (by decide) ?_
                refine z_iast (n := 64) hcf hK_ hw (ty_cel hSh (r := 54) (by decide +kernel) rfl).1 (ty_cel hSh (r := 54) (by decide +kernel) rfl).2.2.1 ((ty_cel hSh (r := 54) (by decide +kernel) rfl).2.2.2.1 (by decide)) (by rw [eiA]; exact vp_in_nI (by omega) (by decide)) dX12_page_78 (fun H_ locs_ hw => ?_)
                obtain ⟨f14, ef14⟩ : ∃ zz, zz = (upd (zA (zsA (zsA S_ (ad 53) f13) (ad 54) fd) (ad 54)) (iA : Int32).toNatClampNeg 0) := ⟨_, rfl⟩
                rw [← ef14] at hw
                have hf14 : f14 = upd fd jA 0 := by rw [ef14, (show iA.toNatClampNeg = jA by rw [eiA]; exact nI_clamp (by omega)), show zA (zsA (zsA S_ (ad 53) f13) (ad 54) fd) (ad 54) = _ from (zA_zsA _ _ _)]
                rw [zsA_zsA] at hw
                obtain ⟨i2_, ei2⟩ : ∃ y_ : Int32, y_ = iA + 1 := ⟨_, rfl⟩
                refine lv_iinc (v := i2_) (lv' := [(6, .int i2_), (0, .ref (ad 17)), (1, .int f_), (2, .int pq), (3, .int (nI (2 ^ f0))), (4, .int (nI (2 ^ f0))), (5, .int 1)]) hx hb_ dX12_page_79 hl (k := 6) rfl (by rw [ei2]; rfl) (by decide) rfl (fun ls hl => ?_)
                refine lv_goto (tgt := 56) hx hb_ dX12_page_82 (by decide) ?_
                refine ihA (jA + 1) i2_ (by rw [ei2, eiA]; exact nI_1 jA) hlt (by omega) f13 f14 (fun k_ hk => ?_) _ _ hw ls (lv_sub hl [1, 2, 3, 4, 5, 6, 0] rfl)
                rcases Nat.lt_or_ge k_ jA with q_ | q_
                · rw [hf13, hf14, upd_no _ _ (by omega), upd_no _ _ (by omega)]; exact hfd k_ q_
                · obtain rfl : k_ = jA := by omega
                  rw [hf13, hf14, upd_at, upd_at, eiA]; rfl
          exact JA (2 ^ f0 + 1) 0 0 nI_0.symm (Nat.zero_le _) (by omega) (zA S_ (ad 53)) (zA S_ (ad 54)) (fun k_ h_ => absurd h_ (Nat.not_lt_zero k_)) _ _ (by rw [zsA_self, zsA_self]; exact hw) ls (lv_sub hl [4, 5, 6, 3, 2, 1, 0] rfl)
        · refine lv_aload_n hx hb_ dX12_page_46 rfl (lv_at hl 3 rfl) ?_
          refine lv_bipush (v := (-5)) hx hb_ dX12_page_47 (by decide) ?_
          refine cl_no hb0 hM hA hV hw ⟨by decide, by decide, by decide, by decide⟩ (by decide) (show (0 : Nat) ≤ 8 by decide) hl.1 dX12_page_49 (fun S1 ρ1 H_ locs_ hV hw => ?_)
          exact z_iretW (v := (-5)) hcf hr hlk hw hP hV (by rw [q_page_out c_38 c_2 c_8 ef hf6 c_43]) dX12_page_52
    · refine lv_aload_n hx hb_ dX12_page_11 rfl (lv_at hl 0 rfl) ?_
      refine lv_iload_n hx hb_ dX12_page_12 rfl (lv_at hl 2 rfl) ?_
      refine lv_if_ge (tgt := 21) hx hb_ dX12_page_13 (by decide) (fun c_13 => ?_) (fun c_13 => ?_)
      · refine lv_bipush (v := (-6)) hx hb_ dX12_page_21 (by decide) ?_
        refine cl_no hb0 hM hA hV hw ⟨by decide, by decide, by decide, by decide⟩ (by decide) (show (0 : Nat) ≤ 8 by decide) hl.1 dX12_page_23 (fun S1 ρ1 H_ locs_ hV hw => ?_)
        exact z_iretW (v := (-6)) hcf hr hlk hw hP hV (by simp [q_page, c_2, c_8, c_13]) dX12_page_26
      · refine lv_bipush (v := (-5)) hx hb_ dX12_page_16 (by decide) ?_
        refine lv_goto (tgt := 23) hx hb_ dX12_page_18 (by decide) ?_
        refine cl_no hb0 hM hA hV hw ⟨by decide, by decide, by decide, by decide⟩ (by decide) (show (0 : Nat) ≤ 8 by decide) hl.1 dX12_page_23 (fun S1 ρ1 H_ locs_ hV hw => ?_)
        exact z_iretW (v := (-5)) hcf hr hlk hw hP hV (by simp [q_page, c_2, c_8, c_13]) dX12_page_26
theorem kq_X11_page {g : Nat → Int} {neg0 : Int → Int} {ad : Nat → Nat} (hg : ∀ i, i < 2 → -2147483648 ≤ g i ∧ g i ≤ 2147483647) (S1 : zS) : ghN (zC ad) neg0 S1 (((36893488156009041824 + (4 * g 0 + (17179869184 * g 1 + 0))).toNat : Nat) : Int) = (q_page (Int32.ofInt (g 0)) (Int32.ofInt (g 1))).toInt := by
  have h0 := hg 0 (by decide)
  have h1 := hg 1 (by decide)
  have e : (((36893488156009041824 + (4 * g 0 + (17179869184 * g 1 + 0))).toNat : Nat) : Int) = 4000 + (0 + 4 * (g 0 + 2147483648 + 4294967296 * (g 1 + 2147483648 + 4294967296 * 0))) := by omega
  rw [e]
  unfold ghN zC
  rw [if_neg (by omega), if_neg (by omega), if_neg (by omega), if_neg (by omega), if_neg (by omega), if_neg (by omega), show (4000 + (0 + 4 * (g 0 + 2147483648 + 4294967296 * (g 1 + 2147483648 + 4294967296 * 0))) - 4000 : Int) = 0 + 4 * (g 0 + 2147483648 + 4294967296 * (g 1 + 2147483648 + 4294967296 * 0)) by omega]
  have hz : zFn (0 + 4 * (g 0 + 2147483648 + 4294967296 * (g 1 + 2147483648 + 4294967296 * 0))) = (q_page (Int32.ofInt (g 0)) (Int32.ofInt (g 1))).toInt := by
    unfold zFn
    rw [if_pos (by omega), show (0 + 4 * (g 0 + 2147483648 + 4294967296 * (g 1 + 2147483648 + 4294967296 * 0))) / 4 = (g 0 + 2147483648 + 4294967296 * (g 1 + 2147483648 + 4294967296 * 0)) by omega]
    rw [zqD_of (r := (g 1 + 2147483648 + 4294967296 * 0)) h0.1 h0.2, zqA_of (r := (g 1 + 2147483648 + 4294967296 * 0)) h0.1 h0.2, zqA_of (r := 0) h1.1 h1.2]
  rw [hz]
  have hr := i32_rng (q_page (Int32.ofInt (g 0)) (Int32.ofInt (g 1)))
  rw [k32l_eq, k32h_eq] at hr
  unfold zcl
  omega
theorem cn_X11_page_0 {ad xs : Nat → Nat} {cD : va_G} {cy : Nat → ClassId} {l : Launch} {neg0 : Int → Int} (hb0 : bndN neg0) : Con zT ad (ghN (zC ad) neg0) (zXI ad) xs cD cy l yX11_page cX11_page 7 ((some .int)) 1 22 sg_X11_page_0 [] := by
  intro g τ S ρ sz hpre
  obtain ⟨p1, p2, p3, p4, p5, p6, p7⟩ := hpre
  have q0 := p2 0 _ rfl
  cases ht0 : τ 0 with
  | none => rw [ht0] at q0; cases q0
  | some a =>
  rw [ht0] at q0
  obtain ⟨ha, hra⟩ := q0
  have hra : ρ a = 0 := List.mem_singleton.mp hra
  have haa : a = ad 0 := by
    have := p6.1.2.2 a ha (by rw [hra]; decide +kernel)
    rw [hra] at this; exact this
  have eav : γK g τ xs (sA sg_X11_page_0) = [.ref (ad 0), .int (Int32.ofInt (g 0)), .int (Int32.ofInt (g 1))] := by
    show [va_rf (τ 0), .int (Int32.ofInt (ev g (lsy 0))), .int (Int32.ofInt (ev g (lsy 1)))] = _
    rw [ht0, haa, ev_lsy, ev_lsy]; rfl
  rw [eav]
  have hg : ∀ i, i < 2 → -2147483648 ≤ g i ∧ g i ≤ 2147483647 := fun i hi => by
    by_cases q0 : i = 0
    · rw [q0]; exact p1 0 (by show 0 < 2; omega)
    by_cases q1 : i = 1
    · rw [q1]; exact p1 1 (by show 1 < 2; omega)
    · omega
  refine c_X11_page hb0 l cD cy sz S ⟨p6, cx_g p7, Fr.refl⟩ (Int32.ofInt (g 0)) (Int32.ofInt (g 1)) ?_
  intro rv S1 ρ1 hp
  obtain ⟨rfl, w1, w2, w3⟩ := hp
  refine ⟨w1, cx_g w2, w3, _, List.mem_cons_self, fun i => if i = 2 then (q_page (Int32.ofInt (g 0)) (Int32.ofInt (g 1))).toInt else g i, τ, fun i hi => if_neg (Nat.ne_of_lt hi), fun _ _ => rfl, fun j hj => ?_, (fun j q hq => by simp at hq), ?_, (fun f hf => by simp at hf), fun mm hm => ?_⟩
  · have hj : j < 1 := hj
    obtain rfl : j = 0 := by omega
    have hr := i32_rng (q_page (Int32.ofInt (g 0)) (Int32.ofInt (g 1)))
    exact ⟨Int.le_trans hr.1 (Int.le_of_eq (if_pos rfl).symm), Int.le_trans (Int.le_of_eq (if_pos rfl)) hr.2⟩
  · show [Value.int (q_page (Int32.ofInt (g 0)) (Int32.ofInt (g 1)))] = [.int (Int32.ofInt (ev _ (lsy 2)))]
    rw [ev_lsy, if_pos rfl, ofInt_toInt32]
  · cases List.mem_singleton.mp hm
    refine ⟨?_, by decide +kernel⟩
    have k1 := kq_X11_page (neg0 := neg0) (ad := ad) hg S1
    show ghN (zC ad) neg0 S1 _ = ev _ (lsy 2)
    rw [ev_lsy, if_pos rfl]
    exact k1
theorem kq_X12_page {g : Nat → Int} {neg0 : Int → Int} {ad : Nat → Nat} (hg : ∀ i, i < 2 → -2147483648 ≤ g i ∧ g i ≤ 2147483647) (S1 : zS) : ghN (zC ad) neg0 S1 (((36893488156009041824 + (4 * g 0 + (17179869184 * g 1 + 0))).toNat : Nat) : Int) = (q_page (Int32.ofInt (g 0)) (Int32.ofInt (g 1))).toInt := by
  have h0 := hg 0 (by decide)
  have h1 := hg 1 (by decide)
  have e : (((36893488156009041824 + (4 * g 0 + (17179869184 * g 1 + 0))).toNat : Nat) : Int) = 4000 + (0 + 4 * (g 0 + 2147483648 + 4294967296 * (g 1 + 2147483648 + 4294967296 * 0))) := by omega
  rw [e]
  unfold ghN zC
  rw [if_neg (by omega), if_neg (by omega), if_neg (by omega), if_neg (by omega), if_neg (by omega), if_neg (by omega), show (4000 + (0 + 4 * (g 0 + 2147483648 + 4294967296 * (g 1 + 2147483648 + 4294967296 * 0))) - 4000 : Int) = 0 + 4 * (g 0 + 2147483648 + 4294967296 * (g 1 + 2147483648 + 4294967296 * 0)) by omega]
  have hz : zFn (0 + 4 * (g 0 + 2147483648 + 4294967296 * (g 1 + 2147483648 + 4294967296 * 0))) = (q_page (Int32.ofInt (g 0)) (Int32.ofInt (g 1))).toInt := by
    unfold zFn
    rw [if_pos (by omega), show (0 + 4 * (g 0 + 2147483648 + 4294967296 * (g 1 + 2147483648 + 4294967296 * 0))) / 4 = (g 0 + 2147483648 + 4294967296 * (g 1 + 2147483648 + 4294967296 * 0)) by omega]
    rw [zqD_of (r := (g 1 + 2147483648 + 4294967296 * 0)) h0.1 h0.2, zqA_of (r := (g 1 + 2147483648 + 4294967296 * 0)) h0.1 h0.2, zqA_of (r := 0) h1.1 h1.2]
  rw [hz]
  have hr := i32_rng (q_page (Int32.ofInt (g 0)) (Int32.ofInt (g 1)))
  rw [k32l_eq, k32h_eq] at hr
  unfold zcl
  omega
theorem cn_X12_page_0 {ad xs : Nat → Nat} {cD : va_G} {cy : Nat → ClassId} {l : Launch} {neg0 : Int → Int} (hb0 : bndN neg0) : Con zT ad (ghN (zC ad) neg0) (zXI ad) xs cD cy l yX12_page cX12_page 8 ((some .int)) 1 21 sg_X12_page_0 [] := by
  intro g τ S ρ sz hpre
  obtain ⟨p1, p2, p3, p4, p5, p6, p7⟩ := hpre
  have q0 := p2 0 _ rfl
  cases ht0 : τ 0 with
  | none => rw [ht0] at q0; cases q0
  | some a =>
  rw [ht0] at q0
  obtain ⟨ha, hra⟩ := q0
  have hra : ρ a = 17 := List.mem_singleton.mp hra
  have haa : a = ad 17 := by
    have := p6.1.2.2 a ha (by rw [hra]; decide +kernel)
    rw [hra] at this; exact this
  have eav : γK g τ xs (sA sg_X12_page_0) = [.ref (ad 17), .int (Int32.ofInt (g 0)), .int (Int32.ofInt (g 1))] := by
    show [va_rf (τ 0), .int (Int32.ofInt (ev g (lsy 0))), .int (Int32.ofInt (ev g (lsy 1)))] = _
    rw [ht0, haa, ev_lsy, ev_lsy]; rfl
  rw [eav]
  have hg : ∀ i, i < 2 → -2147483648 ≤ g i ∧ g i ≤ 2147483647 := fun i hi => by
    by_cases q0 : i = 0
    · rw [q0]; exact p1 0 (by show 0 < 3; omega)
    by_cases q1 : i = 1
    · rw [q1]; exact p1 1 (by show 1 < 3; omega)
    · omega
  refine c_X12_page hb0 l cD cy sz S ⟨p6, cx_g p7, Fr.refl⟩ (Int32.ofInt (g 0)) (Int32.ofInt (g 1)) ?_
  intro rv S1 ρ1 hp
  obtain ⟨rfl, w1, w2, w3⟩ := hp
  obtain ⟨k1, k2⟩ := p5 0 _ rfl
  have k1 : ghN (zC ad) neg0 S _ = g 2 := k1
  have k3 := kq_X12_page (neg0 := neg0) (ad := ad) hg S
  have k4 : g 2 = (q_page (Int32.ofInt (g 0)) (Int32.ofInt (g 1))).toInt := k1.symm.trans k3
  refine ⟨w1, cx_g w2, w3, _, List.mem_cons_self, g, τ, fun _ _ => rfl, fun _ _ => rfl, (fun j hj => by simp at hj), (fun j q hq => by simp at hq), ?_, (fun f hf => by simp at hf), (fun mm hm => by simp at hm)⟩
  show [Value.int (q_page (Int32.ofInt (g 0)) (Int32.ofInt (g 1)))] = [.int (Int32.ofInt (ev g (lsy 2)))]
  rw [ev_lsy, k4, ofInt_toInt32]
