/-! a pool under construction: what is there by roles (ro: where), with what is known of it -/
def zIv (ro : Nat → Nat) (F P : List (Nat × Nat × Nat)) (V : List (Nat × Nat × Int32)) (Z : List Nat) (G : List (Nat × Nat × Nat)) (Nn : List Nat) (T : zS) : Prop :=
  (∀ t, t ∈ F → ro t.1 ∈ zL T ∧ zK T (ro t.1) = t.2.1 ∧ (12 < t.2.1 → zN T (ro t.1) = t.2.2)) ∧
  (∀ t, t ∈ F → ∀ u, u ∈ F → ro t.1 = ro u.1 → t.1 = u.1) ∧
  (∀ t, t ∈ P → zQ T t.1 (ro t.2.1) = some (ro t.2.2)) ∧
  (∀ t, t ∈ V → zI T t.1 (ro t.2.1) = t.2.2) ∧
  (∀ i, i ∈ Z → ∀ n, zA T (ro i) n = 0) ∧
  (∀ t, t ∈ G → zR T (ro t.1) t.2.1 = some (ro t.2.2)) ∧
  (∀ i, i ∈ Nn → ∀ n, zR T (ro i) n = none)
def zRl (F : List (Nat × Nat × Nat)) : List Nat := F.map (fun t => t.1)
abbrev zWf (F P : List (Nat × Nat × Nat)) (V : List (Nat × Nat × Int32)) (Z : List Nat) (G : List (Nat × Nat × Nat)) (Nn : List Nat) : Prop :=
  (∀ t, t ∈ P → t.2.1 ∈ zRl F ∧ t.2.2 ∈ zRl F) ∧ (∀ t, t ∈ V → t.2.1 ∈ zRl F) ∧ (∀ i, i ∈ Z → i ∈ zRl F) ∧ (∀ t, t ∈ G → t.1 ∈ zRl F ∧ t.2.2 ∈ zRl F) ∧ (∀ i, i ∈ Nn → i ∈ zRl F)
def zro (ro : Nat → Nat) (i q : Nat) : Nat → Nat := fun j => if j = i then q else ro j
section IV
variable {ro : Nat → Nat} {F P : List (Nat × Nat × Nat)} {V : List (Nat × Nat × Int32)} {Z : List Nat} {G : List (Nat × Nat × Nat)} {Nn : List Nat} {T : zS}
theorem zIv.rl (h : zIv ro F P V Z G Nn T) {o : Nat} (ho : o ∈ zRl F) : ro o ∈ zL T := by
  obtain ⟨t, ht, rfl⟩ := List.mem_map.mp ho
  exact (h.1 t ht).1
theorem zIv.ij (h : zIv ro F P V Z G Nn T) {o o2 : Nat} (ho : o ∈ zRl F) (ho2 : o2 ∈ zRl F) (hne : o ≠ o2) : ro o ≠ ro o2 := fun e => by
  obtain ⟨t, ht, rfl⟩ := List.mem_map.mp ho
  obtain ⟨u, hu, rfl⟩ := List.mem_map.mp ho2
  exact hne (h.2.1 t ht u hu e)
theorem zIv_new (h : zIv ro F P V Z G Nn T) (hwf : zWf F P V Z G Nn) {q i k n : Nat} (hq : q ∉ zL T) (hi : i ∉ zRl F) : zIv (zro ro i q) ((i, k, n) :: F) P V (i :: Z) G (i :: Nn) (zNew T q k n) := by
  have hrl := fun (o : Nat) (ho : o ∈ zRl F) => h.rl ho
  obtain ⟨h1, h2, h3, h4, h5, h6, h7⟩ := h
  obtain ⟨w1, w2, w3, w4, w5⟩ := hwf
  have ev : ∀ o, o ∈ zRl F → zro ro i q o = ro o := fun o ho => by
    show (if o = i then q else ro o) = ro o
    exact if_neg (fun (e : o = i) => hi (by rw [← e]; exact ho))
  have nq : ∀ o, o ∈ zRl F → ro o ≠ q := fun o ho e => hq (e ▸ hrl o ho)
  have mr : ∀ t, t ∈ F → t.1 ∈ zRl F := fun t ht => List.mem_map.mpr ⟨t, ht, rfl⟩
  have ei : zro ro i q i = q := if_pos rfl
  refine ⟨?_, ?_, ?_, ?_, ?_, ?_, ?_⟩
  · intro t ht
    rcases List.mem_cons.mp ht with rfl | ht
    · show zro ro i q i ∈ zL (zNew T q k n) ∧ zK (zNew T q k n) (zro ro i q i) = k ∧ (12 < k → zN (zNew T q k n) (zro ro i q i) = n)
      rw [ei]
      exact ⟨zNew_m, zNew_K, fun _ => zNew_N⟩
    · rw [ev _ (mr t ht)]
      exact ⟨List.mem_append_left _ (h1 t ht).1, (va_up_ne _ _ (nq _ (mr t ht))).trans (h1 t ht).2.1, fun hz => (va_up_ne _ _ (nq _ (mr t ht))).trans ((h1 t ht).2.2 hz)⟩
  · intro t ht u hu e
    rcases List.mem_cons.mp ht with rfl | ht <;> rcases List.mem_cons.mp hu with rfl | hu
    · rfl
    · have e2 : zro ro i q i = zro ro i q u.1 := e
      rw [ei, ev _ (mr u hu)] at e2
      exact absurd e2.symm (nq _ (mr u hu))
    · have e2 : zro ro i q t.1 = zro ro i q i := e
      rw [ei, ev _ (mr t ht)] at e2
      exact absurd e2 (nq _ (mr t ht))
    · rw [ev _ (mr t ht), ev _ (mr u hu)] at e
      exact h2 t ht u hu e
  · intro t ht
    rw [ev _ (w1 t ht).1, ev _ (w1 t ht).2]
    show (if ro t.2.1 = q then none else zQ T t.1 (ro t.2.1)) = _
    rw [if_neg (nq _ (w1 t ht).1)]
    exact h3 t ht
  · intro t ht
    rw [ev _ (w2 t ht)]
    show (if ro t.2.1 = q then 0 else zI T t.1 (ro t.2.1)) = _
    rw [if_neg (nq _ (w2 t ht))]
    exact h4 t ht
  · intro j hj x
    rcases List.mem_cons.mp hj with rfl | hj
    · rw [ei]; exact congrFun zNew_A x
    · rw [ev _ (w3 j hj), show zA (zNew T q k n) (ro j) = zA T (ro j) from va_up_ne _ _ (nq _ (w3 j hj))]
      exact h5 j hj x
  · intro t ht
    rw [ev _ (w4 t ht).1, ev _ (w4 t ht).2, show zR (zNew T q k n) (ro t.1) = zR T (ro t.1) from va_up_ne _ _ (nq _ (w4 t ht).1)]
    exact h6 t ht
  · intro j hj x
    rcases List.mem_cons.mp hj with rfl | hj
    · rw [ei]; exact congrFun zNew_R x
    · rw [ev _ (w5 j hj), show zR (zNew T q k n) (ro j) = zR T (ro j) from va_up_ne _ _ (nq _ (w5 j hj))]
      exact h7 j hj x
theorem zIv_Q (h : zIv ro F P V Z G Nn T) (hwf : zWf F P V Z G Nn) {j o t0 : Nat} (ho : o ∈ zRl F) (hc : ∀ u, u ∈ P → u.1 ≠ j ∨ u.2.1 ≠ o) : zIv ro F ((j, o, t0) :: P) V Z G Nn (zsQ T j (ro o) (some (ro t0))) := by
  refine ⟨h.1, h.2.1, fun t ht => ?_, h.2.2.2⟩
  rcases List.mem_cons.mp ht with rfl | ht
  · exact zu2_self
  · exact (zu2_ne ((hc t ht).elim Or.inr (fun e => Or.inl (h.ij (hwf.1 t ht).1 ho e)))).trans (h.2.2.1 t ht)
theorem zIv_Qn (h : zIv ro F P V Z G Nn T) (hwf : zWf F P V Z G Nn) {j o : Nat} (ho : o ∈ zRl F) (hc : ∀ u, u ∈ P → u.1 ≠ j ∨ u.2.1 ≠ o) : zIv ro F P V Z G Nn (zsQ T j (ro o) none) := by
  refine ⟨h.1, h.2.1, fun t ht => ?_, h.2.2.2⟩
  exact (zu2_ne ((hc t ht).elim Or.inr (fun e => Or.inl (h.ij (hwf.1 t ht).1 ho e)))).trans (h.2.2.1 t ht)
theorem zIv_I (h : zIv ro F P V Z G Nn T) (hwf : zWf F P V Z G Nn) {j o : Nat} {v : Int32} (ho : o ∈ zRl F) (hc : ∀ u, u ∈ V → u.1 ≠ j ∨ u.2.1 ≠ o) : zIv ro F P ((j, o, v) :: V) Z G Nn (zsI T j (ro o) v) := by
  refine ⟨h.1, h.2.1, h.2.2.1, fun t ht => ?_, h.2.2.2.2⟩
  rcases List.mem_cons.mp ht with rfl | ht
  · exact zu2_self
  · exact (zu2_ne ((hc t ht).elim Or.inr (fun e => Or.inl (h.ij (hwf.2.1 t ht) ho e)))).trans (h.2.2.2.1 t ht)
theorem zIv_A (h : zIv ro F P V Z G Nn T) (hwf : zWf F P V Z G Nn) {o : Nat} {f : Nat → Int32} (ho : o ∈ zRl F) (hc : o ∉ Z) : zIv ro F P V Z G Nn (zsA T (ro o) f) := by
  refine ⟨h.1, h.2.1, h.2.2.1, h.2.2.2.1, fun j hj x => ?_, h.2.2.2.2.2⟩
  rw [show zA (zsA T (ro o) f) (ro j) = zA T (ro j) from va_up_ne _ _ (h.ij (hwf.2.2.1 j hj) ho (fun e => hc (e ▸ hj)))]
  exact h.2.2.2.2.1 j hj x
theorem zIv_R (h : zIv ro F P V Z G Nn T) (hwf : zWf F P V Z G Nn) {o k t0 : Nat} (ho : o ∈ zRl F) (hn : o ∉ Nn) (hc : ∀ u, u ∈ G → u.1 ≠ o ∨ u.2.1 ≠ k) : zIv ro F P V Z ((o, k, t0) :: G) Nn (zsR T (ro o) (va_up (zR T (ro o)) k (some (ro t0)))) := by
  refine ⟨h.1, h.2.1, h.2.2.1, h.2.2.2.1, h.2.2.2.2.1, fun t ht => ?_, fun j hj x => ?_⟩
  · rcases List.mem_cons.mp ht with rfl | ht
    · show va_up (zR T) (ro o) (va_up (zR T (ro o)) k (some (ro t0))) (ro o) k = _
      rw [va_up_self, va_up_self]
    · by_cases e : t.1 = o
      · have hk : t.2.1 ≠ k := (hc t ht).elim (fun z => absurd e z) id
        show va_up (zR T) (ro o) (va_up (zR T (ro o)) k (some (ro t0))) (ro t.1) t.2.1 = _
        rw [e, va_up_self, va_up_ne _ _ hk, ← e]
        exact h.2.2.2.2.2.1 t ht
      · rw [show zR (zsR T (ro o) (va_up (zR T (ro o)) k (some (ro t0)))) (ro t.1) = zR T (ro t.1) from va_up_ne _ _ (h.ij (hwf.2.2.2.1 t ht).1 ho e)]
        exact h.2.2.2.2.2.1 t ht
  · rw [show zR (zsR T (ro o) (va_up (zR T (ro o)) k (some (ro t0)))) (ro j) = zR T (ro j) from va_up_ne _ _ (h.ij (hwf.2.2.2.2 j hj) ho (fun e => hn (e ▸ hj)))]
    exact h.2.2.2.2.2.2 j hj x
theorem zIv_sub (h : zIv ro F P V Z G Nn T) {P1 : List (Nat × Nat × Nat)} {V1 : List (Nat × Nat × Int32)} {Z1 Nn1 : List Nat} (hP : ∀ t, t ∈ P1 → t ∈ P) (hV : ∀ t, t ∈ V1 → t ∈ V) (hZ : ∀ t, t ∈ Z1 → t ∈ Z) (hN : ∀ t, t ∈ Nn1 → t ∈ Nn) : zIv ro F P1 V1 Z1 G Nn1 T :=
  ⟨h.1, h.2.1, fun t ht => h.2.2.1 t (hP t ht), fun t ht => h.2.2.2.1 t (hV t ht), fun t ht => h.2.2.2.2.1 t (hZ t ht), h.2.2.2.2.2.1, fun t ht => h.2.2.2.2.2.2 t (hN t ht)⟩
theorem zIv.k (h : zIv ro F P V Z G Nn T) {o k n : Nat} (ht : (o, k, n) ∈ F) : zK T (ro o) = k := (h.1 _ ht).2.1
theorem zIv.n (h : zIv ro F P V Z G Nn T) {o k n : Nat} (ht : (o, k, n) ∈ F) (hk : 12 < k) : zN T (ro o) = n := (h.1 _ ht).2.2 hk
theorem zIv.q (h : zIv ro F P V Z G Nn T) {j o t0 : Nat} (ht : (j, o, t0) ∈ P) : zQ T j (ro o) = some (ro t0) := h.2.2.1 _ ht
/-- the model's shape out of it -/
theorem zIv.shM (h : zIv ro F P V Z G Nn T) (hF : ∀ i, i ∈ mF → (i, mKD i, mLN i) ∈ F) (hP : ∀ i, i ∈ mF → i ≠ 0 → (1200 + i, 0, i) ∈ P) : ShM T ro := by
  refine ⟨fun i j hi hj e => h.2.1 _ (hF i hi) _ (hF j hj) e, fun i hi => ⟨(h.1 _ (hF i hi)).1, (h.1 _ (hF i hi)).2.1, fun h0 => (h.1 _ (hF i hi)).2.2 ?_⟩, fun i hi h0 => h.2.2.1 _ (hP i hi h0)⟩
  exact (show ∀ i, i ∈ mF → i ≠ 0 → 12 < mKD i by decide) i hi h0
theorem zIv.frM (h : zIv ro F P V Z G Nn T) (hV : ∀ t, t ∈ [(1200, 0, (0 : Int32)), (1201, 0, -1), (1249, 0, 0), (1254, 0, 0), (1255, 0, 0)] → t ∈ V) (h7 : 7 ∈ Z) (h2 : 2 ∈ Z) : FrM T ro :=
  ⟨h.2.2.2.1 (1200, 0, 0) (hV _ (by decide)), h.2.2.2.1 (1201, 0, -1) (hV _ (by decide)), h.2.2.2.1 (1249, 0, 0) (hV _ (by decide)), h.2.2.2.1 (1254, 0, 0) (hV _ (by decide)), h.2.2.2.1 (1255, 0, 0) (hV _ (by decide)), h.2.2.2.2.1 7 h7, h.2.2.2.2.1 2 h2⟩
/-- the class's -/
theorem zIv.shC (h : zIv ro F P V Z G Nn T) (hF : ∀ i, i < 33 → (i, cKD i, cLN i) ∈ F) (hP : ∀ t, t ∈ cPT → t ∈ P) (hG : ∀ j, j < 8 → (1, j, 17 + j) ∈ G ∧ (700, 17 + j, 25 + j) ∈ P) : ShC T ro :=
  ⟨fun i j hi hj e => h.2.1 _ (hF i hi) _ (hF j hj) e, fun i hi => h.1 _ (hF i hi), fun k _ t ht => h.2.2.1 t (hP t (List.mem_of_getElem? ht)), fun j hj => ⟨h.2.2.2.2.2.1 _ (hG j hj).1, h.2.2.1 _ (hG j hj).2⟩⟩
theorem zIv.frC (h : zIv ro F P V Z G Nn T) (hV : ∀ t, t ∈ [(1110, 0, (0 : Int32)), (1111, 0, -1), (1112, 0, 0), (503, 9, -1), (305, 10, 0)] → t ∈ V) (hW : ∀ j, j < 8 → (701, 17 + j, (0 : Int32)) ∈ V ∧ (702, 17 + j, (-1 : Int32)) ∈ V ∧ (703, 17 + j, (-1 : Int32)) ∈ V) (h14 : 14 ∈ Z) (h4 : 4 ∈ Z) (h2 : 2 ∈ Nn) : FrC T ro :=
  ⟨h.2.2.2.1 (1110, 0, 0) (hV _ (by decide)), h.2.2.2.1 (1111, 0, -1) (hV _ (by decide)), h.2.2.2.1 (1112, 0, 0) (hV _ (by decide)), fun j hj => ⟨h.2.2.2.1 (701, 17 + j, 0) (hW j hj).1, h.2.2.2.1 (702, 17 + j, -1) (hW j hj).2.1, h.2.2.2.1 (703, 17 + j, -1) (hW j hj).2.2⟩, h.2.2.2.1 (503, 9, -1) (hV _ (by decide)), h.2.2.2.1 (305, 10, 0) (hV _ (by decide)), h.2.2.2.2.1 14 h14, h.2.2.2.2.1 4 h4, h.2.2.2.2.2.2 2 h2⟩
end IV
theorem zIv_0 {x0 k : Nat} {S : zS} {V : List (Nat × Nat × Int32)} (hL : x0 ∈ zL S) (hk : zK S x0 = k) (h12 : ¬ 12 < k) (hV : ∀ t, t ∈ V → zI S t.1 x0 = t.2.2) : zIv (fun _ => x0) [(0, k, 0)] [] V [] [] [] S :=
  ⟨fun t ht => by rw [List.mem_singleton.mp ht]; exact ⟨hL, hk, fun z => absurd z h12⟩, fun t ht u hu _ => by rw [List.mem_singleton.mp ht, List.mem_singleton.mp hu], fun t ht => absurd ht List.not_mem_nil, hV, fun t ht => absurd ht List.not_mem_nil, fun t ht => absurd ht List.not_mem_nil, fun t ht => absurd ht List.not_mem_nil⟩
