
/-! by hand: answers by what is asked alone: what all of them need -/
def PI (P : Int32 → zS → Prop) : Option Value → zS → (Nat → Nat) → Prop := fun rv S1 _ => ∃ v : Int32, rv = some (.int v) ∧ P v S1
def PJ (P : Int64 → zS → Prop) : Option Value → zS → (Nat → Nat) → Prop := fun rv S1 _ => ∃ v : Int64, rv = some (.long v) ∧ P v S1
def PN (P : zS → Prop) : Option Value → zS → (Nat → Nat) → Prop := fun rv S1 _ => rv = none ∧ P S1
/-- the world kept, but for some regions -/
def WCF (ad : Nat → Nat) (md : List Nat) (S0 : zS) (ρ0 : Nat → Nat) (S : zS) (ρ : Nat → Nat) : Prop := Wld zT ad (zXI ad) S ρ ∧ CoupX zT ad S (fun _ => 0) [] ∧ Fr zT ad md S0 ρ0 S ρ
def PW (ad : Nat → Nat) (md : List Nat) (S0 : zS) (ρ0 : Nat → Nat) (v : Int32) : Option Value → zS → (Nat → Nat) → Prop := fun rv S1 ρ1 => rv = some (.int v) ∧ WCF ad md S0 ρ0 S1 ρ1
theorem cx_g {ad : Nat → Nat} {S : zS} {g g' : Nat → Int} (h : CoupX zT ad S g []) : CoupX zT ad S g' [] := fun gi G hG t ht _ => h gi G hG t ht (fun d hd => by cases hd)
section FCL
variable {ad xs : Nat → Nat} {cD : va_G} {cy : Nat → ClassId} {A : Nat → Prop} {S S0 : zS} {ρ ρ0 : Nat → Nat} {cc : ByteArray} {nL : Nat} {neg0 : Int → Int} {md : List Nat}
variable {p : Program} {l : Launch} {e : Env} {R : Room} {s : State} {m : MethodId} {args : Array Value} {below : List Frame} {meth : Method} {c : Code} {Q : State → Prop} {Ts : List Cond} {cells slots pc : Nat} {H : Heap} {locs : List Loc} {ls : Array Slot} {rest : List Value}
theorem z_iretI {P : Int32 → zS → Prop} {own : String} {maxL : Nat} {v : Int32} {ty : FieldType} (hcf : CallFix p m c cc maxL s args Ts own) (hr : meth.sig.returnType = some ty) (hn : narrow ty (.int v) = .int v) (hlk : meth.locks = false) (hw : zPw cD cy A s.heap S H locs) (hp : P v S) (hdg : decode cc pc = .ok (.ireturn, 1)) : W p l e R s m args below meth c H locs cells slots (MQ below (QX cD cy (PI P) A) args s cells slots A) (F0 m pc ls [.int v]) :=
  z_iretQ (ρ1 := fun _ => 0) hcf hr hn hlk hw ⟨v, rfl, hp⟩ hdg
theorem z_vretI {P : zS → Prop} {own : String} {maxL : Nat} (hcf : CallFix p m c cc maxL s args Ts own) (hr : meth.sig.returnType = none) (hlk : meth.locks = false) (hw : zPw cD cy A s.heap S H locs) (hp : P S) (hdg : decode cc pc = .ok (.return_, 1)) : W p l e R s m args below meth c H locs cells slots (MQ below (QX cD cy (PN P) A) args s cells slots A) (F0 m pc ls []) :=
  z_vretQ (ρ1 := fun _ => 0) hcf hr hlk hw ⟨rfl, hp⟩ hdg
theorem z_iretW {Post : Option Value → zS → (Nat → Nat) → Prop} {own : String} {maxL : Nat} {v val : Int32} (hcf : CallFix p m c cc maxL s args Ts own) (hr : meth.sig.returnType = some .int) (hlk : meth.locks = false) (hw : zPw cD cy A s.heap S H locs) (hP : ∀ rv S1 ρ1, PW ad md S0 ρ0 val rv S1 ρ1 → Post rv S1 ρ1) (hV : WCF ad md S0 ρ0 S ρ) (hp : v = val) (hdg : decode cc pc = .ok (.ireturn, 1)) : W p l e R s m args below meth c H locs cells slots (MQ below (QX cD cy Post A) args s cells slots A) (F0 m pc ls [.int v]) :=
  z_iretQ (ρ1 := ρ) hcf hr rfl hlk hw (hP _ _ _ ⟨by rw [hp], hV⟩) hdg

theorem cl_refuse {v : Int32} (hb0 : bndN neg0) (hM : MX xs cD cy A p s m args c cc nL Ts RX11) (hA : ∀ q, s.heap.size ≤ q → A q) (hV : WCF ad md S0 ρ0 S ρ) (hw : zPw cD cy A s.heap S H locs) (hR : 1 ≤ R.frames ∧ cells ≤ R.cells ∧ slots ≤ R.slots ∧ 22 ≤ R.locals) (hst : (rest.map fun v => v.category).sum ≤ 8) (hls : ls.size = nL) (hd : decode cc pc = .ok (.invokevirtual 65, 3)) (k : ∀ (S1 : zS) (ρ1 : Nat → Nat) (H1 : Heap) (locs1 : List Loc), WCF ad md S0 ρ0 S1 ρ1 → zPw cD cy A s.heap S1 H1 locs1 → W p l e R s m args below meth c H1 locs1 cells slots Q (F0 m (pc + 3) ls (.int v :: rest))) : W p l e R s m args below meth c H locs cells slots Q (F0 m pc ls (.int v :: .ref (ad 0) :: rest)) := by
  have c0 := ty_cel hV.1.1 (r := 0) (by decide +kernel) rfl
  have key := cn_X11_refuse_0 (neg0 := neg0) (ad := ad) (xs := xs) (cD := cD) (cy := cy) (l := l) hb0 (fun _ => v.toInt) (fun _ => some (ad 0)) S ρ H.size ⟨fun i hi => ?_, fun i q hq => ?_, fun q => absurd rfl q, (fun f hf => absurd hf List.not_mem_nil), (fun j q hq => by cases hq), hV.1, cx_g hV.2.1⟩
  · have e1 : γK (fun _ => v.toInt) (fun _ => some (ad 0)) xs (sA sg_X11_refuse_0) = [.ref (ad 0), .int v] := by
      show [va_rf (some (ad 0)), .int (Int32.ofInt (ev _ (lsy 0)))] = _
      rw [ev_lsy, ofInt_toInt32]; rfl
    rw [e1] at key
    have hrun := rl_RX11_2_65_11 p l e R s m args below meth c H locs cells slots xs cD cy A cc nL Ts S pc ls rest [.ref (ad 0), .int v] _ _ 0 0 _ hM hw rfl (Or.inr (Or.inl ⟨by decide, _, _, rfl, c0.1, c0.2.2.1⟩)) key rfl rfl hR.1 hR.2.2.2 hst hd ⟨hR.2.1, hR.2.2.1⟩ hls
    refine z_call hw hA hrun (fun rv S1 ρ1 H1 locs1 hp hw1 => ?_)
    obtain ⟨q1, q2, q3, o, ho, g2, τ2, q4, q5, q6⟩ := hp
    have ho := List.mem_singleton.mp ho
    subst ho
    have u3 : rv.toList = [.int (Int32.ofInt (ev g2 (lsy 0)))] := q6.2.2.1
    rw [ev_lsy, q4 0 (by decide), ofInt_toInt32] at u3
    cases rv with
    | none => cases u3
    | some w => cases u3; exact k S1 ρ1 H1 locs1 ⟨q1, cx_g q2, (hV.2.2.trans q3).mono (fun a ha => (List.mem_append.mp ha).elim id (fun z => absurd z List.not_mem_nil))⟩ hw1
  · have hi : i < 1 := hi
    obtain rfl : i = 0 := by omega
    exact i32_rng v
  · match i, hq with
    | 0, hq => cases hq; exact ⟨c0.1, by rw [c0.2.1]; exact List.mem_cons_self⟩
theorem cl_no {v : Int32} (hb0 : bndN neg0) (hM : MX xs cD cy A p s m args c cc nL Ts RX12) (hA : ∀ q, s.heap.size ≤ q → A q) (hV : WCF ad md S0 ρ0 S ρ) (hw : zPw cD cy A s.heap S H locs) (hR : 1 ≤ R.frames ∧ cells ≤ R.cells ∧ slots ≤ R.slots ∧ 21 ≤ R.locals) (hv : -7 ≤ v.toInt ∧ v.toInt ≤ -1) (hst : (rest.map fun v => v.category).sum ≤ 8) (hls : ls.size = nL) (hd : decode cc pc = .ok (.invokevirtual 136, 3)) (k : ∀ (S1 : zS) (ρ1 : Nat → Nat) (H1 : Heap) (locs1 : List Loc), WCF ad md S0 ρ0 S1 ρ1 → zPw cD cy A s.heap S1 H1 locs1 → W p l e R s m args below meth c H1 locs1 cells slots Q (F0 m (pc + 3) ls (.int v :: rest))) : W p l e R s m args below meth c H locs cells slots Q (F0 m pc ls (.int v :: .ref (ad 17) :: rest)) := by
  have c0 := ty_cel hV.1.1 (r := 17) (by decide +kernel) rfl
  have key := cn_X12_no_0 (neg0 := neg0) (ad := ad) (xs := xs) (cD := cD) (cy := cy) (l := l) hb0 (fun _ => v.toInt) (fun _ => some (ad 17)) S ρ H.size ⟨fun i hi => ?_, fun i q hq => ?_, fun q => absurd rfl q, (fun f hf => absurd hf List.not_mem_nil), (fun j q hq => by cases hq), hV.1, cx_g hV.2.1⟩
  · have e1 : γK (fun _ => v.toInt) (fun _ => some (ad 17)) xs (sA sg_X12_no_0) = [.ref (ad 17), .int v] := by
      show [va_rf (some (ad 17)), .int (Int32.ofInt (ev _ (lsy 0)))] = _
      rw [ev_lsy, ofInt_toInt32]; rfl
    rw [e1] at key
    have hrun := rl_RX12_2_136_12 p l e R s m args below meth c H locs cells slots xs cD cy A cc nL Ts S pc ls rest [.ref (ad 17), .int v] _ _ 0 0 _ hM hw rfl (Or.inr (Or.inl ⟨by decide, _, _, rfl, c0.1, c0.2.2.1⟩)) key rfl rfl hR.1 hR.2.2.2 hst hd ⟨hR.2.1, hR.2.2.1⟩ hls
    refine z_call hw hA hrun (fun rv S1 ρ1 H1 locs1 hp hw1 => ?_)
    obtain ⟨q1, q2, q3, o, ho, g2, τ2, q4, q5, q6⟩ := hp
    have ho := List.mem_singleton.mp ho
    subst ho
    have u3 : rv.toList = [.int (Int32.ofInt (ev g2 (lsy 0)))] := q6.2.2.1
    rw [ev_lsy, q4 0 (by decide), ofInt_toInt32] at u3
    cases rv with
    | none => cases u3
    | some w => cases u3; exact k S1 ρ1 H1 locs1 ⟨q1, cx_g q2, (hV.2.2.trans q3).mono (fun a ha => (List.mem_append.mp ha).elim id (fun z => absurd z List.not_mem_nil))⟩ hw1
  · have hi : i < 1 := hi
    obtain rfl : i = 0 := by omega
    exact hv
  · match i, hq with
    | 0, hq => cases hq; exact ⟨c0.1, by rw [c0.2.1]; exact List.mem_cons_self⟩
end FCL
/-- what cells there are, apart from what they hold -/
def ShT (ad : Nat → Nat) (S : zS) : Prop := (∀ r, r < tU zT → ad r ∈ zL S) ∧ (∀ (r : Nat) (ri : RI), r < tU zT → (tRT zT)[r]? = some ri → zK S (ad r) = ri.1 ∧ (12 < ri.1 → zN S (ad r) = ri.2.1)) ∧ (∀ (r f r2 : Nat) (ri : RI), r < tU zT → (tRT zT)[r]? = some ri → ri.1 < 13 → ri.2.2.1[f]? = some (.inr (.inl (false, [r2]))) → r2 < tU zT → zQ S (z_bs ri.1 + f) (ad r) = some (ad r2)) ∧ (∀ r r2, r < tU zT → r2 < tU zT → r ≠ r2 → ad r ≠ ad r2)
theorem sh_of {ad : Nat → Nat} {S : zS} {ρ : Nat → Nat} (h : Typed zT ad S ρ) : ShT ad S :=
  ⟨fun r hr => (h.2.1 r hr).1, fun r ri hr hri => ⟨(ty_cel h hr hri).2.2.1, (ty_cel h hr hri).2.2.2.1⟩, fun r f r2 ri hr hri hk hf hr2 => ty_fld h hr hri hk hf hr2, fun r r2 hr hr2 hn => ad_inj h hr hr2 hn⟩
theorem sh_A {ad : Nat → Nat} {S : zS} {a : Nat} {f : Nat → Int32} (h : ShT ad S) : ShT ad (zsA S a f) := h
theorem sh_I {ad : Nat → Nat} {S : zS} {j a : Nat} {v : Int32} (h : ShT ad S) : ShT ad (zsI S j a v) := h
theorem sh_L {ad : Nat → Nat} {S : zS} (h : ShT ad S) {r : Nat} (hr : r < tU zT) : ad r ∈ zL S := h.1 r hr
theorem sh_K {ad : Nat → Nat} {S : zS} (h : ShT ad S) {r : Nat} {ri : RI} (hr : r < tU zT) (hri : (tRT zT)[r]? = some ri) : zK S (ad r) = ri.1 := (h.2.1 r ri hr hri).1
theorem sh_N {ad : Nat → Nat} {S : zS} (h : ShT ad S) {r : Nat} {ri : RI} (hr : r < tU zT) (hri : (tRT zT)[r]? = some ri) (hk : 12 < ri.1) : zN S (ad r) = ri.2.1 := (h.2.1 r ri hr hri).2 hk
theorem sh_P {ad : Nat → Nat} {S : zS} (h : ShT ad S) {r f r2 : Nat} {ri : RI} (hr : r < tU zT) (hri : (tRT zT)[r]? = some ri) (hk : ri.1 < 13) (hf : ri.2.2.1[f]? = some (.inr (.inl (false, [r2])))) (hr2 : r2 < tU zT) : zQ S (z_bs ri.1 + f) (ad r) = some (ad r2) := h.2.2.1 r f r2 ri hr hri hk hf hr2
theorem sh_ne {ad : Nat → Nat} {S : zS} (h : ShT ad S) {r r2 : Nat} (hr : r < tU zT) (hr2 : r2 < tU zT) (hn : r ≠ r2) : ad r ≠ ad r2 := h.2.2.2 r r2 hr hr2 hn
