/-! what a store leaves as it was: by lemmas, never by unfolding -/
theorem sh_AC {S : zS} {r : Nat → Nat} {a : Nat} {f : Nat → Int32} (h : ShC S r) : ShC (zsA S a f) r := h
theorem sh_IC {S : zS} {r : Nat → Nat} {j a : Nat} {v : Int32} (h : ShC S r) : ShC (zsI S j a v) r := h
theorem sh_AM {S : zS} {r : Nat → Nat} {a : Nat} {f : Nat → Int32} (h : ShM S r) : ShM (zsA S a f) r := h
theorem sh_IM {S : zS} {r : Nat → Nat} {j a : Nat} {v : Int32} (h : ShM S r) : ShM (zsI S j a v) r := h
theorem zA_I {S : zS} {j a b : Nat} {v : Int32} : zA (zsI S j a v) b = zA S b := rfl
theorem zI_A {S : zS} {j a b : Nat} {f : Nat → Int32} : zI (zsA S a f) j b = zI S j b := rfl
