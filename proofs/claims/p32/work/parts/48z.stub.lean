/-! stub -/
def sg_X11_refuse_0 : Sg := ([(.negSucc 2147483647, .ofNat 2147483647)], [.inr (.inr (.inr (.inl 0))), .inl (.ofNat 0, [(0, .ofNat 1)])], [], [(false, [0])], [], [], (0, 0), none, [([], [], [.inl (.ofNat 0, [(0, .ofNat 1)])], [], [])])
theorem cn_X11_refuse_0 {ad xs : Nat → Nat} {cD : va_G} {cy : Nat → ClassId} {l : Launch} {neg0 : Int → Int} (hb0 : bndN neg0) : Con zT ad (ghN (zC ad) neg0) (zXI ad) xs cD cy l yX11_refuse cX11_refuse 3 ((some .int)) 0 0 sg_X11_refuse_0 [] := sorry
def sg_X12_no_0 : Sg := ([(.negSucc 6, .negSucc 0)], [.inr (.inr (.inr (.inl 0))), .inl (.ofNat 0, [(0, .ofNat 1)])], [], [(false, [17])], [], [], (0, 0), none, [([], [], [.inl (.ofNat 0, [(0, .ofNat 1)])], [], [])])
theorem cn_X12_no_0 {ad xs : Nat → Nat} {cD : va_G} {cy : Nat → ClassId} {l : Launch} {neg0 : Int → Int} (hb0 : bndN neg0) : Con zT ad (ghN (zC ad) neg0) (zXI ad) xs cD cy l yX12_no cX12_no 2 ((some .int)) 0 0 sg_X12_no_0 [] := sorry
