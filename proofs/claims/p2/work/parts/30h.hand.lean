/-! contracts made by hand -/
theorem cn_X12_finds_0 {ad xs : Nat → Nat} {cD : va_G} {cy : Nat → ClassId} {l : Launch} {neg0 : Int → Int} (hb0 : bndN neg0) : Con zT ad (ghN (zC ad) neg0) (zXI ad) xs cD cy l yX12_finds cX12_finds 2 (none) 12 400 sg_X12_finds_0 [] := sorry
