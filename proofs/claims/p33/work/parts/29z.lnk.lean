/-! links of the walks by hand -/
theorem gf_RX12_117_12 : RGet RX12 117 12 48 := rg_F (ref := "FoldedInHalfModel") uX12 rfl (by decide) (by decide) (tb_5 223 rfl rfl) (.inl rfl)
theorem gf_RX12_328_12 : RGet RX12 328 12 50 := rg_F (ref := "FoldedInHalfModel") uX12 rfl (by decide) (by decide) (tb_5 225 rfl rfl) (.inl rfl)
