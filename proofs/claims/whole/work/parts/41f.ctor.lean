theorem σM1_s : (FX12_init_tail σM0).isSome = true := by decide +kernel
def σM1 : HS := (FX12_init_tail σM0).get σM1_s
theorem σM1_ok : FX12_init_tail σM0 = some σM1 := (Option.some_get σM1_s).symm
