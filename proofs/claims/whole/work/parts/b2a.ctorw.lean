section JKW
set_option maxRecDepth 100000 in
theorem cwX12_init : jm_cw iX12_init 0 := ⟨jm_tw (n := 1242) (by rfl) rfl, jm_tw (n := 13) (by decide +kernel) rfl, ⟨by decide +kernel, by decide +kernel, by decide +kernel⟩, by decide⟩
end JKW
