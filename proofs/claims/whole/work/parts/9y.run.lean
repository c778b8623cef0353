/-! the checker run over all methods -/
theorem ckBs_0 : ((List.range 10).map (· + 0)).all ckBs = true := by decide +kernel
theorem ckBs_10 : ((List.range 10).map (· + 10)).all ckBs = true := by decide +kernel
theorem ckBs_20 : ((List.range 10).map (· + 20)).all ckBs = true := by decide +kernel
theorem ckBs_30 : ((List.range 10).map (· + 30)).all ckBs = true := by decide +kernel
theorem ckBs_40 : ((List.range 10).map (· + 40)).all ckBs = true := by decide +kernel
theorem ckBs_50 : ((List.range 10).map (· + 50)).all ckBs = true := by decide +kernel
theorem ckBs_60 : ((List.range 10).map (· + 60)).all ckBs = true := by decide +kernel
theorem ckBs_70 : ((List.range 10).map (· + 70)).all ckBs = true := by decide +kernel
theorem ckBs_80 : ((List.range 10).map (· + 80)).all ckBs = true := by decide +kernel
theorem ckBs_90 : ((List.range 10).map (· + 90)).all ckBs = true := by decide +kernel
theorem ckBs_100 : ((List.range 10).map (· + 100)).all ckBs = true := by decide +kernel
theorem ckBs_110 : ((List.range 10).map (· + 110)).all ckBs = true := by decide +kernel
theorem ckBs_120 : ((List.range 10).map (· + 120)).all ckBs = true := by decide +kernel
theorem ckBs_130 : ((List.range 10).map (· + 130)).all ckBs = true := by decide +kernel
theorem ckBs_140 : ((List.range 10).map (· + 140)).all ckBs = true := by decide +kernel
theorem ckBs_150 : ((List.range 10).map (· + 150)).all ckBs = true := by decide +kernel
theorem ckBs_160 : ((List.range 10).map (· + 160)).all ckBs = true := by decide +kernel
theorem ckBs_170 : ((List.range 10).map (· + 170)).all ckBs = true := by decide +kernel
theorem ckBs_180 : ((List.range 10).map (· + 180)).all ckBs = true := by decide +kernel
theorem ckBs_190 : ((List.range 10).map (· + 190)).all ckBs = true := by decide +kernel
theorem ckBs_200 : ((List.range 10).map (· + 200)).all ckBs = true := by decide +kernel
theorem ckBs_210 : ((List.range 10).map (· + 210)).all ckBs = true := by decide +kernel
theorem ckBs_220 : ((List.range 10).map (· + 220)).all ckBs = true := by decide +kernel
theorem ckBs_230 : ((List.range 10).map (· + 230)).all ckBs = true := by decide +kernel
theorem ckBs_240 : ((List.range 10).map (· + 240)).all ckBs = true := by decide +kernel
theorem ckBs_250 : ((List.range 10).map (· + 250)).all ckBs = true := by decide +kernel
theorem ckBs_260 : ((List.range 5).map (· + 260)).all ckBs = true := by decide +kernel
theorem cks : CKs := by
  intro k hk
  have hk : k < 265 := hk
  by_cases h0 : k < 10
  · exact List.all_eq_true.mp ckBs_0 k (List.mem_map.mpr ⟨k - 0, List.mem_range.mpr (by omega), by show k - 0 + 0 = k; omega⟩)
  by_cases h10 : k < 20
  · exact List.all_eq_true.mp ckBs_10 k (List.mem_map.mpr ⟨k - 10, List.mem_range.mpr (by omega), by show k - 10 + 10 = k; omega⟩)
  by_cases h20 : k < 30
  · exact List.all_eq_true.mp ckBs_20 k (List.mem_map.mpr ⟨k - 20, List.mem_range.mpr (by omega), by show k - 20 + 20 = k; omega⟩)
  by_cases h30 : k < 40
  · exact List.all_eq_true.mp ckBs_30 k (List.mem_map.mpr ⟨k - 30, List.mem_range.mpr (by omega), by show k - 30 + 30 = k; omega⟩)
  by_cases h40 : k < 50
  · exact List.all_eq_true.mp ckBs_40 k (List.mem_map.mpr ⟨k - 40, List.mem_range.mpr (by omega), by show k - 40 + 40 = k; omega⟩)
  by_cases h50 : k < 60
  · exact List.all_eq_true.mp ckBs_50 k (List.mem_map.mpr ⟨k - 50, List.mem_range.mpr (by omega), by show k - 50 + 50 = k; omega⟩)
  by_cases h60 : k < 70
  · exact List.all_eq_true.mp ckBs_60 k (List.mem_map.mpr ⟨k - 60, List.mem_range.mpr (by omega), by show k - 60 + 60 = k; omega⟩)
  by_cases h70 : k < 80
  · exact List.all_eq_true.mp ckBs_70 k (List.mem_map.mpr ⟨k - 70, List.mem_range.mpr (by omega), by show k - 70 + 70 = k; omega⟩)
  by_cases h80 : k < 90
  · exact List.all_eq_true.mp ckBs_80 k (List.mem_map.mpr ⟨k - 80, List.mem_range.mpr (by omega), by show k - 80 + 80 = k; omega⟩)
  by_cases h90 : k < 100
  · exact List.all_eq_true.mp ckBs_90 k (List.mem_map.mpr ⟨k - 90, List.mem_range.mpr (by omega), by show k - 90 + 90 = k; omega⟩)
  by_cases h100 : k < 110
  · exact List.all_eq_true.mp ckBs_100 k (List.mem_map.mpr ⟨k - 100, List.mem_range.mpr (by omega), by show k - 100 + 100 = k; omega⟩)
  by_cases h110 : k < 120
  · exact List.all_eq_true.mp ckBs_110 k (List.mem_map.mpr ⟨k - 110, List.mem_range.mpr (by omega), by show k - 110 + 110 = k; omega⟩)
  by_cases h120 : k < 130
  · exact List.all_eq_true.mp ckBs_120 k (List.mem_map.mpr ⟨k - 120, List.mem_range.mpr (by omega), by show k - 120 + 120 = k; omega⟩)
  by_cases h130 : k < 140
  · exact List.all_eq_true.mp ckBs_130 k (List.mem_map.mpr ⟨k - 130, List.mem_range.mpr (by omega), by show k - 130 + 130 = k; omega⟩)
  by_cases h140 : k < 150
  · exact List.all_eq_true.mp ckBs_140 k (List.mem_map.mpr ⟨k - 140, List.mem_range.mpr (by omega), by show k - 140 + 140 = k; omega⟩)
  by_cases h150 : k < 160
  · exact List.all_eq_true.mp ckBs_150 k (List.mem_map.mpr ⟨k - 150, List.mem_range.mpr (by omega), by show k - 150 + 150 = k; omega⟩)
  by_cases h160 : k < 170
  · exact List.all_eq_true.mp ckBs_160 k (List.mem_map.mpr ⟨k - 160, List.mem_range.mpr (by omega), by show k - 160 + 160 = k; omega⟩)
  by_cases h170 : k < 180
  · exact List.all_eq_true.mp ckBs_170 k (List.mem_map.mpr ⟨k - 170, List.mem_range.mpr (by omega), by show k - 170 + 170 = k; omega⟩)
  by_cases h180 : k < 190
  · exact List.all_eq_true.mp ckBs_180 k (List.mem_map.mpr ⟨k - 180, List.mem_range.mpr (by omega), by show k - 180 + 180 = k; omega⟩)
  by_cases h190 : k < 200
  · exact List.all_eq_true.mp ckBs_190 k (List.mem_map.mpr ⟨k - 190, List.mem_range.mpr (by omega), by show k - 190 + 190 = k; omega⟩)
  by_cases h200 : k < 210
  · exact List.all_eq_true.mp ckBs_200 k (List.mem_map.mpr ⟨k - 200, List.mem_range.mpr (by omega), by show k - 200 + 200 = k; omega⟩)
  by_cases h210 : k < 220
  · exact List.all_eq_true.mp ckBs_210 k (List.mem_map.mpr ⟨k - 210, List.mem_range.mpr (by omega), by show k - 210 + 210 = k; omega⟩)
  by_cases h220 : k < 230
  · exact List.all_eq_true.mp ckBs_220 k (List.mem_map.mpr ⟨k - 220, List.mem_range.mpr (by omega), by show k - 220 + 220 = k; omega⟩)
  by_cases h230 : k < 240
  · exact List.all_eq_true.mp ckBs_230 k (List.mem_map.mpr ⟨k - 230, List.mem_range.mpr (by omega), by show k - 230 + 230 = k; omega⟩)
  by_cases h240 : k < 250
  · exact List.all_eq_true.mp ckBs_240 k (List.mem_map.mpr ⟨k - 240, List.mem_range.mpr (by omega), by show k - 240 + 240 = k; omega⟩)
  by_cases h250 : k < 260
  · exact List.all_eq_true.mp ckBs_250 k (List.mem_map.mpr ⟨k - 250, List.mem_range.mpr (by omega), by show k - 250 + 250 = k; omega⟩)
  by_cases h260 : k < 265
  · exact List.all_eq_true.mp ckBs_260 k (List.mem_map.mpr ⟨k - 260, List.mem_range.mpr (by omega), by show k - 260 + 260 = k; omega⟩)
  omega
