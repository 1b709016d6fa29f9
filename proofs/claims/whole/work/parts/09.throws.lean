/-- the words of the two throws -/
theorem tw_nse0 : ∀ w ∈ (zat RX10 156 (exNm 0) "java/lang/RuntimeException" ["java/lang/Exception"] 13 bxN).filter goodWord, w ∈ lw_tbl := by decide +kernel
theorem tw_iae0 : ∀ w ∈ (vx_atS RX10 93 (exNm 1) ["java/lang/RuntimeException", "java/lang/Exception"]).filter goodWord, w ∈ lw_tbl := by decide +kernel
theorem tw_nse : TZ RX10 152 156 := ⟨tw_795, tw_796, fun w h => List.mem_filter.mpr ⟨tw_nse0 w h, (List.mem_filter.mp h).2⟩, by decide +kernel, by decide +kernel⟩
theorem tw_iae : TW RX10 89 93 (exNm 1) := ⟨tw_797, tw_798, fun w h => List.mem_filter.mpr ⟨tw_iae0 w h, (List.mem_filter.mp h).2⟩, by decide +kernel, by decide +kernel⟩
