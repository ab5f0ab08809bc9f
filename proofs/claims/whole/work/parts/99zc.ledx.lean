/-! led of the class, where it throws -/
abbrev nsE : String := "java/util/NoSuchElementException"
abbrev nsN : List String := ["java/lang/RuntimeException", "java/lang/Exception"]
theorem ns_in : ∀ w ∈ (vx_at0 RX10 369 nsE nsN).filter goodWord, w ∈ lw_tbl := by decide +kernel
theorem ns_bad : ((vx_at0 RX10 369 nsE nsN).filter (fun w => !goodWord w)).length = 0 := by decide +kernel
theorem ns_ot : ∀ w ∈ Cond.classLink RX10 367 nsE :: Cond.initialized nsE :: vx_at0 RX10 369 nsE nsN, vx_ot w = true := by decide +kernel
