/-! THE NUMBERS OF double -/
theorem fp_try (a : UInt64) (h : Jvm.FP.Core.DFin a) : Jvm.FP.Core.dIsNaN a = false := h.notNaN
