/-! what the tables give beside wsL_law -/
theorem nG_of {args : Array Value} {s : State} (hts : ∀ w ∈ lw_tbl, w.before args s = true) : nG s :=
  ⟨va_Nw.of rfl (hts (.methodLinkNest RX3 17 yX2_init "PeatRailway") (List.mem_append_right _ (List.mem_of_getElem? (i := 96) (by decide +kernel)))),
   va_Nw.of rfl (hts (.methodLinkNest RX3 24 yX4_init "PeatRailway") (List.mem_append_right _ (List.mem_of_getElem? (i := 131) (by decide +kernel)))),
   va_Nw.of rfl (hts (.fieldLinkNest RX3 29 "PeatRailway" "FIRST_VALUE" "[I" "PeatRailway") (List.mem_append_right _ (List.mem_of_getElem? (i := 183) (by decide +kernel)))),
   va_AO.of (hts (.arrayOver (.object "PeatRailway$Segment")) (List.mem_append_right _ (List.mem_of_getElem? (i := 94) (by decide +kernel)))),
   va_AO.of (hts (.arrayOver (.object "PeatRailway$State")) (List.mem_append_right _ (List.mem_of_getElem? (i := 279) (by decide +kernel)))),
   va_AO.of (hts (.arrayOver (.object "PeatRailway$Train")) (List.mem_append_right _ (List.mem_of_getElem? (i := 129) (by decide +kernel))))⟩
