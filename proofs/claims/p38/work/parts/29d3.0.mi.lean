set_option maxRecDepth 200000 in
theorem miL_drawn : MI yL_drawn cL_drawn 13 (some (.object "ZoneCapacityLaw$Market")) 3 := ⟨tw_mem (List.mem_of_getElem? (i := 585) rfl) rfl, by decide, by decide +kernel, tw_mem (List.mem_of_getElem? (i := 13) (by decide +kernel)) rfl⟩
