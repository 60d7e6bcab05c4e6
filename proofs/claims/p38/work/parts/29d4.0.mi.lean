set_option maxRecDepth 200000 in
theorem miL_areLevels : MI yL_areLevels cL_areLevels 7 (some .boolean) 3 := ⟨tw_mem (List.mem_of_getElem? (i := 809) rfl) rfl, by decide, by decide +kernel, tw_mem (List.mem_of_getElem? (i := 13) (by decide +kernel)) rfl⟩
