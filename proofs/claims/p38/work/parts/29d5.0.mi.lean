set_option maxRecDepth 200000 in
theorem miL_isCleared : MI yL_isCleared cL_isCleared 16 (some .boolean) 2 := ⟨tw_mem (List.mem_of_getElem? (i := 981) rfl) rfl, by decide, by decide +kernel, tw_mem (List.mem_of_getElem? (i := 13) (by decide +kernel)) rfl⟩
