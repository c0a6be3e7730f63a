theorem tw_183 : Cond.arrayClass (newarray.typeOf .byte) ∈ lw_tbl := List.mem_of_getElem? (i := 183) (by decide +kernel)
theorem tw_393 : Cond.arrayClass (newarray.typeOf .boolean) ∈ lw_tbl := List.mem_of_getElem? (i := 393) (by decide +kernel)
theorem tw_1159 : Cond.methodLink RX7 1 Lib.objectInit ∈ lw_tbl := List.mem_of_getElem? (i := 1159) (by decide +kernel)
