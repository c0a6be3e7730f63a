theorem tw_156 : Cond.instanceMethod Lib.objectInit ∈ lw_tbl := List.mem_of_getElem? (i := 156) (by decide +kernel)
theorem tw_157 : Cond.code Lib.objectInit ⟨#[0xb1]⟩ 1 none ∈ lw_tbl := List.mem_of_getElem? (i := 157) (by decide +kernel)
theorem tw_184 : Cond.arrayClass (newarray.typeOf .int) ∈ lw_tbl := List.mem_of_getElem? (i := 184) (by decide +kernel)
theorem tw_254 : Cond.methodLink RX4 3 Lib.objectInit ∈ lw_tbl := List.mem_of_getElem? (i := 254) (by decide +kernel)
