/-! ===== THE START: words by their places; strings, statics, exceptions ===== -/
theorem st_in {big ws : List Cond} (ps : List Nat) (hp : ws = ps.filterMap (fun i => big[i]?)) : ∀ w ∈ ws, w ∈ big := by
  intro w hw
  rw [hp] at hw
  obtain ⟨i, -, hi⟩ := List.mem_filterMap.mp hw
  exact List.mem_of_getElem? hi
theorem st_x1 : ∀ w ∈ vx_atS RX6 (pm_ei 1) (pm_en 1) pm_es, w ∈ lw_tbl := st_in [136, 468, 477, 481, 484, 486, 469, 470, 156, 157, 471, 476, 482, 502, 458, 503, 460, 504, 462, 472, 474, 464, 498, 499, 501, 464, 489, 490, 491, 492, 450, 492, 493, 494, 495, 452, 495, 496, 497, 498, 454, 488, 447, 448, 455, 456, 457, 459, 461, 463, 467, 466, 465] (by decide +kernel)
theorem st_x2 : ∀ w ∈ vx_atS RX6 (pm_ei 2) (pm_en 2) pm_es, w ∈ lw_tbl := st_in [136, 468, 477, 481, 484, 486, 469, 470, 156, 157, 471, 476, 482, 502, 458, 503, 460, 504, 462, 472, 474, 464, 498, 499, 501, 464, 862, 863, 864, 492, 450, 492, 493, 494, 495, 452, 495, 496, 497, 498, 454, 861, 852, 853, 854, 479, 855, 856, 857, 858, 467, 466, 859] (by decide +kernel)
theorem st_x3 : ∀ w ∈ vx_atS RX6 (pm_ei 3) (pm_en 3) pm_es, w ∈ lw_tbl := st_in [136, 468, 477, 481, 484, 486, 469, 470, 156, 157, 471, 476, 482, 502, 458, 503, 460, 504, 462, 472, 474, 464, 498, 499, 501, 464, 740, 741, 742, 492, 450, 492, 493, 494, 495, 452, 495, 496, 497, 498, 454, 739, 730, 731, 732, 480, 733, 734, 735, 736, 467, 466, 737] (by decide +kernel)
theorem st_sr1 : ∀ w ∈ pm_sr.map (fun q => Cond.stringRef q.1 q.2.1 q.2.2.1), w ∈ lw_tbl := st_in [576, 645, 654, 663, 686, 687, 688, 689, 690, 695, 696, 1308, 1335, 1340, 1341, 1353, 1354, 1379, 1380, 1381, 1382, 1383] (by decide +kernel)
theorem st_er1 : ∀ w ∈ pm_er.map (fun q => Cond.stringRef RX6 q.1 q.2), w ∈ lw_tbl := st_in [487, 738, 772, 849, 860, 890, 912, 933, 1034, 1035, 1050, 1051, 1073, 1074, 1075, 1087, 1100, 1101, 1133, 1145, 1153] (by decide +kernel)
theorem st_sr2 : ∀ q ∈ pm_sr, q.2.2.2 < 11 ∧ (Term.string q.1 q.2.1 = pm_tm q.2.2.2 ∨ Cond.eq (pm_tm q.2.2.2) (Term.string q.1 q.2.1) ∈ flatC (Jvm.Cond.and given_1 narrow_1)) := by decide +kernel
theorem st_er2 : ∀ q ∈ pm_er, Cond.exactly (Term.string RX6 q.1) "java/lang/String" ∈ flatC (Jvm.Cond.and given_1 narrow_1) := by decide +kernel
theorem st_w0 : Cond.initialized "java/lang/String" ∈ lw_tbl := List.mem_of_getElem? (i := 141) (by decide +kernel)
theorem st_w1 : Cond.initialized "jdk/internal/util/Preconditions" ∈ lw_tbl := List.mem_of_getElem? (i := 143) (by decide +kernel)
theorem st_w2 : Cond.initialized Bundle.tN ∈ lw_tbl := List.mem_of_getElem? (i := 136) (by decide +kernel)
theorem st_w3 : Cond.laysStatic "java/lang/String" "COMPACT_STRINGS" "Z" ∈ lw_tbl := List.mem_of_getElem? (i := 590) (by decide +kernel)
theorem st_w4 : Cond.laysStatic "jdk/internal/util/Preconditions" "SIOOBE_FORMATTER" "Ljava/util/function/BiFunction;" ∈ lw_tbl := List.mem_of_getElem? (i := 606) (by decide +kernel)
theorem st_w5 : Cond.laysStatic Bundle.tN "UNASSIGNED_STACK" Bundle.steD ∈ lw_tbl := List.mem_of_getElem? (i := 473) (by decide +kernel)
theorem st_w6 : Cond.laysStatic Bundle.tN "SUPPRESSED_SENTINEL" Bundle.listD ∈ lw_tbl := List.mem_of_getElem? (i := 475) (by decide +kernel)
theorem st_w7 : Cond.arrayOver (.object RX4) ∈ lw_tbl := List.mem_of_getElem? (i := 249) (by decide +kernel)
theorem st_w8 : Cond.arrayOver (.object RX5) ∈ lw_tbl := List.mem_of_getElem? (i := 350) (by decide +kernel)
theorem st_c1 : Cond.castable (pm_en 1) (pm_en 1) ∈ lw_tbl := List.mem_of_getElem? (i := 448) (by decide +kernel)
theorem st_c2 : Cond.castable (pm_en 2) (pm_en 2) ∈ lw_tbl := List.mem_of_getElem? (i := 853) (by decide +kernel)
theorem st_c3 : Cond.castable (pm_en 3) (pm_en 3) ∈ lw_tbl := List.mem_of_getElem? (i := 731) (by decide +kernel)
theorem st_n0 : Cond.eq (.static "java/lang/String" "COMPACT_STRINGS" "Z") (.int 1) ∈ flatC (Jvm.Cond.and given_1 narrow_1) := by decide +kernel
theorem st_n1 : Cond.isRef (.static "jdk/internal/util/Preconditions" "SIOOBE_FORMATTER" "Ljava/util/function/BiFunction;") ∈ flatC (Jvm.Cond.and given_1 narrow_1) := by decide +kernel
theorem st_n2 : Cond.isRef (.static Bundle.tN "UNASSIGNED_STACK" Bundle.steD) ∈ flatC (Jvm.Cond.and given_1 narrow_1) := by decide +kernel
theorem st_n3 : Cond.isRef (.static Bundle.tN "SUPPRESSED_SENTINEL" Bundle.listD) ∈ flatC (Jvm.Cond.and given_1 narrow_1) := by decide +kernel
