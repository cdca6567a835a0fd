/-! more words -/
theorem lk_507 : (Jvm.Cond.methodLink "PollBooksLaw" (13 : Nat) ({ cls := "PollBooks", name := "status", desc := "()I" } : Jvm.MethodName)) ∈ lw_ok := in_t3 (List.mem_of_getElem? (i := 27) (by rfl)) rfl
theorem lk_508 : (Jvm.Cond.instanceMethod ({ cls := "PollBooks", name := "status", desc := "()I" } : Jvm.MethodName)) ∈ lw_ok := in_t3 (List.mem_of_getElem? (i := 28) (by rfl)) rfl
theorem lk_509 : (Jvm.Cond.selects "PollBooks" ({ cls := "PollBooks", name := "status", desc := "()I" } : Jvm.MethodName) ({ cls := "PollBooks", name := "status", desc := "()I" } : Jvm.MethodName)) ∈ lw_ok := in_t3 (List.mem_of_getElem? (i := 29) (by rfl)) rfl
theorem lk_511 : (Jvm.Cond.methodLink "PollBooksLaw" (18 : Nat) ({ cls := "PollBooks", name := "tray", desc := "(III)Z" } : Jvm.MethodName)) ∈ lw_ok := in_t3 (List.mem_of_getElem? (i := 31) (by rfl)) rfl
theorem lk_512 : (Jvm.Cond.instanceMethod ({ cls := "PollBooks", name := "tray", desc := "(III)Z" } : Jvm.MethodName)) ∈ lw_ok := in_t3 (List.mem_of_getElem? (i := 32) (by rfl)) rfl
theorem lk_513 : (Jvm.Cond.selects "PollBooks" ({ cls := "PollBooks", name := "tray", desc := "(III)Z" } : Jvm.MethodName) ({ cls := "PollBooks", name := "tray", desc := "(III)Z" } : Jvm.MethodName)) ∈ lw_ok := in_t3 (List.mem_of_getElem? (i := 33) (by rfl)) rfl
theorem lk_534 : (Jvm.Cond.methodLink "PollBooksLaw" (25 : Nat) ({ cls := "PollBooks", name := "write", desc := "(IIJ)Z" } : Jvm.MethodName)) ∈ lw_ok := in_t3 (List.mem_of_getElem? (i := 54) (by rfl)) rfl
theorem lk_535 : (Jvm.Cond.instanceMethod ({ cls := "PollBooks", name := "write", desc := "(IIJ)Z" } : Jvm.MethodName)) ∈ lw_ok := in_t3 (List.mem_of_getElem? (i := 55) (by rfl)) rfl
theorem lk_536 : (Jvm.Cond.selects "PollBooks" ({ cls := "PollBooks", name := "write", desc := "(IIJ)Z" } : Jvm.MethodName) ({ cls := "PollBooks", name := "write", desc := "(IIJ)Z" } : Jvm.MethodName)) ∈ lw_ok := in_t3 (List.mem_of_getElem? (i := 56) (by rfl)) rfl
theorem lk_557 : (Jvm.Cond.methodLink "PollBooksLaw" (30 : Nat) ({ cls := "PollBooks", name := "read", desc := "(II)J" } : Jvm.MethodName)) ∈ lw_ok := in_t3 (List.mem_of_getElem? (i := 77) (by rfl)) rfl
theorem lk_558 : (Jvm.Cond.instanceMethod ({ cls := "PollBooks", name := "read", desc := "(II)J" } : Jvm.MethodName)) ∈ lw_ok := in_t3 (List.mem_of_getElem? (i := 78) (by rfl)) rfl
theorem lk_559 : (Jvm.Cond.selects "PollBooks" ({ cls := "PollBooks", name := "read", desc := "(II)J" } : Jvm.MethodName) ({ cls := "PollBooks", name := "read", desc := "(II)J" } : Jvm.MethodName)) ∈ lw_ok := in_t3 (List.mem_of_getElem? (i := 79) (by rfl)) rfl
theorem lk_566 : (Jvm.Cond.methodLink "PollBooksLaw" (35 : Nat) ({ cls := "PollBooks", name := "pour", desc := "(IIIII)Z" } : Jvm.MethodName)) ∈ lw_ok := in_t3 (List.mem_of_getElem? (i := 86) (by rfl)) rfl
theorem lk_567 : (Jvm.Cond.instanceMethod ({ cls := "PollBooks", name := "pour", desc := "(IIIII)Z" } : Jvm.MethodName)) ∈ lw_ok := in_t3 (List.mem_of_getElem? (i := 87) (by rfl)) rfl
theorem lk_568 : (Jvm.Cond.selects "PollBooks" ({ cls := "PollBooks", name := "pour", desc := "(IIIII)Z" } : Jvm.MethodName) ({ cls := "PollBooks", name := "pour", desc := "(IIIII)Z" } : Jvm.MethodName)) ∈ lw_ok := in_t3 (List.mem_of_getElem? (i := 88) (by rfl)) rfl
theorem lk_585 : (Jvm.Cond.methodLink "PollBooksLaw" (40 : Nat) ({ cls := "PollBooks", name := "far", desc := "(JJ)I" } : Jvm.MethodName)) ∈ lw_ok := in_t3 (List.mem_of_getElem? (i := 105) (by rfl)) rfl
theorem lk_586 : (Jvm.Cond.instanceMethod ({ cls := "PollBooks", name := "far", desc := "(JJ)I" } : Jvm.MethodName)) ∈ lw_ok := in_t3 (List.mem_of_getElem? (i := 106) (by rfl)) rfl
theorem lk_587 : (Jvm.Cond.selects "PollBooks" ({ cls := "PollBooks", name := "far", desc := "(JJ)I" } : Jvm.MethodName) ({ cls := "PollBooks", name := "far", desc := "(JJ)I" } : Jvm.MethodName)) ∈ lw_ok := in_t3 (List.mem_of_getElem? (i := 107) (by rfl)) rfl
theorem lk_603 : (Jvm.Cond.methodLink "PollBooksLaw" (45 : Nat) ({ cls := "PollBooks", name := "person", desc := "(JII)I" } : Jvm.MethodName)) ∈ lw_ok := in_t3 (List.mem_of_getElem? (i := 123) (by rfl)) rfl
theorem lk_604 : (Jvm.Cond.instanceMethod ({ cls := "PollBooks", name := "person", desc := "(JII)I" } : Jvm.MethodName)) ∈ lw_ok := in_t3 (List.mem_of_getElem? (i := 124) (by rfl)) rfl
theorem lk_605 : (Jvm.Cond.selects "PollBooks" ({ cls := "PollBooks", name := "person", desc := "(JII)I" } : Jvm.MethodName) ({ cls := "PollBooks", name := "person", desc := "(JII)I" } : Jvm.MethodName)) ∈ lw_ok := in_t3 (List.mem_of_getElem? (i := 125) (by rfl)) rfl
theorem lk_633 : (Jvm.Cond.methodLink "PollBooksLaw" (50 : Nat) ({ cls := "PollBooks", name := "hold", desc := "(IIIIII)Z" } : Jvm.MethodName)) ∈ lw_ok := in_t3 (List.mem_of_getElem? (i := 153) (by rfl)) rfl
theorem lk_634 : (Jvm.Cond.instanceMethod ({ cls := "PollBooks", name := "hold", desc := "(IIIIII)Z" } : Jvm.MethodName)) ∈ lw_ok := in_t3 (List.mem_of_getElem? (i := 154) (by rfl)) rfl
theorem lk_635 : (Jvm.Cond.selects "PollBooks" ({ cls := "PollBooks", name := "hold", desc := "(IIIIII)Z" } : Jvm.MethodName) ({ cls := "PollBooks", name := "hold", desc := "(IIIIII)Z" } : Jvm.MethodName)) ∈ lw_ok := in_t3 (List.mem_of_getElem? (i := 155) (by rfl)) rfl
theorem lk_663 : (Jvm.Cond.methodLink "PollBooksLaw" (55 : Nat) ({ cls := "PollBooks", name := "split", desc := "(III)Z" } : Jvm.MethodName)) ∈ lw_ok := in_t3 (List.mem_of_getElem? (i := 183) (by rfl)) rfl
theorem lk_664 : (Jvm.Cond.instanceMethod ({ cls := "PollBooks", name := "split", desc := "(III)Z" } : Jvm.MethodName)) ∈ lw_ok := in_t3 (List.mem_of_getElem? (i := 184) (by rfl)) rfl
theorem lk_665 : (Jvm.Cond.selects "PollBooks" ({ cls := "PollBooks", name := "split", desc := "(III)Z" } : Jvm.MethodName) ({ cls := "PollBooks", name := "split", desc := "(III)Z" } : Jvm.MethodName)) ∈ lw_ok := in_t3 (List.mem_of_getElem? (i := 185) (by rfl)) rfl
theorem lk_675 : (Jvm.Cond.methodLink "PollBooksLaw" (59 : Nat) ({ cls := "PollBooks", name := "pay", desc := "(IIIZI)Z" } : Jvm.MethodName)) ∈ lw_ok := in_t3 (List.mem_of_getElem? (i := 195) (by rfl)) rfl
theorem lk_676 : (Jvm.Cond.instanceMethod ({ cls := "PollBooks", name := "pay", desc := "(IIIZI)Z" } : Jvm.MethodName)) ∈ lw_ok := in_t3 (List.mem_of_getElem? (i := 196) (by rfl)) rfl
theorem lk_677 : (Jvm.Cond.selects "PollBooks" ({ cls := "PollBooks", name := "pay", desc := "(IIIZI)Z" } : Jvm.MethodName) ({ cls := "PollBooks", name := "pay", desc := "(IIIZI)Z" } : Jvm.MethodName)) ∈ lw_ok := in_t3 (List.mem_of_getElem? (i := 197) (by rfl)) rfl
theorem lk_687 : (Jvm.Cond.methodLink "PollBooksLaw" (64 : Nat) ({ cls := "PollBooks", name := "asof", desc := "(I)Z" } : Jvm.MethodName)) ∈ lw_ok := in_t3 (List.mem_of_getElem? (i := 207) (by rfl)) rfl
theorem lk_688 : (Jvm.Cond.instanceMethod ({ cls := "PollBooks", name := "asof", desc := "(I)Z" } : Jvm.MethodName)) ∈ lw_ok := in_t3 (List.mem_of_getElem? (i := 208) (by rfl)) rfl
theorem lk_689 : (Jvm.Cond.selects "PollBooks" ({ cls := "PollBooks", name := "asof", desc := "(I)Z" } : Jvm.MethodName) ({ cls := "PollBooks", name := "asof", desc := "(I)Z" } : Jvm.MethodName)) ∈ lw_ok := in_t3 (List.mem_of_getElem? (i := 209) (by rfl)) rfl
theorem lk_695 : (Jvm.Cond.methodLink "PollBooksLaw" (69 : Nat) ({ cls := "PollBooks", name := "fact", desc := "(IIII)I" } : Jvm.MethodName)) ∈ lw_ok := in_t3 (List.mem_of_getElem? (i := 215) (by rfl)) rfl
theorem lk_696 : (Jvm.Cond.instanceMethod ({ cls := "PollBooks", name := "fact", desc := "(IIII)I" } : Jvm.MethodName)) ∈ lw_ok := in_t3 (List.mem_of_getElem? (i := 216) (by rfl)) rfl
theorem lk_697 : (Jvm.Cond.selects "PollBooks" ({ cls := "PollBooks", name := "fact", desc := "(IIII)I" } : Jvm.MethodName) ({ cls := "PollBooks", name := "fact", desc := "(IIII)I" } : Jvm.MethodName)) ∈ lw_ok := in_t3 (List.mem_of_getElem? (i := 217) (by rfl)) rfl
theorem lk_722 : (Jvm.Cond.methodLink "PollBooksLaw" (74 : Nat) ({ cls := "PollBooks", name := "feed", desc := "(IIIII)I" } : Jvm.MethodName)) ∈ lw_ok := in_t4 (List.mem_of_getElem? (i := 2) (by rfl)) rfl
theorem lk_723 : (Jvm.Cond.instanceMethod ({ cls := "PollBooks", name := "feed", desc := "(IIIII)I" } : Jvm.MethodName)) ∈ lw_ok := in_t4 (List.mem_of_getElem? (i := 3) (by rfl)) rfl
theorem lk_724 : (Jvm.Cond.selects "PollBooks" ({ cls := "PollBooks", name := "feed", desc := "(IIIII)I" } : Jvm.MethodName) ({ cls := "PollBooks", name := "feed", desc := "(IIIII)I" } : Jvm.MethodName)) ∈ lw_ok := in_t4 (List.mem_of_getElem? (i := 4) (by rfl)) rfl
theorem lk_738 : (Jvm.Cond.methodLink "PollBooksLaw" (79 : Nat) ({ cls := "PollBooks", name := "text", desc := "(III)I" } : Jvm.MethodName)) ∈ lw_ok := in_t4 (List.mem_of_getElem? (i := 18) (by rfl)) rfl
theorem lk_739 : (Jvm.Cond.instanceMethod ({ cls := "PollBooks", name := "text", desc := "(III)I" } : Jvm.MethodName)) ∈ lw_ok := in_t4 (List.mem_of_getElem? (i := 19) (by rfl)) rfl
theorem lk_740 : (Jvm.Cond.selects "PollBooks" ({ cls := "PollBooks", name := "text", desc := "(III)I" } : Jvm.MethodName) ({ cls := "PollBooks", name := "text", desc := "(III)I" } : Jvm.MethodName)) ∈ lw_ok := in_t4 (List.mem_of_getElem? (i := 20) (by rfl)) rfl
theorem lk_862 : (Jvm.Cond.methodLink "PollBooksLaw" (84 : Nat) ({ cls := "PollBooks", name := "fault", desc := "(I)I" } : Jvm.MethodName)) ∈ lw_ok := in_t4 (List.mem_of_getElem? (i := 142) (by rfl)) rfl
theorem lk_863 : (Jvm.Cond.instanceMethod ({ cls := "PollBooks", name := "fault", desc := "(I)I" } : Jvm.MethodName)) ∈ lw_ok := in_t4 (List.mem_of_getElem? (i := 143) (by rfl)) rfl
theorem lk_864 : (Jvm.Cond.selects "PollBooks" ({ cls := "PollBooks", name := "fault", desc := "(I)I" } : Jvm.MethodName) ({ cls := "PollBooks", name := "fault", desc := "(I)I" } : Jvm.MethodName)) ∈ lw_ok := in_t4 (List.mem_of_getElem? (i := 144) (by rfl)) rfl
theorem lk_874 : (Jvm.Cond.methodLink "PollBooksLaw" (89 : Nat) ({ cls := "PollBooks", name := "rules", desc := "(II)I" } : Jvm.MethodName)) ∈ lw_ok := in_t4 (List.mem_of_getElem? (i := 154) (by rfl)) rfl
theorem lk_875 : (Jvm.Cond.instanceMethod ({ cls := "PollBooks", name := "rules", desc := "(II)I" } : Jvm.MethodName)) ∈ lw_ok := in_t4 (List.mem_of_getElem? (i := 155) (by rfl)) rfl
theorem lk_876 : (Jvm.Cond.selects "PollBooks" ({ cls := "PollBooks", name := "rules", desc := "(II)I" } : Jvm.MethodName) ({ cls := "PollBooks", name := "rules", desc := "(II)I" } : Jvm.MethodName)) ∈ lw_ok := in_t4 (List.mem_of_getElem? (i := 156) (by rfl)) rfl
theorem lk_894 : (Jvm.Cond.methodLink "PollBooksLaw" (94 : Nat) ({ cls := "PollBooks", name := "struck", desc := "(III)I" } : Jvm.MethodName)) ∈ lw_ok := in_t4 (List.mem_of_getElem? (i := 174) (by rfl)) rfl
theorem lk_895 : (Jvm.Cond.instanceMethod ({ cls := "PollBooks", name := "struck", desc := "(III)I" } : Jvm.MethodName)) ∈ lw_ok := in_t4 (List.mem_of_getElem? (i := 175) (by rfl)) rfl
theorem lk_896 : (Jvm.Cond.selects "PollBooks" ({ cls := "PollBooks", name := "struck", desc := "(III)I" } : Jvm.MethodName) ({ cls := "PollBooks", name := "struck", desc := "(III)I" } : Jvm.MethodName)) ∈ lw_ok := in_t4 (List.mem_of_getElem? (i := 176) (by rfl)) rfl
theorem lk_903 : (Jvm.Cond.methodLink "PollBooksLaw" (98 : Nat) ({ cls := "PollBooks", name := "right", desc := "(IIII)I" } : Jvm.MethodName)) ∈ lw_ok := in_t4 (List.mem_of_getElem? (i := 183) (by rfl)) rfl
theorem lk_904 : (Jvm.Cond.instanceMethod ({ cls := "PollBooks", name := "right", desc := "(IIII)I" } : Jvm.MethodName)) ∈ lw_ok := in_t4 (List.mem_of_getElem? (i := 184) (by rfl)) rfl
theorem lk_905 : (Jvm.Cond.selects "PollBooks" ({ cls := "PollBooks", name := "right", desc := "(IIII)I" } : Jvm.MethodName) ({ cls := "PollBooks", name := "right", desc := "(IIII)I" } : Jvm.MethodName)) ∈ lw_ok := in_t4 (List.mem_of_getElem? (i := 185) (by rfl)) rfl
theorem lk_957 : (Jvm.Cond.methodLink "PollBooksLaw" (102 : Nat) ({ cls := "PollBooks", name := "why", desc := "(IIII)I" } : Jvm.MethodName)) ∈ lw_ok := in_t4 (List.mem_of_getElem? (i := 237) (by rfl)) rfl
theorem lk_958 : (Jvm.Cond.instanceMethod ({ cls := "PollBooks", name := "why", desc := "(IIII)I" } : Jvm.MethodName)) ∈ lw_ok := in_t4 (List.mem_of_getElem? (i := 238) (by rfl)) rfl
theorem lk_959 : (Jvm.Cond.selects "PollBooks" ({ cls := "PollBooks", name := "why", desc := "(IIII)I" } : Jvm.MethodName) ({ cls := "PollBooks", name := "why", desc := "(IIII)I" } : Jvm.MethodName)) ∈ lw_ok := in_t4 (List.mem_of_getElem? (i := 239) (by rfl)) rfl
theorem lk_965 : (Jvm.Cond.methodLink "PollBooksLaw" (106 : Nat) ({ cls := "PollBooks", name := "voided", desc := "(IIII)I" } : Jvm.MethodName)) ∈ lw_ok := in_t5 (List.mem_of_getElem? (i := 5) (by rfl)) rfl
theorem lk_966 : (Jvm.Cond.instanceMethod ({ cls := "PollBooks", name := "voided", desc := "(IIII)I" } : Jvm.MethodName)) ∈ lw_ok := in_t5 (List.mem_of_getElem? (i := 6) (by rfl)) rfl
theorem lk_967 : (Jvm.Cond.selects "PollBooks" ({ cls := "PollBooks", name := "voided", desc := "(IIII)I" } : Jvm.MethodName) ({ cls := "PollBooks", name := "voided", desc := "(IIII)I" } : Jvm.MethodName)) ∈ lw_ok := in_t5 (List.mem_of_getElem? (i := 7) (by rfl)) rfl
theorem lk_973 : (Jvm.Cond.methodLink "PollBooksLaw" (110 : Nat) ({ cls := "PollBooks", name := "names", desc := "(II)I" } : Jvm.MethodName)) ∈ lw_ok := in_t5 (List.mem_of_getElem? (i := 13) (by rfl)) rfl
theorem lk_974 : (Jvm.Cond.instanceMethod ({ cls := "PollBooks", name := "names", desc := "(II)I" } : Jvm.MethodName)) ∈ lw_ok := in_t5 (List.mem_of_getElem? (i := 14) (by rfl)) rfl
theorem lk_975 : (Jvm.Cond.selects "PollBooks" ({ cls := "PollBooks", name := "names", desc := "(II)I" } : Jvm.MethodName) ({ cls := "PollBooks", name := "names", desc := "(II)I" } : Jvm.MethodName)) ∈ lw_ok := in_t5 (List.mem_of_getElem? (i := 15) (by rfl)) rfl
theorem lk_981 : (Jvm.Cond.methodLink "PollBooksLaw" (114 : Nat) ({ cls := "PollBooks", name := "entry", desc := "(IJIII)I" } : Jvm.MethodName)) ∈ lw_ok := in_t5 (List.mem_of_getElem? (i := 21) (by rfl)) rfl
theorem lk_982 : (Jvm.Cond.instanceMethod ({ cls := "PollBooks", name := "entry", desc := "(IJIII)I" } : Jvm.MethodName)) ∈ lw_ok := in_t5 (List.mem_of_getElem? (i := 22) (by rfl)) rfl
theorem lk_983 : (Jvm.Cond.selects "PollBooks" ({ cls := "PollBooks", name := "entry", desc := "(IJIII)I" } : Jvm.MethodName) ({ cls := "PollBooks", name := "entry", desc := "(IJIII)I" } : Jvm.MethodName)) ∈ lw_ok := in_t5 (List.mem_of_getElem? (i := 23) (by rfl)) rfl
theorem lk_1018 : (Jvm.Cond.methodLink "PollBooksLaw" (119 : Nat) ({ cls := "PollBooks", name := "join", desc := "(I)I" } : Jvm.MethodName)) ∈ lw_ok := in_t5 (List.mem_of_getElem? (i := 58) (by rfl)) rfl
theorem lk_1019 : (Jvm.Cond.instanceMethod ({ cls := "PollBooks", name := "join", desc := "(I)I" } : Jvm.MethodName)) ∈ lw_ok := in_t5 (List.mem_of_getElem? (i := 59) (by rfl)) rfl
theorem lk_1020 : (Jvm.Cond.selects "PollBooks" ({ cls := "PollBooks", name := "join", desc := "(I)I" } : Jvm.MethodName) ({ cls := "PollBooks", name := "join", desc := "(I)I" } : Jvm.MethodName)) ∈ lw_ok := in_t5 (List.mem_of_getElem? (i := 60) (by rfl)) rfl
theorem lk_1042 : (Jvm.Cond.methodLink "PollBooksLaw" (123 : Nat) ({ cls := "PollBooks", name := "mate", desc := "(II)I" } : Jvm.MethodName)) ∈ lw_ok := in_t5 (List.mem_of_getElem? (i := 82) (by rfl)) rfl
theorem lk_1043 : (Jvm.Cond.instanceMethod ({ cls := "PollBooks", name := "mate", desc := "(II)I" } : Jvm.MethodName)) ∈ lw_ok := in_t5 (List.mem_of_getElem? (i := 83) (by rfl)) rfl
theorem lk_1044 : (Jvm.Cond.selects "PollBooks" ({ cls := "PollBooks", name := "mate", desc := "(II)I" } : Jvm.MethodName) ({ cls := "PollBooks", name := "mate", desc := "(II)I" } : Jvm.MethodName)) ∈ lw_ok := in_t5 (List.mem_of_getElem? (i := 84) (by rfl)) rfl
theorem lk_1054 : (Jvm.Cond.methodLink "PollBooksLaw" (127 : Nat) ({ cls := "PollBooks", name := "joined", desc := "(I)I" } : Jvm.MethodName)) ∈ lw_ok := in_t5 (List.mem_of_getElem? (i := 94) (by rfl)) rfl
theorem lk_1055 : (Jvm.Cond.instanceMethod ({ cls := "PollBooks", name := "joined", desc := "(I)I" } : Jvm.MethodName)) ∈ lw_ok := in_t5 (List.mem_of_getElem? (i := 95) (by rfl)) rfl
theorem lk_1056 : (Jvm.Cond.selects "PollBooks" ({ cls := "PollBooks", name := "joined", desc := "(I)I" } : Jvm.MethodName) ({ cls := "PollBooks", name := "joined", desc := "(I)I" } : Jvm.MethodName)) ∈ lw_ok := in_t5 (List.mem_of_getElem? (i := 96) (by rfl)) rfl
theorem lk_1062 : (Jvm.Cond.methodLink "PollBooksLaw" (131 : Nat) ({ cls := "PollBooks", name := "tally", desc := "(II)I" } : Jvm.MethodName)) ∈ lw_ok := in_t5 (List.mem_of_getElem? (i := 102) (by rfl)) rfl
theorem lk_1063 : (Jvm.Cond.instanceMethod ({ cls := "PollBooks", name := "tally", desc := "(II)I" } : Jvm.MethodName)) ∈ lw_ok := in_t5 (List.mem_of_getElem? (i := 103) (by rfl)) rfl
theorem lk_1064 : (Jvm.Cond.selects "PollBooks" ({ cls := "PollBooks", name := "tally", desc := "(II)I" } : Jvm.MethodName) ({ cls := "PollBooks", name := "tally", desc := "(II)I" } : Jvm.MethodName)) ∈ lw_ok := in_t5 (List.mem_of_getElem? (i := 104) (by rfl)) rfl
theorem lk_1077 : (Jvm.Cond.methodLink "PollBooksLaw" (135 : Nat) ({ cls := "PollBooks", name := "reach", desc := "(I)Z" } : Jvm.MethodName)) ∈ lw_ok := in_t5 (List.mem_of_getElem? (i := 117) (by rfl)) rfl
theorem lk_1078 : (Jvm.Cond.instanceMethod ({ cls := "PollBooks", name := "reach", desc := "(I)Z" } : Jvm.MethodName)) ∈ lw_ok := in_t5 (List.mem_of_getElem? (i := 118) (by rfl)) rfl
theorem lk_1079 : (Jvm.Cond.selects "PollBooks" ({ cls := "PollBooks", name := "reach", desc := "(I)Z" } : Jvm.MethodName) ({ cls := "PollBooks", name := "reach", desc := "(I)Z" } : Jvm.MethodName)) ∈ lw_ok := in_t5 (List.mem_of_getElem? (i := 119) (by rfl)) rfl
theorem lk_1086 : (Jvm.Cond.methodLink "PollBooksLaw" (139 : Nat) ({ cls := "PollBooks", name := "who", desc := "(I)I" } : Jvm.MethodName)) ∈ lw_ok := in_t5 (List.mem_of_getElem? (i := 126) (by rfl)) rfl
theorem lk_1087 : (Jvm.Cond.instanceMethod ({ cls := "PollBooks", name := "who", desc := "(I)I" } : Jvm.MethodName)) ∈ lw_ok := in_t5 (List.mem_of_getElem? (i := 127) (by rfl)) rfl
theorem lk_1088 : (Jvm.Cond.selects "PollBooks" ({ cls := "PollBooks", name := "who", desc := "(I)I" } : Jvm.MethodName) ({ cls := "PollBooks", name := "who", desc := "(I)I" } : Jvm.MethodName)) ∈ lw_ok := in_t5 (List.mem_of_getElem? (i := 128) (by rfl)) rfl
theorem lk_1094 : (Jvm.Cond.methodLink "PollBooksLaw" (143 : Nat) ({ cls := "PollBooks", name := "sure", desc := "(II)I" } : Jvm.MethodName)) ∈ lw_ok := in_t5 (List.mem_of_getElem? (i := 134) (by rfl)) rfl
theorem lk_1095 : (Jvm.Cond.instanceMethod ({ cls := "PollBooks", name := "sure", desc := "(II)I" } : Jvm.MethodName)) ∈ lw_ok := in_t5 (List.mem_of_getElem? (i := 135) (by rfl)) rfl
theorem lk_1096 : (Jvm.Cond.selects "PollBooks" ({ cls := "PollBooks", name := "sure", desc := "(II)I" } : Jvm.MethodName) ({ cls := "PollBooks", name := "sure", desc := "(II)I" } : Jvm.MethodName)) ∈ lw_ok := in_t5 (List.mem_of_getElem? (i := 136) (by rfl)) rfl
theorem lk_1107 : (Jvm.Cond.methodLink "PollBooksLaw" (147 : Nat) ({ cls := "PollBooks", name := "offer", desc := "(III)I" } : Jvm.MethodName)) ∈ lw_ok := in_t5 (List.mem_of_getElem? (i := 147) (by rfl)) rfl
theorem lk_1108 : (Jvm.Cond.instanceMethod ({ cls := "PollBooks", name := "offer", desc := "(III)I" } : Jvm.MethodName)) ∈ lw_ok := in_t5 (List.mem_of_getElem? (i := 148) (by rfl)) rfl
theorem lk_1109 : (Jvm.Cond.selects "PollBooks" ({ cls := "PollBooks", name := "offer", desc := "(III)I" } : Jvm.MethodName) ({ cls := "PollBooks", name := "offer", desc := "(III)I" } : Jvm.MethodName)) ∈ lw_ok := in_t5 (List.mem_of_getElem? (i := 149) (by rfl)) rfl
theorem lk_1119 : (Jvm.Cond.methodLink "PollBooksLaw" (151 : Nat) ({ cls := "PollBooks", name := "standing", desc := "(III)I" } : Jvm.MethodName)) ∈ lw_ok := in_t5 (List.mem_of_getElem? (i := 159) (by rfl)) rfl
theorem lk_1120 : (Jvm.Cond.instanceMethod ({ cls := "PollBooks", name := "standing", desc := "(III)I" } : Jvm.MethodName)) ∈ lw_ok := in_t5 (List.mem_of_getElem? (i := 160) (by rfl)) rfl
theorem lk_1121 : (Jvm.Cond.selects "PollBooks" ({ cls := "PollBooks", name := "standing", desc := "(III)I" } : Jvm.MethodName) ({ cls := "PollBooks", name := "standing", desc := "(III)I" } : Jvm.MethodName)) ∈ lw_ok := in_t5 (List.mem_of_getElem? (i := 161) (by rfl)) rfl
theorem lk_1143 : (Jvm.Cond.methodLink "PollBooksLaw" (155 : Nat) ({ cls := "PollBooks", name := "stands", desc := "(III)I" } : Jvm.MethodName)) ∈ lw_ok := in_t5 (List.mem_of_getElem? (i := 183) (by rfl)) rfl
theorem lk_1144 : (Jvm.Cond.instanceMethod ({ cls := "PollBooks", name := "stands", desc := "(III)I" } : Jvm.MethodName)) ∈ lw_ok := in_t5 (List.mem_of_getElem? (i := 184) (by rfl)) rfl
theorem lk_1145 : (Jvm.Cond.selects "PollBooks" ({ cls := "PollBooks", name := "stands", desc := "(III)I" } : Jvm.MethodName) ({ cls := "PollBooks", name := "stands", desc := "(III)I" } : Jvm.MethodName)) ∈ lw_ok := in_t5 (List.mem_of_getElem? (i := 185) (by rfl)) rfl
theorem lk_1164 : (Jvm.Cond.methodLink "PollBooksLaw" (159 : Nat) ({ cls := "PollBooks", name := "poll", desc := "(IIIZ)I" } : Jvm.MethodName)) ∈ lw_ok := in_t5 (List.mem_of_getElem? (i := 204) (by rfl)) rfl
theorem lk_1165 : (Jvm.Cond.instanceMethod ({ cls := "PollBooks", name := "poll", desc := "(IIIZ)I" } : Jvm.MethodName)) ∈ lw_ok := in_t5 (List.mem_of_getElem? (i := 205) (by rfl)) rfl
theorem lk_1166 : (Jvm.Cond.selects "PollBooks" ({ cls := "PollBooks", name := "poll", desc := "(IIIZ)I" } : Jvm.MethodName) ({ cls := "PollBooks", name := "poll", desc := "(IIIZ)I" } : Jvm.MethodName)) ∈ lw_ok := in_t5 (List.mem_of_getElem? (i := 206) (by rfl)) rfl
theorem lk_1168 : (Jvm.Cond.methodLink "PollBooksLaw" (164 : Nat) ({ cls := "PollBooks", name := "seated", desc := "(IIIZ)I" } : Jvm.MethodName)) ∈ lw_ok := in_t5 (List.mem_of_getElem? (i := 208) (by rfl)) rfl
theorem lk_1169 : (Jvm.Cond.instanceMethod ({ cls := "PollBooks", name := "seated", desc := "(IIIZ)I" } : Jvm.MethodName)) ∈ lw_ok := in_t5 (List.mem_of_getElem? (i := 209) (by rfl)) rfl
theorem lk_1170 : (Jvm.Cond.selects "PollBooks" ({ cls := "PollBooks", name := "seated", desc := "(IIIZ)I" } : Jvm.MethodName) ({ cls := "PollBooks", name := "seated", desc := "(IIIZ)I" } : Jvm.MethodName)) ∈ lw_ok := in_t5 (List.mem_of_getElem? (i := 210) (by rfl)) rfl
theorem lk_1178 : (Jvm.Cond.methodLink "PollBooksLaw" (168 : Nat) ({ cls := "PollBooks", name := "ground", desc := "(ZI)I" } : Jvm.MethodName)) ∈ lw_ok := in_t5 (List.mem_of_getElem? (i := 218) (by rfl)) rfl
theorem lk_1179 : (Jvm.Cond.instanceMethod ({ cls := "PollBooks", name := "ground", desc := "(ZI)I" } : Jvm.MethodName)) ∈ lw_ok := in_t5 (List.mem_of_getElem? (i := 219) (by rfl)) rfl
theorem lk_1180 : (Jvm.Cond.selects "PollBooks" ({ cls := "PollBooks", name := "ground", desc := "(ZI)I" } : Jvm.MethodName) ({ cls := "PollBooks", name := "ground", desc := "(ZI)I" } : Jvm.MethodName)) ∈ lw_ok := in_t5 (List.mem_of_getElem? (i := 220) (by rfl)) rfl
theorem lk_1194 : (Jvm.Cond.methodLink "PollBooksLaw" (173 : Nat) ({ cls := "PollBooks", name := "against", desc := "(II)Z" } : Jvm.MethodName)) ∈ lw_ok := in_t5 (List.mem_of_getElem? (i := 234) (by rfl)) rfl
theorem lk_1195 : (Jvm.Cond.instanceMethod ({ cls := "PollBooks", name := "against", desc := "(II)Z" } : Jvm.MethodName)) ∈ lw_ok := in_t5 (List.mem_of_getElem? (i := 235) (by rfl)) rfl
theorem lk_1196 : (Jvm.Cond.selects "PollBooks" ({ cls := "PollBooks", name := "against", desc := "(II)Z" } : Jvm.MethodName) ({ cls := "PollBooks", name := "against", desc := "(II)Z" } : Jvm.MethodName)) ∈ lw_ok := in_t5 (List.mem_of_getElem? (i := 236) (by rfl)) rfl
theorem lk_1210 : (Jvm.Cond.methodLink "PollBooksLaw" (178 : Nat) ({ cls := "PollBooks", name := "written", desc := "(II)I" } : Jvm.MethodName)) ∈ lw_ok := in_t6 (List.mem_of_getElem? (i := 10) (by rfl)) rfl
theorem lk_1211 : (Jvm.Cond.instanceMethod ({ cls := "PollBooks", name := "written", desc := "(II)I" } : Jvm.MethodName)) ∈ lw_ok := in_t6 (List.mem_of_getElem? (i := 11) (by rfl)) rfl
theorem lk_1212 : (Jvm.Cond.selects "PollBooks" ({ cls := "PollBooks", name := "written", desc := "(II)I" } : Jvm.MethodName) ({ cls := "PollBooks", name := "written", desc := "(II)I" } : Jvm.MethodName)) ∈ lw_ok := in_t6 (List.mem_of_getElem? (i := 12) (by rfl)) rfl
theorem lk_1238 : (Jvm.Cond.methodLink "PollBooksLaw" (182 : Nat) ({ cls := "PollBooks", name := "turns", desc := "(II)I" } : Jvm.MethodName)) ∈ lw_ok := in_t6 (List.mem_of_getElem? (i := 38) (by rfl)) rfl
theorem lk_1239 : (Jvm.Cond.instanceMethod ({ cls := "PollBooks", name := "turns", desc := "(II)I" } : Jvm.MethodName)) ∈ lw_ok := in_t6 (List.mem_of_getElem? (i := 39) (by rfl)) rfl
theorem lk_1240 : (Jvm.Cond.selects "PollBooks" ({ cls := "PollBooks", name := "turns", desc := "(II)I" } : Jvm.MethodName) ({ cls := "PollBooks", name := "turns", desc := "(II)I" } : Jvm.MethodName)) ∈ lw_ok := in_t6 (List.mem_of_getElem? (i := 40) (by rfl)) rfl
theorem lk_1268 : (Jvm.Cond.methodLink "PollBooksLaw" (186 : Nat) ({ cls := "PollBooks", name := "member", desc := "(II)I" } : Jvm.MethodName)) ∈ lw_ok := in_t6 (List.mem_of_getElem? (i := 68) (by rfl)) rfl
theorem lk_1269 : (Jvm.Cond.instanceMethod ({ cls := "PollBooks", name := "member", desc := "(II)I" } : Jvm.MethodName)) ∈ lw_ok := in_t6 (List.mem_of_getElem? (i := 69) (by rfl)) rfl
theorem lk_1270 : (Jvm.Cond.selects "PollBooks" ({ cls := "PollBooks", name := "member", desc := "(II)I" } : Jvm.MethodName) ({ cls := "PollBooks", name := "member", desc := "(II)I" } : Jvm.MethodName)) ∈ lw_ok := in_t6 (List.mem_of_getElem? (i := 70) (by rfl)) rfl
theorem lk_1283 : (Jvm.Cond.methodLink "PollBooksLaw" (190 : Nat) ({ cls := "PollBooks", name := "kin", desc := "(II)Z" } : Jvm.MethodName)) ∈ lw_ok := in_t6 (List.mem_of_getElem? (i := 83) (by rfl)) rfl
theorem lk_1284 : (Jvm.Cond.instanceMethod ({ cls := "PollBooks", name := "kin", desc := "(II)Z" } : Jvm.MethodName)) ∈ lw_ok := in_t6 (List.mem_of_getElem? (i := 84) (by rfl)) rfl
theorem lk_1285 : (Jvm.Cond.selects "PollBooks" ({ cls := "PollBooks", name := "kin", desc := "(II)Z" } : Jvm.MethodName) ({ cls := "PollBooks", name := "kin", desc := "(II)Z" } : Jvm.MethodName)) ∈ lw_ok := in_t6 (List.mem_of_getElem? (i := 85) (by rfl)) rfl
theorem lk_1291 : (Jvm.Cond.methodLink "PollBooksLaw" (194 : Nat) ({ cls := "PollBooks", name := "draw", desc := "(III)I" } : Jvm.MethodName)) ∈ lw_ok := in_t6 (List.mem_of_getElem? (i := 91) (by rfl)) rfl
theorem lk_1292 : (Jvm.Cond.instanceMethod ({ cls := "PollBooks", name := "draw", desc := "(III)I" } : Jvm.MethodName)) ∈ lw_ok := in_t6 (List.mem_of_getElem? (i := 92) (by rfl)) rfl
theorem lk_1293 : (Jvm.Cond.selects "PollBooks" ({ cls := "PollBooks", name := "draw", desc := "(III)I" } : Jvm.MethodName) ({ cls := "PollBooks", name := "draw", desc := "(III)I" } : Jvm.MethodName)) ∈ lw_ok := in_t6 (List.mem_of_getElem? (i := 93) (by rfl)) rfl
theorem lk_1328 : (Jvm.Cond.methodLink "PollBooksLaw" (198 : Nat) ({ cls := "PollBooks", name := "bench", desc := "(I)I" } : Jvm.MethodName)) ∈ lw_ok := in_t6 (List.mem_of_getElem? (i := 128) (by rfl)) rfl
theorem lk_1329 : (Jvm.Cond.instanceMethod ({ cls := "PollBooks", name := "bench", desc := "(I)I" } : Jvm.MethodName)) ∈ lw_ok := in_t6 (List.mem_of_getElem? (i := 129) (by rfl)) rfl
theorem lk_1330 : (Jvm.Cond.selects "PollBooks" ({ cls := "PollBooks", name := "bench", desc := "(I)I" } : Jvm.MethodName) ({ cls := "PollBooks", name := "bench", desc := "(I)I" } : Jvm.MethodName)) ∈ lw_ok := in_t6 (List.mem_of_getElem? (i := 130) (by rfl)) rfl
theorem lk_1340 : (Jvm.Cond.methodLink "PollBooksLaw" (202 : Nat) ({ cls := "PollBooks", name := "miles", desc := "(III)Z" } : Jvm.MethodName)) ∈ lw_ok := in_t6 (List.mem_of_getElem? (i := 140) (by rfl)) rfl
theorem lk_1341 : (Jvm.Cond.instanceMethod ({ cls := "PollBooks", name := "miles", desc := "(III)Z" } : Jvm.MethodName)) ∈ lw_ok := in_t6 (List.mem_of_getElem? (i := 141) (by rfl)) rfl
theorem lk_1342 : (Jvm.Cond.selects "PollBooks" ({ cls := "PollBooks", name := "miles", desc := "(III)Z" } : Jvm.MethodName) ({ cls := "PollBooks", name := "miles", desc := "(III)Z" } : Jvm.MethodName)) ∈ lw_ok := in_t6 (List.mem_of_getElem? (i := 142) (by rfl)) rfl
theorem lk_1348 : (Jvm.Cond.methodLink "PollBooksLaw" (206 : Nat) ({ cls := "PollBooks", name := "coaches", desc := "(III)I" } : Jvm.MethodName)) ∈ lw_ok := in_t6 (List.mem_of_getElem? (i := 148) (by rfl)) rfl
theorem lk_1349 : (Jvm.Cond.instanceMethod ({ cls := "PollBooks", name := "coaches", desc := "(III)I" } : Jvm.MethodName)) ∈ lw_ok := in_t6 (List.mem_of_getElem? (i := 149) (by rfl)) rfl
theorem lk_1350 : (Jvm.Cond.selects "PollBooks" ({ cls := "PollBooks", name := "coaches", desc := "(III)I" } : Jvm.MethodName) ({ cls := "PollBooks", name := "coaches", desc := "(III)I" } : Jvm.MethodName)) ∈ lw_ok := in_t6 (List.mem_of_getElem? (i := 150) (by rfl)) rfl
theorem lk_1388 : (Jvm.Cond.methodLink "PollBooksLaw" (210 : Nat) ({ cls := "PollBooks", name := "coachMany", desc := "()I" } : Jvm.MethodName)) ∈ lw_ok := in_t6 (List.mem_of_getElem? (i := 188) (by rfl)) rfl
theorem lk_1389 : (Jvm.Cond.instanceMethod ({ cls := "PollBooks", name := "coachMany", desc := "()I" } : Jvm.MethodName)) ∈ lw_ok := in_t6 (List.mem_of_getElem? (i := 189) (by rfl)) rfl
theorem lk_1390 : (Jvm.Cond.selects "PollBooks" ({ cls := "PollBooks", name := "coachMany", desc := "()I" } : Jvm.MethodName) ({ cls := "PollBooks", name := "coachMany", desc := "()I" } : Jvm.MethodName)) ∈ lw_ok := in_t6 (List.mem_of_getElem? (i := 190) (by rfl)) rfl
theorem lk_1730 : (Jvm.Cond.methodLink "PollBooksLaw" (17 : Nat) ({ cls := "PollBooksModel", name := "status", desc := "()I" } : Jvm.MethodName)) ∈ lw_ok := in_t8 (List.mem_of_getElem? (i := 50) (by rfl)) rfl
theorem lk_1731 : (Jvm.Cond.instanceMethod ({ cls := "PollBooksModel", name := "status", desc := "()I" } : Jvm.MethodName)) ∈ lw_ok := in_t8 (List.mem_of_getElem? (i := 51) (by rfl)) rfl
theorem lk_1732 : (Jvm.Cond.selects "PollBooksModel" ({ cls := "PollBooksModel", name := "status", desc := "()I" } : Jvm.MethodName) ({ cls := "PollBooksModel", name := "status", desc := "()I" } : Jvm.MethodName)) ∈ lw_ok := in_t8 (List.mem_of_getElem? (i := 52) (by rfl)) rfl
theorem lk_1734 : (Jvm.Cond.methodLink "PollBooksLaw" (22 : Nat) ({ cls := "PollBooksModel", name := "tray", desc := "(III)Z" } : Jvm.MethodName)) ∈ lw_ok := in_t8 (List.mem_of_getElem? (i := 54) (by rfl)) rfl
theorem lk_1735 : (Jvm.Cond.instanceMethod ({ cls := "PollBooksModel", name := "tray", desc := "(III)Z" } : Jvm.MethodName)) ∈ lw_ok := in_t8 (List.mem_of_getElem? (i := 55) (by rfl)) rfl
theorem lk_1736 : (Jvm.Cond.selects "PollBooksModel" ({ cls := "PollBooksModel", name := "tray", desc := "(III)Z" } : Jvm.MethodName) ({ cls := "PollBooksModel", name := "tray", desc := "(III)Z" } : Jvm.MethodName)) ∈ lw_ok := in_t8 (List.mem_of_getElem? (i := 56) (by rfl)) rfl
theorem lk_1745 : (Jvm.Cond.methodLink "PollBooksLaw" (29 : Nat) ({ cls := "PollBooksModel", name := "write", desc := "(IIJ)Z" } : Jvm.MethodName)) ∈ lw_ok := in_t8 (List.mem_of_getElem? (i := 65) (by rfl)) rfl
theorem lk_1746 : (Jvm.Cond.instanceMethod ({ cls := "PollBooksModel", name := "write", desc := "(IIJ)Z" } : Jvm.MethodName)) ∈ lw_ok := in_t8 (List.mem_of_getElem? (i := 66) (by rfl)) rfl
theorem lk_1747 : (Jvm.Cond.selects "PollBooksModel" ({ cls := "PollBooksModel", name := "write", desc := "(IIJ)Z" } : Jvm.MethodName) ({ cls := "PollBooksModel", name := "write", desc := "(IIJ)Z" } : Jvm.MethodName)) ∈ lw_ok := in_t8 (List.mem_of_getElem? (i := 67) (by rfl)) rfl
theorem lk_1756 : (Jvm.Cond.methodLink "PollBooksLaw" (34 : Nat) ({ cls := "PollBooksModel", name := "read", desc := "(II)J" } : Jvm.MethodName)) ∈ lw_ok := in_t8 (List.mem_of_getElem? (i := 76) (by rfl)) rfl
theorem lk_1757 : (Jvm.Cond.instanceMethod ({ cls := "PollBooksModel", name := "read", desc := "(II)J" } : Jvm.MethodName)) ∈ lw_ok := in_t8 (List.mem_of_getElem? (i := 77) (by rfl)) rfl
theorem lk_1758 : (Jvm.Cond.selects "PollBooksModel" ({ cls := "PollBooksModel", name := "read", desc := "(II)J" } : Jvm.MethodName) ({ cls := "PollBooksModel", name := "read", desc := "(II)J" } : Jvm.MethodName)) ∈ lw_ok := in_t8 (List.mem_of_getElem? (i := 78) (by rfl)) rfl
theorem lk_1761 : (Jvm.Cond.methodLink "PollBooksLaw" (39 : Nat) ({ cls := "PollBooksModel", name := "pour", desc := "(IIIII)Z" } : Jvm.MethodName)) ∈ lw_ok := in_t8 (List.mem_of_getElem? (i := 81) (by rfl)) rfl
theorem lk_1762 : (Jvm.Cond.instanceMethod ({ cls := "PollBooksModel", name := "pour", desc := "(IIIII)Z" } : Jvm.MethodName)) ∈ lw_ok := in_t8 (List.mem_of_getElem? (i := 82) (by rfl)) rfl
theorem lk_1763 : (Jvm.Cond.selects "PollBooksModel" ({ cls := "PollBooksModel", name := "pour", desc := "(IIIII)Z" } : Jvm.MethodName) ({ cls := "PollBooksModel", name := "pour", desc := "(IIIII)Z" } : Jvm.MethodName)) ∈ lw_ok := in_t8 (List.mem_of_getElem? (i := 83) (by rfl)) rfl
theorem lk_1765 : (Jvm.Cond.methodLink "PollBooksLaw" (44 : Nat) ({ cls := "PollBooksModel", name := "far", desc := "(JJ)I" } : Jvm.MethodName)) ∈ lw_ok := in_t8 (List.mem_of_getElem? (i := 85) (by rfl)) rfl
theorem lk_1766 : (Jvm.Cond.instanceMethod ({ cls := "PollBooksModel", name := "far", desc := "(JJ)I" } : Jvm.MethodName)) ∈ lw_ok := in_t8 (List.mem_of_getElem? (i := 86) (by rfl)) rfl
theorem lk_1767 : (Jvm.Cond.selects "PollBooksModel" ({ cls := "PollBooksModel", name := "far", desc := "(JJ)I" } : Jvm.MethodName) ({ cls := "PollBooksModel", name := "far", desc := "(JJ)I" } : Jvm.MethodName)) ∈ lw_ok := in_t8 (List.mem_of_getElem? (i := 87) (by rfl)) rfl
theorem lk_1791 : (Jvm.Cond.methodLink "PollBooksLaw" (49 : Nat) ({ cls := "PollBooksModel", name := "person", desc := "(JII)I" } : Jvm.MethodName)) ∈ lw_ok := in_t8 (List.mem_of_getElem? (i := 111) (by rfl)) rfl
theorem lk_1792 : (Jvm.Cond.instanceMethod ({ cls := "PollBooksModel", name := "person", desc := "(JII)I" } : Jvm.MethodName)) ∈ lw_ok := in_t8 (List.mem_of_getElem? (i := 112) (by rfl)) rfl
theorem lk_1793 : (Jvm.Cond.selects "PollBooksModel" ({ cls := "PollBooksModel", name := "person", desc := "(JII)I" } : Jvm.MethodName) ({ cls := "PollBooksModel", name := "person", desc := "(JII)I" } : Jvm.MethodName)) ∈ lw_ok := in_t8 (List.mem_of_getElem? (i := 113) (by rfl)) rfl
theorem lk_1801 : (Jvm.Cond.methodLink "PollBooksLaw" (54 : Nat) ({ cls := "PollBooksModel", name := "hold", desc := "(IIIIII)Z" } : Jvm.MethodName)) ∈ lw_ok := in_t8 (List.mem_of_getElem? (i := 121) (by rfl)) rfl
theorem lk_1802 : (Jvm.Cond.instanceMethod ({ cls := "PollBooksModel", name := "hold", desc := "(IIIIII)Z" } : Jvm.MethodName)) ∈ lw_ok := in_t8 (List.mem_of_getElem? (i := 122) (by rfl)) rfl
theorem lk_1803 : (Jvm.Cond.selects "PollBooksModel" ({ cls := "PollBooksModel", name := "hold", desc := "(IIIIII)Z" } : Jvm.MethodName) ({ cls := "PollBooksModel", name := "hold", desc := "(IIIIII)Z" } : Jvm.MethodName)) ∈ lw_ok := in_t8 (List.mem_of_getElem? (i := 123) (by rfl)) rfl
theorem lk_1822 : (Jvm.Cond.methodLink "PollBooksLaw" (58 : Nat) ({ cls := "PollBooksModel", name := "split", desc := "(III)Z" } : Jvm.MethodName)) ∈ lw_ok := in_t8 (List.mem_of_getElem? (i := 142) (by rfl)) rfl
theorem lk_1823 : (Jvm.Cond.instanceMethod ({ cls := "PollBooksModel", name := "split", desc := "(III)Z" } : Jvm.MethodName)) ∈ lw_ok := in_t8 (List.mem_of_getElem? (i := 143) (by rfl)) rfl
theorem lk_1824 : (Jvm.Cond.selects "PollBooksModel" ({ cls := "PollBooksModel", name := "split", desc := "(III)Z" } : Jvm.MethodName) ({ cls := "PollBooksModel", name := "split", desc := "(III)Z" } : Jvm.MethodName)) ∈ lw_ok := in_t8 (List.mem_of_getElem? (i := 144) (by rfl)) rfl
theorem lk_1826 : (Jvm.Cond.methodLink "PollBooksLaw" (63 : Nat) ({ cls := "PollBooksModel", name := "pay", desc := "(IIIZI)Z" } : Jvm.MethodName)) ∈ lw_ok := in_t8 (List.mem_of_getElem? (i := 146) (by rfl)) rfl
theorem lk_1827 : (Jvm.Cond.instanceMethod ({ cls := "PollBooksModel", name := "pay", desc := "(IIIZI)Z" } : Jvm.MethodName)) ∈ lw_ok := in_t8 (List.mem_of_getElem? (i := 147) (by rfl)) rfl
theorem lk_1828 : (Jvm.Cond.selects "PollBooksModel" ({ cls := "PollBooksModel", name := "pay", desc := "(IIIZI)Z" } : Jvm.MethodName) ({ cls := "PollBooksModel", name := "pay", desc := "(IIIZI)Z" } : Jvm.MethodName)) ∈ lw_ok := in_t8 (List.mem_of_getElem? (i := 148) (by rfl)) rfl
theorem lk_1830 : (Jvm.Cond.methodLink "PollBooksLaw" (68 : Nat) ({ cls := "PollBooksModel", name := "asof", desc := "(I)Z" } : Jvm.MethodName)) ∈ lw_ok := in_t8 (List.mem_of_getElem? (i := 150) (by rfl)) rfl
theorem lk_1831 : (Jvm.Cond.instanceMethod ({ cls := "PollBooksModel", name := "asof", desc := "(I)Z" } : Jvm.MethodName)) ∈ lw_ok := in_t8 (List.mem_of_getElem? (i := 151) (by rfl)) rfl
theorem lk_1832 : (Jvm.Cond.selects "PollBooksModel" ({ cls := "PollBooksModel", name := "asof", desc := "(I)Z" } : Jvm.MethodName) ({ cls := "PollBooksModel", name := "asof", desc := "(I)Z" } : Jvm.MethodName)) ∈ lw_ok := in_t8 (List.mem_of_getElem? (i := 152) (by rfl)) rfl
theorem lk_1834 : (Jvm.Cond.methodLink "PollBooksLaw" (73 : Nat) ({ cls := "PollBooksModel", name := "fact", desc := "(IIII)I" } : Jvm.MethodName)) ∈ lw_ok := in_t8 (List.mem_of_getElem? (i := 154) (by rfl)) rfl
theorem lk_1835 : (Jvm.Cond.instanceMethod ({ cls := "PollBooksModel", name := "fact", desc := "(IIII)I" } : Jvm.MethodName)) ∈ lw_ok := in_t8 (List.mem_of_getElem? (i := 155) (by rfl)) rfl
theorem lk_1836 : (Jvm.Cond.selects "PollBooksModel" ({ cls := "PollBooksModel", name := "fact", desc := "(IIII)I" } : Jvm.MethodName) ({ cls := "PollBooksModel", name := "fact", desc := "(IIII)I" } : Jvm.MethodName)) ∈ lw_ok := in_t8 (List.mem_of_getElem? (i := 156) (by rfl)) rfl
theorem lk_1849 : (Jvm.Cond.methodLink "PollBooksLaw" (78 : Nat) ({ cls := "PollBooksModel", name := "feed", desc := "(IIIII)I" } : Jvm.MethodName)) ∈ lw_ok := in_t8 (List.mem_of_getElem? (i := 169) (by rfl)) rfl
theorem lk_1850 : (Jvm.Cond.instanceMethod ({ cls := "PollBooksModel", name := "feed", desc := "(IIIII)I" } : Jvm.MethodName)) ∈ lw_ok := in_t8 (List.mem_of_getElem? (i := 170) (by rfl)) rfl
theorem lk_1851 : (Jvm.Cond.selects "PollBooksModel" ({ cls := "PollBooksModel", name := "feed", desc := "(IIIII)I" } : Jvm.MethodName) ({ cls := "PollBooksModel", name := "feed", desc := "(IIIII)I" } : Jvm.MethodName)) ∈ lw_ok := in_t8 (List.mem_of_getElem? (i := 171) (by rfl)) rfl
theorem lk_1857 : (Jvm.Cond.methodLink "PollBooksLaw" (83 : Nat) ({ cls := "PollBooksModel", name := "text", desc := "(III)I" } : Jvm.MethodName)) ∈ lw_ok := in_t8 (List.mem_of_getElem? (i := 177) (by rfl)) rfl
theorem lk_1858 : (Jvm.Cond.instanceMethod ({ cls := "PollBooksModel", name := "text", desc := "(III)I" } : Jvm.MethodName)) ∈ lw_ok := in_t8 (List.mem_of_getElem? (i := 178) (by rfl)) rfl
theorem lk_1859 : (Jvm.Cond.selects "PollBooksModel" ({ cls := "PollBooksModel", name := "text", desc := "(III)I" } : Jvm.MethodName) ({ cls := "PollBooksModel", name := "text", desc := "(III)I" } : Jvm.MethodName)) ∈ lw_ok := in_t8 (List.mem_of_getElem? (i := 179) (by rfl)) rfl
theorem lk_1986 : (Jvm.Cond.methodLink "PollBooksLaw" (88 : Nat) ({ cls := "PollBooksModel", name := "fault", desc := "(I)I" } : Jvm.MethodName)) ∈ lw_ok := in_t9 (List.mem_of_getElem? (i := 66) (by rfl)) rfl
theorem lk_1987 : (Jvm.Cond.instanceMethod ({ cls := "PollBooksModel", name := "fault", desc := "(I)I" } : Jvm.MethodName)) ∈ lw_ok := in_t9 (List.mem_of_getElem? (i := 67) (by rfl)) rfl
theorem lk_1988 : (Jvm.Cond.selects "PollBooksModel" ({ cls := "PollBooksModel", name := "fault", desc := "(I)I" } : Jvm.MethodName) ({ cls := "PollBooksModel", name := "fault", desc := "(I)I" } : Jvm.MethodName)) ∈ lw_ok := in_t9 (List.mem_of_getElem? (i := 68) (by rfl)) rfl
theorem lk_1990 : (Jvm.Cond.methodLink "PollBooksLaw" (93 : Nat) ({ cls := "PollBooksModel", name := "rules", desc := "(II)I" } : Jvm.MethodName)) ∈ lw_ok := in_t9 (List.mem_of_getElem? (i := 70) (by rfl)) rfl
theorem lk_1991 : (Jvm.Cond.instanceMethod ({ cls := "PollBooksModel", name := "rules", desc := "(II)I" } : Jvm.MethodName)) ∈ lw_ok := in_t9 (List.mem_of_getElem? (i := 71) (by rfl)) rfl
theorem lk_1992 : (Jvm.Cond.selects "PollBooksModel" ({ cls := "PollBooksModel", name := "rules", desc := "(II)I" } : Jvm.MethodName) ({ cls := "PollBooksModel", name := "rules", desc := "(II)I" } : Jvm.MethodName)) ∈ lw_ok := in_t9 (List.mem_of_getElem? (i := 72) (by rfl)) rfl
theorem lk_1998 : (Jvm.Cond.methodLink "PollBooksLaw" (97 : Nat) ({ cls := "PollBooksModel", name := "struck", desc := "(III)I" } : Jvm.MethodName)) ∈ lw_ok := in_t9 (List.mem_of_getElem? (i := 78) (by rfl)) rfl
theorem lk_1999 : (Jvm.Cond.instanceMethod ({ cls := "PollBooksModel", name := "struck", desc := "(III)I" } : Jvm.MethodName)) ∈ lw_ok := in_t9 (List.mem_of_getElem? (i := 79) (by rfl)) rfl
theorem lk_2000 : (Jvm.Cond.selects "PollBooksModel" ({ cls := "PollBooksModel", name := "struck", desc := "(III)I" } : Jvm.MethodName) ({ cls := "PollBooksModel", name := "struck", desc := "(III)I" } : Jvm.MethodName)) ∈ lw_ok := in_t9 (List.mem_of_getElem? (i := 80) (by rfl)) rfl
theorem lk_2002 : (Jvm.Cond.methodLink "PollBooksLaw" (101 : Nat) ({ cls := "PollBooksModel", name := "right", desc := "(IIII)I" } : Jvm.MethodName)) ∈ lw_ok := in_t9 (List.mem_of_getElem? (i := 82) (by rfl)) rfl
theorem lk_2003 : (Jvm.Cond.instanceMethod ({ cls := "PollBooksModel", name := "right", desc := "(IIII)I" } : Jvm.MethodName)) ∈ lw_ok := in_t9 (List.mem_of_getElem? (i := 83) (by rfl)) rfl
theorem lk_2004 : (Jvm.Cond.selects "PollBooksModel" ({ cls := "PollBooksModel", name := "right", desc := "(IIII)I" } : Jvm.MethodName) ({ cls := "PollBooksModel", name := "right", desc := "(IIII)I" } : Jvm.MethodName)) ∈ lw_ok := in_t9 (List.mem_of_getElem? (i := 84) (by rfl)) rfl
theorem lk_2041 : (Jvm.Cond.methodLink "PollBooksLaw" (105 : Nat) ({ cls := "PollBooksModel", name := "why", desc := "(IIII)I" } : Jvm.MethodName)) ∈ lw_ok := in_t9 (List.mem_of_getElem? (i := 121) (by rfl)) rfl
theorem lk_2042 : (Jvm.Cond.instanceMethod ({ cls := "PollBooksModel", name := "why", desc := "(IIII)I" } : Jvm.MethodName)) ∈ lw_ok := in_t9 (List.mem_of_getElem? (i := 122) (by rfl)) rfl
theorem lk_2043 : (Jvm.Cond.selects "PollBooksModel" ({ cls := "PollBooksModel", name := "why", desc := "(IIII)I" } : Jvm.MethodName) ({ cls := "PollBooksModel", name := "why", desc := "(IIII)I" } : Jvm.MethodName)) ∈ lw_ok := in_t9 (List.mem_of_getElem? (i := 123) (by rfl)) rfl
theorem lk_2045 : (Jvm.Cond.methodLink "PollBooksLaw" (109 : Nat) ({ cls := "PollBooksModel", name := "voided", desc := "(IIII)I" } : Jvm.MethodName)) ∈ lw_ok := in_t9 (List.mem_of_getElem? (i := 125) (by rfl)) rfl
theorem lk_2046 : (Jvm.Cond.instanceMethod ({ cls := "PollBooksModel", name := "voided", desc := "(IIII)I" } : Jvm.MethodName)) ∈ lw_ok := in_t9 (List.mem_of_getElem? (i := 126) (by rfl)) rfl
theorem lk_2047 : (Jvm.Cond.selects "PollBooksModel" ({ cls := "PollBooksModel", name := "voided", desc := "(IIII)I" } : Jvm.MethodName) ({ cls := "PollBooksModel", name := "voided", desc := "(IIII)I" } : Jvm.MethodName)) ∈ lw_ok := in_t9 (List.mem_of_getElem? (i := 127) (by rfl)) rfl
theorem lk_2053 : (Jvm.Cond.methodLink "PollBooksLaw" (113 : Nat) ({ cls := "PollBooksModel", name := "names", desc := "(II)I" } : Jvm.MethodName)) ∈ lw_ok := in_t9 (List.mem_of_getElem? (i := 133) (by rfl)) rfl
theorem lk_2054 : (Jvm.Cond.instanceMethod ({ cls := "PollBooksModel", name := "names", desc := "(II)I" } : Jvm.MethodName)) ∈ lw_ok := in_t9 (List.mem_of_getElem? (i := 134) (by rfl)) rfl
theorem lk_2055 : (Jvm.Cond.selects "PollBooksModel" ({ cls := "PollBooksModel", name := "names", desc := "(II)I" } : Jvm.MethodName) ({ cls := "PollBooksModel", name := "names", desc := "(II)I" } : Jvm.MethodName)) ∈ lw_ok := in_t9 (List.mem_of_getElem? (i := 135) (by rfl)) rfl
theorem lk_2061 : (Jvm.Cond.methodLink "PollBooksLaw" (118 : Nat) ({ cls := "PollBooksModel", name := "entry", desc := "(IJIII)I" } : Jvm.MethodName)) ∈ lw_ok := in_t9 (List.mem_of_getElem? (i := 141) (by rfl)) rfl
theorem lk_2062 : (Jvm.Cond.instanceMethod ({ cls := "PollBooksModel", name := "entry", desc := "(IJIII)I" } : Jvm.MethodName)) ∈ lw_ok := in_t9 (List.mem_of_getElem? (i := 142) (by rfl)) rfl
theorem lk_2063 : (Jvm.Cond.selects "PollBooksModel" ({ cls := "PollBooksModel", name := "entry", desc := "(IJIII)I" } : Jvm.MethodName) ({ cls := "PollBooksModel", name := "entry", desc := "(IJIII)I" } : Jvm.MethodName)) ∈ lw_ok := in_t9 (List.mem_of_getElem? (i := 143) (by rfl)) rfl
theorem lk_2068 : (Jvm.Cond.methodLink "PollBooksLaw" (122 : Nat) ({ cls := "PollBooksModel", name := "join", desc := "(I)I" } : Jvm.MethodName)) ∈ lw_ok := in_t9 (List.mem_of_getElem? (i := 148) (by rfl)) rfl
theorem lk_2069 : (Jvm.Cond.instanceMethod ({ cls := "PollBooksModel", name := "join", desc := "(I)I" } : Jvm.MethodName)) ∈ lw_ok := in_t9 (List.mem_of_getElem? (i := 149) (by rfl)) rfl
theorem lk_2070 : (Jvm.Cond.selects "PollBooksModel" ({ cls := "PollBooksModel", name := "join", desc := "(I)I" } : Jvm.MethodName) ({ cls := "PollBooksModel", name := "join", desc := "(I)I" } : Jvm.MethodName)) ∈ lw_ok := in_t9 (List.mem_of_getElem? (i := 150) (by rfl)) rfl
theorem lk_2088 : (Jvm.Cond.methodLink "PollBooksLaw" (126 : Nat) ({ cls := "PollBooksModel", name := "mate", desc := "(II)I" } : Jvm.MethodName)) ∈ lw_ok := in_t9 (List.mem_of_getElem? (i := 168) (by rfl)) rfl
theorem lk_2089 : (Jvm.Cond.instanceMethod ({ cls := "PollBooksModel", name := "mate", desc := "(II)I" } : Jvm.MethodName)) ∈ lw_ok := in_t9 (List.mem_of_getElem? (i := 169) (by rfl)) rfl
theorem lk_2090 : (Jvm.Cond.selects "PollBooksModel" ({ cls := "PollBooksModel", name := "mate", desc := "(II)I" } : Jvm.MethodName) ({ cls := "PollBooksModel", name := "mate", desc := "(II)I" } : Jvm.MethodName)) ∈ lw_ok := in_t9 (List.mem_of_getElem? (i := 170) (by rfl)) rfl
theorem lk_2100 : (Jvm.Cond.methodLink "PollBooksLaw" (130 : Nat) ({ cls := "PollBooksModel", name := "joined", desc := "(I)I" } : Jvm.MethodName)) ∈ lw_ok := in_t9 (List.mem_of_getElem? (i := 180) (by rfl)) rfl
theorem lk_2101 : (Jvm.Cond.instanceMethod ({ cls := "PollBooksModel", name := "joined", desc := "(I)I" } : Jvm.MethodName)) ∈ lw_ok := in_t9 (List.mem_of_getElem? (i := 181) (by rfl)) rfl
theorem lk_2102 : (Jvm.Cond.selects "PollBooksModel" ({ cls := "PollBooksModel", name := "joined", desc := "(I)I" } : Jvm.MethodName) ({ cls := "PollBooksModel", name := "joined", desc := "(I)I" } : Jvm.MethodName)) ∈ lw_ok := in_t9 (List.mem_of_getElem? (i := 182) (by rfl)) rfl
theorem lk_2108 : (Jvm.Cond.methodLink "PollBooksLaw" (134 : Nat) ({ cls := "PollBooksModel", name := "tally", desc := "(II)I" } : Jvm.MethodName)) ∈ lw_ok := in_t9 (List.mem_of_getElem? (i := 188) (by rfl)) rfl
theorem lk_2109 : (Jvm.Cond.instanceMethod ({ cls := "PollBooksModel", name := "tally", desc := "(II)I" } : Jvm.MethodName)) ∈ lw_ok := in_t9 (List.mem_of_getElem? (i := 189) (by rfl)) rfl
theorem lk_2110 : (Jvm.Cond.selects "PollBooksModel" ({ cls := "PollBooksModel", name := "tally", desc := "(II)I" } : Jvm.MethodName) ({ cls := "PollBooksModel", name := "tally", desc := "(II)I" } : Jvm.MethodName)) ∈ lw_ok := in_t9 (List.mem_of_getElem? (i := 190) (by rfl)) rfl
theorem lk_2115 : (Jvm.Cond.methodLink "PollBooksLaw" (138 : Nat) ({ cls := "PollBooksModel", name := "reach", desc := "(I)Z" } : Jvm.MethodName)) ∈ lw_ok := in_t9 (List.mem_of_getElem? (i := 195) (by rfl)) rfl
theorem lk_2116 : (Jvm.Cond.instanceMethod ({ cls := "PollBooksModel", name := "reach", desc := "(I)Z" } : Jvm.MethodName)) ∈ lw_ok := in_t9 (List.mem_of_getElem? (i := 196) (by rfl)) rfl
theorem lk_2117 : (Jvm.Cond.selects "PollBooksModel" ({ cls := "PollBooksModel", name := "reach", desc := "(I)Z" } : Jvm.MethodName) ({ cls := "PollBooksModel", name := "reach", desc := "(I)Z" } : Jvm.MethodName)) ∈ lw_ok := in_t9 (List.mem_of_getElem? (i := 197) (by rfl)) rfl
theorem lk_2119 : (Jvm.Cond.methodLink "PollBooksLaw" (142 : Nat) ({ cls := "PollBooksModel", name := "who", desc := "(I)I" } : Jvm.MethodName)) ∈ lw_ok := in_t9 (List.mem_of_getElem? (i := 199) (by rfl)) rfl
theorem lk_2120 : (Jvm.Cond.instanceMethod ({ cls := "PollBooksModel", name := "who", desc := "(I)I" } : Jvm.MethodName)) ∈ lw_ok := in_t9 (List.mem_of_getElem? (i := 200) (by rfl)) rfl
theorem lk_2121 : (Jvm.Cond.selects "PollBooksModel" ({ cls := "PollBooksModel", name := "who", desc := "(I)I" } : Jvm.MethodName) ({ cls := "PollBooksModel", name := "who", desc := "(I)I" } : Jvm.MethodName)) ∈ lw_ok := in_t9 (List.mem_of_getElem? (i := 201) (by rfl)) rfl
theorem lk_2128 : (Jvm.Cond.methodLink "PollBooksLaw" (146 : Nat) ({ cls := "PollBooksModel", name := "sure", desc := "(II)I" } : Jvm.MethodName)) ∈ lw_ok := in_t9 (List.mem_of_getElem? (i := 208) (by rfl)) rfl
theorem lk_2129 : (Jvm.Cond.instanceMethod ({ cls := "PollBooksModel", name := "sure", desc := "(II)I" } : Jvm.MethodName)) ∈ lw_ok := in_t9 (List.mem_of_getElem? (i := 209) (by rfl)) rfl
theorem lk_2130 : (Jvm.Cond.selects "PollBooksModel" ({ cls := "PollBooksModel", name := "sure", desc := "(II)I" } : Jvm.MethodName) ({ cls := "PollBooksModel", name := "sure", desc := "(II)I" } : Jvm.MethodName)) ∈ lw_ok := in_t9 (List.mem_of_getElem? (i := 210) (by rfl)) rfl
theorem lk_2136 : (Jvm.Cond.methodLink "PollBooksLaw" (150 : Nat) ({ cls := "PollBooksModel", name := "offer", desc := "(III)I" } : Jvm.MethodName)) ∈ lw_ok := in_t9 (List.mem_of_getElem? (i := 216) (by rfl)) rfl
theorem lk_2137 : (Jvm.Cond.instanceMethod ({ cls := "PollBooksModel", name := "offer", desc := "(III)I" } : Jvm.MethodName)) ∈ lw_ok := in_t9 (List.mem_of_getElem? (i := 217) (by rfl)) rfl
theorem lk_2138 : (Jvm.Cond.selects "PollBooksModel" ({ cls := "PollBooksModel", name := "offer", desc := "(III)I" } : Jvm.MethodName) ({ cls := "PollBooksModel", name := "offer", desc := "(III)I" } : Jvm.MethodName)) ∈ lw_ok := in_t9 (List.mem_of_getElem? (i := 218) (by rfl)) rfl
theorem lk_2140 : (Jvm.Cond.methodLink "PollBooksLaw" (154 : Nat) ({ cls := "PollBooksModel", name := "standing", desc := "(III)I" } : Jvm.MethodName)) ∈ lw_ok := in_t9 (List.mem_of_getElem? (i := 220) (by rfl)) rfl
theorem lk_2141 : (Jvm.Cond.instanceMethod ({ cls := "PollBooksModel", name := "standing", desc := "(III)I" } : Jvm.MethodName)) ∈ lw_ok := in_t9 (List.mem_of_getElem? (i := 221) (by rfl)) rfl
theorem lk_2142 : (Jvm.Cond.selects "PollBooksModel" ({ cls := "PollBooksModel", name := "standing", desc := "(III)I" } : Jvm.MethodName) ({ cls := "PollBooksModel", name := "standing", desc := "(III)I" } : Jvm.MethodName)) ∈ lw_ok := in_t9 (List.mem_of_getElem? (i := 222) (by rfl)) rfl
theorem lk_2155 : (Jvm.Cond.methodLink "PollBooksLaw" (158 : Nat) ({ cls := "PollBooksModel", name := "stands", desc := "(III)I" } : Jvm.MethodName)) ∈ lw_ok := in_t9 (List.mem_of_getElem? (i := 235) (by rfl)) rfl
theorem lk_2156 : (Jvm.Cond.instanceMethod ({ cls := "PollBooksModel", name := "stands", desc := "(III)I" } : Jvm.MethodName)) ∈ lw_ok := in_t9 (List.mem_of_getElem? (i := 236) (by rfl)) rfl
theorem lk_2157 : (Jvm.Cond.selects "PollBooksModel" ({ cls := "PollBooksModel", name := "stands", desc := "(III)I" } : Jvm.MethodName) ({ cls := "PollBooksModel", name := "stands", desc := "(III)I" } : Jvm.MethodName)) ∈ lw_ok := in_t9 (List.mem_of_getElem? (i := 237) (by rfl)) rfl
theorem lk_2163 : (Jvm.Cond.methodLink "PollBooksLaw" (163 : Nat) ({ cls := "PollBooksModel", name := "poll", desc := "(IIIZ)I" } : Jvm.MethodName)) ∈ lw_ok := in_t10 (List.mem_of_getElem? (i := 3) (by rfl)) rfl
theorem lk_2164 : (Jvm.Cond.instanceMethod ({ cls := "PollBooksModel", name := "poll", desc := "(IIIZ)I" } : Jvm.MethodName)) ∈ lw_ok := in_t10 (List.mem_of_getElem? (i := 4) (by rfl)) rfl
theorem lk_2165 : (Jvm.Cond.selects "PollBooksModel" ({ cls := "PollBooksModel", name := "poll", desc := "(IIIZ)I" } : Jvm.MethodName) ({ cls := "PollBooksModel", name := "poll", desc := "(IIIZ)I" } : Jvm.MethodName)) ∈ lw_ok := in_t10 (List.mem_of_getElem? (i := 5) (by rfl)) rfl
theorem lk_2171 : (Jvm.Cond.methodLink "PollBooksLaw" (167 : Nat) ({ cls := "PollBooksModel", name := "seated", desc := "(IIIZ)I" } : Jvm.MethodName)) ∈ lw_ok := in_t10 (List.mem_of_getElem? (i := 11) (by rfl)) rfl
theorem lk_2172 : (Jvm.Cond.instanceMethod ({ cls := "PollBooksModel", name := "seated", desc := "(IIIZ)I" } : Jvm.MethodName)) ∈ lw_ok := in_t10 (List.mem_of_getElem? (i := 12) (by rfl)) rfl
theorem lk_2173 : (Jvm.Cond.selects "PollBooksModel" ({ cls := "PollBooksModel", name := "seated", desc := "(IIIZ)I" } : Jvm.MethodName) ({ cls := "PollBooksModel", name := "seated", desc := "(IIIZ)I" } : Jvm.MethodName)) ∈ lw_ok := in_t10 (List.mem_of_getElem? (i := 13) (by rfl)) rfl
theorem lk_2179 : (Jvm.Cond.methodLink "PollBooksLaw" (172 : Nat) ({ cls := "PollBooksModel", name := "ground", desc := "(ZI)I" } : Jvm.MethodName)) ∈ lw_ok := in_t10 (List.mem_of_getElem? (i := 19) (by rfl)) rfl
theorem lk_2180 : (Jvm.Cond.instanceMethod ({ cls := "PollBooksModel", name := "ground", desc := "(ZI)I" } : Jvm.MethodName)) ∈ lw_ok := in_t10 (List.mem_of_getElem? (i := 20) (by rfl)) rfl
theorem lk_2181 : (Jvm.Cond.selects "PollBooksModel" ({ cls := "PollBooksModel", name := "ground", desc := "(ZI)I" } : Jvm.MethodName) ({ cls := "PollBooksModel", name := "ground", desc := "(ZI)I" } : Jvm.MethodName)) ∈ lw_ok := in_t10 (List.mem_of_getElem? (i := 21) (by rfl)) rfl
theorem lk_2183 : (Jvm.Cond.methodLink "PollBooksLaw" (177 : Nat) ({ cls := "PollBooksModel", name := "against", desc := "(II)Z" } : Jvm.MethodName)) ∈ lw_ok := in_t10 (List.mem_of_getElem? (i := 23) (by rfl)) rfl
theorem lk_2184 : (Jvm.Cond.instanceMethod ({ cls := "PollBooksModel", name := "against", desc := "(II)Z" } : Jvm.MethodName)) ∈ lw_ok := in_t10 (List.mem_of_getElem? (i := 24) (by rfl)) rfl
theorem lk_2185 : (Jvm.Cond.selects "PollBooksModel" ({ cls := "PollBooksModel", name := "against", desc := "(II)Z" } : Jvm.MethodName) ({ cls := "PollBooksModel", name := "against", desc := "(II)Z" } : Jvm.MethodName)) ∈ lw_ok := in_t10 (List.mem_of_getElem? (i := 25) (by rfl)) rfl
theorem lk_2187 : (Jvm.Cond.methodLink "PollBooksLaw" (181 : Nat) ({ cls := "PollBooksModel", name := "written", desc := "(II)I" } : Jvm.MethodName)) ∈ lw_ok := in_t10 (List.mem_of_getElem? (i := 27) (by rfl)) rfl
theorem lk_2188 : (Jvm.Cond.instanceMethod ({ cls := "PollBooksModel", name := "written", desc := "(II)I" } : Jvm.MethodName)) ∈ lw_ok := in_t10 (List.mem_of_getElem? (i := 28) (by rfl)) rfl
theorem lk_2189 : (Jvm.Cond.selects "PollBooksModel" ({ cls := "PollBooksModel", name := "written", desc := "(II)I" } : Jvm.MethodName) ({ cls := "PollBooksModel", name := "written", desc := "(II)I" } : Jvm.MethodName)) ∈ lw_ok := in_t10 (List.mem_of_getElem? (i := 29) (by rfl)) rfl
theorem lk_2199 : (Jvm.Cond.methodLink "PollBooksLaw" (185 : Nat) ({ cls := "PollBooksModel", name := "turns", desc := "(II)I" } : Jvm.MethodName)) ∈ lw_ok := in_t10 (List.mem_of_getElem? (i := 39) (by rfl)) rfl
theorem lk_2200 : (Jvm.Cond.instanceMethod ({ cls := "PollBooksModel", name := "turns", desc := "(II)I" } : Jvm.MethodName)) ∈ lw_ok := in_t10 (List.mem_of_getElem? (i := 40) (by rfl)) rfl
theorem lk_2201 : (Jvm.Cond.selects "PollBooksModel" ({ cls := "PollBooksModel", name := "turns", desc := "(II)I" } : Jvm.MethodName) ({ cls := "PollBooksModel", name := "turns", desc := "(II)I" } : Jvm.MethodName)) ∈ lw_ok := in_t10 (List.mem_of_getElem? (i := 41) (by rfl)) rfl
theorem lk_2207 : (Jvm.Cond.methodLink "PollBooksLaw" (189 : Nat) ({ cls := "PollBooksModel", name := "member", desc := "(II)I" } : Jvm.MethodName)) ∈ lw_ok := in_t10 (List.mem_of_getElem? (i := 47) (by rfl)) rfl
theorem lk_2208 : (Jvm.Cond.instanceMethod ({ cls := "PollBooksModel", name := "member", desc := "(II)I" } : Jvm.MethodName)) ∈ lw_ok := in_t10 (List.mem_of_getElem? (i := 48) (by rfl)) rfl
theorem lk_2209 : (Jvm.Cond.selects "PollBooksModel" ({ cls := "PollBooksModel", name := "member", desc := "(II)I" } : Jvm.MethodName) ({ cls := "PollBooksModel", name := "member", desc := "(II)I" } : Jvm.MethodName)) ∈ lw_ok := in_t10 (List.mem_of_getElem? (i := 49) (by rfl)) rfl
theorem lk_2214 : (Jvm.Cond.methodLink "PollBooksLaw" (193 : Nat) ({ cls := "PollBooksModel", name := "kin", desc := "(II)Z" } : Jvm.MethodName)) ∈ lw_ok := in_t10 (List.mem_of_getElem? (i := 54) (by rfl)) rfl
theorem lk_2215 : (Jvm.Cond.instanceMethod ({ cls := "PollBooksModel", name := "kin", desc := "(II)Z" } : Jvm.MethodName)) ∈ lw_ok := in_t10 (List.mem_of_getElem? (i := 55) (by rfl)) rfl
theorem lk_2216 : (Jvm.Cond.selects "PollBooksModel" ({ cls := "PollBooksModel", name := "kin", desc := "(II)Z" } : Jvm.MethodName) ({ cls := "PollBooksModel", name := "kin", desc := "(II)Z" } : Jvm.MethodName)) ∈ lw_ok := in_t10 (List.mem_of_getElem? (i := 56) (by rfl)) rfl
theorem lk_2218 : (Jvm.Cond.methodLink "PollBooksLaw" (197 : Nat) ({ cls := "PollBooksModel", name := "draw", desc := "(III)I" } : Jvm.MethodName)) ∈ lw_ok := in_t10 (List.mem_of_getElem? (i := 58) (by rfl)) rfl
theorem lk_2219 : (Jvm.Cond.instanceMethod ({ cls := "PollBooksModel", name := "draw", desc := "(III)I" } : Jvm.MethodName)) ∈ lw_ok := in_t10 (List.mem_of_getElem? (i := 59) (by rfl)) rfl
theorem lk_2220 : (Jvm.Cond.selects "PollBooksModel" ({ cls := "PollBooksModel", name := "draw", desc := "(III)I" } : Jvm.MethodName) ({ cls := "PollBooksModel", name := "draw", desc := "(III)I" } : Jvm.MethodName)) ∈ lw_ok := in_t10 (List.mem_of_getElem? (i := 60) (by rfl)) rfl
theorem lk_2226 : (Jvm.Cond.methodLink "PollBooksLaw" (201 : Nat) ({ cls := "PollBooksModel", name := "bench", desc := "(I)I" } : Jvm.MethodName)) ∈ lw_ok := in_t10 (List.mem_of_getElem? (i := 66) (by rfl)) rfl
theorem lk_2227 : (Jvm.Cond.instanceMethod ({ cls := "PollBooksModel", name := "bench", desc := "(I)I" } : Jvm.MethodName)) ∈ lw_ok := in_t10 (List.mem_of_getElem? (i := 67) (by rfl)) rfl
theorem lk_2228 : (Jvm.Cond.selects "PollBooksModel" ({ cls := "PollBooksModel", name := "bench", desc := "(I)I" } : Jvm.MethodName) ({ cls := "PollBooksModel", name := "bench", desc := "(I)I" } : Jvm.MethodName)) ∈ lw_ok := in_t10 (List.mem_of_getElem? (i := 68) (by rfl)) rfl
theorem lk_2230 : (Jvm.Cond.methodLink "PollBooksLaw" (205 : Nat) ({ cls := "PollBooksModel", name := "miles", desc := "(III)Z" } : Jvm.MethodName)) ∈ lw_ok := in_t10 (List.mem_of_getElem? (i := 70) (by rfl)) rfl
theorem lk_2231 : (Jvm.Cond.instanceMethod ({ cls := "PollBooksModel", name := "miles", desc := "(III)Z" } : Jvm.MethodName)) ∈ lw_ok := in_t10 (List.mem_of_getElem? (i := 71) (by rfl)) rfl
theorem lk_2232 : (Jvm.Cond.selects "PollBooksModel" ({ cls := "PollBooksModel", name := "miles", desc := "(III)Z" } : Jvm.MethodName) ({ cls := "PollBooksModel", name := "miles", desc := "(III)Z" } : Jvm.MethodName)) ∈ lw_ok := in_t10 (List.mem_of_getElem? (i := 72) (by rfl)) rfl
theorem lk_2234 : (Jvm.Cond.methodLink "PollBooksLaw" (209 : Nat) ({ cls := "PollBooksModel", name := "coaches", desc := "(III)I" } : Jvm.MethodName)) ∈ lw_ok := in_t10 (List.mem_of_getElem? (i := 74) (by rfl)) rfl
theorem lk_2235 : (Jvm.Cond.instanceMethod ({ cls := "PollBooksModel", name := "coaches", desc := "(III)I" } : Jvm.MethodName)) ∈ lw_ok := in_t10 (List.mem_of_getElem? (i := 75) (by rfl)) rfl
theorem lk_2236 : (Jvm.Cond.selects "PollBooksModel" ({ cls := "PollBooksModel", name := "coaches", desc := "(III)I" } : Jvm.MethodName) ({ cls := "PollBooksModel", name := "coaches", desc := "(III)I" } : Jvm.MethodName)) ∈ lw_ok := in_t10 (List.mem_of_getElem? (i := 76) (by rfl)) rfl
theorem lk_2247 : (Jvm.Cond.methodLink "PollBooksLaw" (213 : Nat) ({ cls := "PollBooksModel", name := "coachMany", desc := "()I" } : Jvm.MethodName)) ∈ lw_ok := in_t10 (List.mem_of_getElem? (i := 87) (by rfl)) rfl
theorem lk_2248 : (Jvm.Cond.instanceMethod ({ cls := "PollBooksModel", name := "coachMany", desc := "()I" } : Jvm.MethodName)) ∈ lw_ok := in_t10 (List.mem_of_getElem? (i := 88) (by rfl)) rfl
theorem lk_2249 : (Jvm.Cond.selects "PollBooksModel" ({ cls := "PollBooksModel", name := "coachMany", desc := "()I" } : Jvm.MethodName) ({ cls := "PollBooksModel", name := "coachMany", desc := "()I" } : Jvm.MethodName)) ∈ lw_ok := in_t10 (List.mem_of_getElem? (i := 89) (by rfl)) rfl
theorem lk_2251 : (Jvm.Cond.constantLong "PollBooksLaw" (23 : Nat) (4294967295 : Int64)) ∈ lw_ok := in_t10 (List.mem_of_getElem? (i := 91) (by rfl)) rfl
theorem cb_if (x : Int) : cb (if x = 0 then 0 else 1) := by unfold cb; split; exact Or.inl rfl; exact Or.inr rfl
theorem tgN : ∀ v ∈ ([] : List AV), v.1 < 2 := fun _ h => absurd h List.not_mem_nil
theorem tgC {t : Nat} {x : Int} {r : List AV} (h : t < 2) (hr : ∀ v ∈ r, v.1 < 2) : ∀ v ∈ ((t, x) :: r), v.1 < 2 := fun v hv => by
  rcases List.mem_cons.mp hv with rfl | hv
  · exact h
  · exact hr v hv
theorem rm_c : 600000 ≤ room_1.cells := by decide
theorem rm_s : 7302250 ≤ room_1.slots := by decide
theorem ad7 {i L : Nat} (hi : i + 6 < L ∧ L ≤ 3584) (k : Nat) (hk : k < 7) : w32 ((i : Int) + (k : Int)) = ((i + k : Nat) : Int) := by
  rw [w32_id (by unfold c32; omega)]; omega
def Sim_status (Rel : Dt → Dt → Prop) : Prop := ∀ (dA dB : Dt), CN 0 dA → CN 1 dB → Rel dA dB → ∃ (r : Int) (dA' dB' : Dt), L_PB_status dA = some (r, dA') ∧ L_Mo_status dB = some (r, dB') ∧ Rel dA' dB'
def Sim_tray (Rel : Dt → Dt → Prop) : Prop := ∀ (p1 p2 p3 : Int) (dA dB : Dt), c32 p1 → c32 p2 → c32 p3 → CN 0 dA → CN 1 dB → Rel dA dB → ∃ (r : Int) (dA' dB' : Dt), L_PB_tray p1 p2 p3 dA = some (r, dA') ∧ L_Mo_tray p1 p2 p3 dB = some (r, dB') ∧ Rel dA' dB'
def Sim_write (Rel : Dt → Dt → Prop) : Prop := ∀ (p1 p2 p3 : Int) (dA dB : Dt), c32 p1 → c32 p2 → c64 p3 → CN 0 dA → CN 1 dB → Rel dA dB → ∃ (r : Int) (dA' dB' : Dt), L_PB_write p1 p2 p3 dA = some (r, dA') ∧ L_Mo_write p1 p2 p3 dB = some (r, dB') ∧ Rel dA' dB'
def Sim_read (Rel : Dt → Dt → Prop) : Prop := ∀ (p1 p2 : Int) (dA dB : Dt), c32 p1 → c32 p2 → CN 0 dA → CN 1 dB → Rel dA dB → ∃ (r : Int) (dA' dB' : Dt), L_PB_read p1 p2 dA = some (r, dA') ∧ L_Mo_read p1 p2 dB = some (r, dB') ∧ Rel dA' dB'
def Sim_pour (Rel : Dt → Dt → Prop) : Prop := ∀ (p1 p2 p3 p4 p5 : Int) (dA dB : Dt), c32 p1 → c32 p2 → c32 p3 → c32 p4 → c32 p5 → CN 0 dA → CN 1 dB → Rel dA dB → ∃ (r : Int) (dA' dB' : Dt), L_PB_pour p1 p2 p3 p4 p5 dA = some (r, dA') ∧ L_Mo_pour p1 p2 p3 p4 p5 dB = some (r, dB') ∧ Rel dA' dB'
def Sim_far (Rel : Dt → Dt → Prop) : Prop := ∀ (p1 p2 : Int) (dA dB : Dt), c64 p1 → c64 p2 → CN 0 dA → CN 1 dB → Rel dA dB → ∃ (r : Int) (dA' dB' : Dt), L_PB_far p1 p2 dA = some (r, dA') ∧ L_Mo_far p1 p2 dB = some (r, dB') ∧ Rel dA' dB'
def Sim_person (Rel : Dt → Dt → Prop) : Prop := ∀ (p1 p2 p3 : Int) (dA dB : Dt), c64 p1 → c32 p2 → c32 p3 → CN 0 dA → CN 1 dB → Rel dA dB → ∃ (r : Int) (dA' dB' : Dt), L_PB_person p1 p2 p3 dA = some (r, dA') ∧ L_Mo_person p1 p2 p3 dB = some (r, dB') ∧ Rel dA' dB'
def Sim_hold (Rel : Dt → Dt → Prop) : Prop := ∀ (p1 p2 p3 p4 p5 p6 : Int) (dA dB : Dt), c32 p1 → c32 p2 → c32 p3 → c32 p4 → c32 p5 → c32 p6 → CN 0 dA → CN 1 dB → Rel dA dB → ∃ (r : Int) (dA' dB' : Dt), L_PB_hold p1 p2 p3 p4 p5 p6 dA = some (r, dA') ∧ L_Mo_hold p1 p2 p3 p4 p5 p6 dB = some (r, dB') ∧ Rel dA' dB'
def Sim_split (Rel : Dt → Dt → Prop) : Prop := ∀ (p1 p2 p3 : Int) (dA dB : Dt), c32 p1 → c32 p2 → c32 p3 → CN 0 dA → CN 1 dB → Rel dA dB → ∃ (r : Int) (dA' dB' : Dt), L_PB_split p1 p2 p3 dA = some (r, dA') ∧ L_Mo_split p1 p2 p3 dB = some (r, dB') ∧ Rel dA' dB'
def Sim_pay (Rel : Dt → Dt → Prop) : Prop := ∀ (p1 p2 p3 p4 p5 : Int) (dA dB : Dt), c32 p1 → c32 p2 → c32 p3 → cb p4 → c32 p5 → CN 0 dA → CN 1 dB → Rel dA dB → ∃ (r : Int) (dA' dB' : Dt), L_PB_pay p1 p2 p3 p4 p5 dA = some (r, dA') ∧ L_Mo_pay p1 p2 p3 p4 p5 dB = some (r, dB') ∧ Rel dA' dB'
def Sim_asof (Rel : Dt → Dt → Prop) : Prop := ∀ (p1 : Int) (dA dB : Dt), c32 p1 → CN 0 dA → CN 1 dB → Rel dA dB → ∃ (r : Int) (dA' dB' : Dt), L_PB_asof p1 dA = some (r, dA') ∧ L_Mo_asof p1 dB = some (r, dB') ∧ Rel dA' dB'
def Sim_fact (Rel : Dt → Dt → Prop) : Prop := ∀ (p1 p2 p3 p4 : Int) (dA dB : Dt), c32 p1 → c32 p2 → c32 p3 → c32 p4 → CN 0 dA → CN 1 dB → Rel dA dB → ∃ (r : Int) (dA' dB' : Dt), L_PB_fact p1 p2 p3 p4 dA = some (r, dA') ∧ L_Mo_fact p1 p2 p3 p4 dB = some (r, dB') ∧ Rel dA' dB'
def Sim_feed (Rel : Dt → Dt → Prop) : Prop := ∀ (p1 p2 p3 p4 p5 : Int) (dA dB : Dt), c32 p1 → c32 p2 → c32 p3 → c32 p4 → c32 p5 → CN 0 dA → CN 1 dB → Rel dA dB → ∃ (r : Int) (dA' dB' : Dt), L_PB_feed p1 p2 p3 p4 p5 dA = some (r, dA') ∧ L_Mo_feed p1 p2 p3 p4 p5 dB = some (r, dB') ∧ Rel dA' dB'
def Sim_text (Rel : Dt → Dt → Prop) : Prop := ∀ (p1 p2 p3 : Int) (dA dB : Dt), c32 p1 → c32 p2 → c32 p3 → CN 0 dA → CN 1 dB → Rel dA dB → ∃ (r : Int) (dA' dB' : Dt), L_PB_text p1 p2 p3 dA = some (r, dA') ∧ L_Mo_text p1 p2 p3 dB = some (r, dB') ∧ Rel dA' dB'
def Sim_fault (Rel : Dt → Dt → Prop) : Prop := ∀ (p1 : Int) (dA dB : Dt), c32 p1 → CN 0 dA → CN 1 dB → Rel dA dB → ∃ (r : Int) (dA' dB' : Dt), L_PB_fault p1 dA = some (r, dA') ∧ L_Mo_fault p1 dB = some (r, dB') ∧ Rel dA' dB'
def Sim_rules (Rel : Dt → Dt → Prop) : Prop := ∀ (p1 p2 : Int) (dA dB : Dt), c32 p1 → c32 p2 → CN 0 dA → CN 1 dB → Rel dA dB → ∃ (r : Int) (dA' dB' : Dt), L_PB_rules p1 p2 dA = some (r, dA') ∧ L_Mo_rules p1 p2 dB = some (r, dB') ∧ Rel dA' dB'
def Sim_struck (Rel : Dt → Dt → Prop) : Prop := ∀ (p1 p2 p3 : Int) (dA dB : Dt), c32 p1 → c32 p2 → c32 p3 → CN 0 dA → CN 1 dB → Rel dA dB → ∃ (r : Int) (dA' dB' : Dt), L_PB_struck p1 p2 p3 dA = some (r, dA') ∧ L_Mo_struck p1 p2 p3 dB = some (r, dB') ∧ Rel dA' dB'
def Sim_right (Rel : Dt → Dt → Prop) : Prop := ∀ (p1 p2 p3 p4 : Int) (dA dB : Dt), c32 p1 → c32 p2 → c32 p3 → c32 p4 → CN 0 dA → CN 1 dB → Rel dA dB → ∃ (r : Int) (dA' dB' : Dt), L_PB_right p1 p2 p3 p4 dA = some (r, dA') ∧ L_Mo_right p1 p2 p3 p4 dB = some (r, dB') ∧ Rel dA' dB'
def Sim_why (Rel : Dt → Dt → Prop) : Prop := ∀ (p1 p2 p3 p4 : Int) (dA dB : Dt), c32 p1 → c32 p2 → c32 p3 → c32 p4 → CN 0 dA → CN 1 dB → Rel dA dB → ∃ (r : Int) (dA' dB' : Dt), L_PB_why p1 p2 p3 p4 dA = some (r, dA') ∧ L_Mo_why p1 p2 p3 p4 dB = some (r, dB') ∧ Rel dA' dB'
def Sim_voided (Rel : Dt → Dt → Prop) : Prop := ∀ (p1 p2 p3 p4 : Int) (dA dB : Dt), c32 p1 → c32 p2 → c32 p3 → c32 p4 → CN 0 dA → CN 1 dB → Rel dA dB → ∃ (r : Int) (dA' dB' : Dt), L_PB_voided p1 p2 p3 p4 dA = some (r, dA') ∧ L_Mo_voided p1 p2 p3 p4 dB = some (r, dB') ∧ Rel dA' dB'
def Sim_names (Rel : Dt → Dt → Prop) : Prop := ∀ (p1 p2 : Int) (dA dB : Dt), c32 p1 → c32 p2 → CN 0 dA → CN 1 dB → Rel dA dB → ∃ (r : Int) (dA' dB' : Dt), L_PB_names p1 p2 dA = some (r, dA') ∧ L_Mo_names p1 p2 dB = some (r, dB') ∧ Rel dA' dB'
def Sim_entry (Rel : Dt → Dt → Prop) : Prop := ∀ (p1 p2 p3 p4 p5 : Int) (dA dB : Dt), c32 p1 → c64 p2 → c32 p3 → c32 p4 → c32 p5 → CN 0 dA → CN 1 dB → Rel dA dB → ∃ (r : Int) (dA' dB' : Dt), L_PB_entry p1 p2 p3 p4 p5 dA = some (r, dA') ∧ L_Mo_entry p1 p2 p3 p4 p5 dB = some (r, dB') ∧ Rel dA' dB'
def Sim_join (Rel : Dt → Dt → Prop) : Prop := ∀ (p1 : Int) (dA dB : Dt), c32 p1 → CN 0 dA → CN 1 dB → Rel dA dB → ∃ (r : Int) (dA' dB' : Dt), L_PB_join p1 dA = some (r, dA') ∧ L_Mo_join p1 dB = some (r, dB') ∧ Rel dA' dB'
def Sim_mate (Rel : Dt → Dt → Prop) : Prop := ∀ (p1 p2 : Int) (dA dB : Dt), c32 p1 → c32 p2 → CN 0 dA → CN 1 dB → Rel dA dB → ∃ (r : Int) (dA' dB' : Dt), L_PB_mate p1 p2 dA = some (r, dA') ∧ L_Mo_mate p1 p2 dB = some (r, dB') ∧ Rel dA' dB'
def Sim_joined (Rel : Dt → Dt → Prop) : Prop := ∀ (p1 : Int) (dA dB : Dt), c32 p1 → CN 0 dA → CN 1 dB → Rel dA dB → ∃ (r : Int) (dA' dB' : Dt), L_PB_joined p1 dA = some (r, dA') ∧ L_Mo_joined p1 dB = some (r, dB') ∧ Rel dA' dB'
def Sim_tally (Rel : Dt → Dt → Prop) : Prop := ∀ (p1 p2 : Int) (dA dB : Dt), c32 p1 → c32 p2 → CN 0 dA → CN 1 dB → Rel dA dB → ∃ (r : Int) (dA' dB' : Dt), L_PB_tally p1 p2 dA = some (r, dA') ∧ L_Mo_tally p1 p2 dB = some (r, dB') ∧ Rel dA' dB'
def Sim_reach (Rel : Dt → Dt → Prop) : Prop := ∀ (p1 : Int) (dA dB : Dt), c32 p1 → CN 0 dA → CN 1 dB → Rel dA dB → ∃ (r : Int) (dA' dB' : Dt), L_PB_reach p1 dA = some (r, dA') ∧ L_Mo_reach p1 dB = some (r, dB') ∧ Rel dA' dB'
def Sim_who (Rel : Dt → Dt → Prop) : Prop := ∀ (p1 : Int) (dA dB : Dt), c32 p1 → CN 0 dA → CN 1 dB → Rel dA dB → ∃ (r : Int) (dA' dB' : Dt), L_PB_who p1 dA = some (r, dA') ∧ L_Mo_who p1 dB = some (r, dB') ∧ Rel dA' dB'
def Sim_sure (Rel : Dt → Dt → Prop) : Prop := ∀ (p1 p2 : Int) (dA dB : Dt), c32 p1 → c32 p2 → CN 0 dA → CN 1 dB → Rel dA dB → ∃ (r : Int) (dA' dB' : Dt), L_PB_sure p1 p2 dA = some (r, dA') ∧ L_Mo_sure p1 p2 dB = some (r, dB') ∧ Rel dA' dB'
def Sim_offer (Rel : Dt → Dt → Prop) : Prop := ∀ (p1 p2 p3 : Int) (dA dB : Dt), c32 p1 → c32 p2 → c32 p3 → CN 0 dA → CN 1 dB → Rel dA dB → ∃ (r : Int) (dA' dB' : Dt), L_PB_offer p1 p2 p3 dA = some (r, dA') ∧ L_Mo_offer p1 p2 p3 dB = some (r, dB') ∧ Rel dA' dB'
def Sim_standing (Rel : Dt → Dt → Prop) : Prop := ∀ (p1 p2 p3 : Int) (dA dB : Dt), c32 p1 → c32 p2 → c32 p3 → CN 0 dA → CN 1 dB → Rel dA dB → ∃ (r : Int) (dA' dB' : Dt), L_PB_standing p1 p2 p3 dA = some (r, dA') ∧ L_Mo_standing p1 p2 p3 dB = some (r, dB') ∧ Rel dA' dB'
def Sim_stands (Rel : Dt → Dt → Prop) : Prop := ∀ (p1 p2 p3 : Int) (dA dB : Dt), c32 p1 → c32 p2 → c32 p3 → CN 0 dA → CN 1 dB → Rel dA dB → ∃ (r : Int) (dA' dB' : Dt), L_PB_stands p1 p2 p3 dA = some (r, dA') ∧ L_Mo_stands p1 p2 p3 dB = some (r, dB') ∧ Rel dA' dB'
def Sim_poll (Rel : Dt → Dt → Prop) : Prop := ∀ (p1 p2 p3 p4 : Int) (dA dB : Dt), c32 p1 → c32 p2 → c32 p3 → cb p4 → CN 0 dA → CN 1 dB → Rel dA dB → ∃ (r : Int) (dA' dB' : Dt), L_PB_poll p1 p2 p3 p4 dA = some (r, dA') ∧ L_Mo_poll p1 p2 p3 p4 dB = some (r, dB') ∧ Rel dA' dB'
def Sim_seated (Rel : Dt → Dt → Prop) : Prop := ∀ (p1 p2 p3 p4 : Int) (dA dB : Dt), c32 p1 → c32 p2 → c32 p3 → cb p4 → CN 0 dA → CN 1 dB → Rel dA dB → ∃ (r : Int) (dA' dB' : Dt), L_PB_seated p1 p2 p3 p4 dA = some (r, dA') ∧ L_Mo_seated p1 p2 p3 p4 dB = some (r, dB') ∧ Rel dA' dB'
def Sim_ground (Rel : Dt → Dt → Prop) : Prop := ∀ (p1 p2 : Int) (dA dB : Dt), cb p1 → c32 p2 → CN 0 dA → CN 1 dB → Rel dA dB → ∃ (r : Int) (dA' dB' : Dt), L_PB_ground p1 p2 dA = some (r, dA') ∧ L_Mo_ground p1 p2 dB = some (r, dB') ∧ Rel dA' dB'
def Sim_against (Rel : Dt → Dt → Prop) : Prop := ∀ (p1 p2 : Int) (dA dB : Dt), c32 p1 → c32 p2 → CN 0 dA → CN 1 dB → Rel dA dB → ∃ (r : Int) (dA' dB' : Dt), L_PB_against p1 p2 dA = some (r, dA') ∧ L_Mo_against p1 p2 dB = some (r, dB') ∧ Rel dA' dB'
def Sim_written (Rel : Dt → Dt → Prop) : Prop := ∀ (p1 p2 : Int) (dA dB : Dt), c32 p1 → c32 p2 → CN 0 dA → CN 1 dB → Rel dA dB → ∃ (r : Int) (dA' dB' : Dt), L_PB_written p1 p2 dA = some (r, dA') ∧ L_Mo_written p1 p2 dB = some (r, dB') ∧ Rel dA' dB'
def Sim_turns (Rel : Dt → Dt → Prop) : Prop := ∀ (p1 p2 : Int) (dA dB : Dt), c32 p1 → c32 p2 → CN 0 dA → CN 1 dB → Rel dA dB → ∃ (r : Int) (dA' dB' : Dt), L_PB_turns p1 p2 dA = some (r, dA') ∧ L_Mo_turns p1 p2 dB = some (r, dB') ∧ Rel dA' dB'
def Sim_member (Rel : Dt → Dt → Prop) : Prop := ∀ (p1 p2 : Int) (dA dB : Dt), c32 p1 → c32 p2 → CN 0 dA → CN 1 dB → Rel dA dB → ∃ (r : Int) (dA' dB' : Dt), L_PB_member p1 p2 dA = some (r, dA') ∧ L_Mo_member p1 p2 dB = some (r, dB') ∧ Rel dA' dB'
def Sim_kin (Rel : Dt → Dt → Prop) : Prop := ∀ (p1 p2 : Int) (dA dB : Dt), c32 p1 → c32 p2 → CN 0 dA → CN 1 dB → Rel dA dB → ∃ (r : Int) (dA' dB' : Dt), L_PB_kin p1 p2 dA = some (r, dA') ∧ L_Mo_kin p1 p2 dB = some (r, dB') ∧ Rel dA' dB'
def Sim_draw (Rel : Dt → Dt → Prop) : Prop := ∀ (p1 p2 p3 : Int) (dA dB : Dt), c32 p1 → c32 p2 → c32 p3 → CN 0 dA → CN 1 dB → Rel dA dB → ∃ (r : Int) (dA' dB' : Dt), L_PB_draw p1 p2 p3 dA = some (r, dA') ∧ L_Mo_draw p1 p2 p3 dB = some (r, dB') ∧ Rel dA' dB'
def Sim_bench (Rel : Dt → Dt → Prop) : Prop := ∀ (p1 : Int) (dA dB : Dt), c32 p1 → CN 0 dA → CN 1 dB → Rel dA dB → ∃ (r : Int) (dA' dB' : Dt), L_PB_bench p1 dA = some (r, dA') ∧ L_Mo_bench p1 dB = some (r, dB') ∧ Rel dA' dB'
def Sim_miles (Rel : Dt → Dt → Prop) : Prop := ∀ (p1 p2 p3 : Int) (dA dB : Dt), c32 p1 → c32 p2 → c32 p3 → CN 0 dA → CN 1 dB → Rel dA dB → ∃ (r : Int) (dA' dB' : Dt), L_PB_miles p1 p2 p3 dA = some (r, dA') ∧ L_Mo_miles p1 p2 p3 dB = some (r, dB') ∧ Rel dA' dB'
def Sim_coaches (Rel : Dt → Dt → Prop) : Prop := ∀ (p1 p2 p3 : Int) (dA dB : Dt), c32 p1 → c32 p2 → c32 p3 → CN 0 dA → CN 1 dB → Rel dA dB → ∃ (r : Int) (dA' dB' : Dt), L_PB_coaches p1 p2 p3 dA = some (r, dA') ∧ L_Mo_coaches p1 p2 p3 dB = some (r, dB') ∧ Rel dA' dB'
def Sim_coachMany (Rel : Dt → Dt → Prop) : Prop := ∀ (dA dB : Dt), CN 0 dA → CN 1 dB → Rel dA dB → ∃ (r : Int) (dA' dB' : Dt), L_PB_coachMany dA = some (r, dA') ∧ L_Mo_coachMany dB = some (r, dB') ∧ Rel dA' dB'
section CASES
variable {p : Program} {l : Launch} {e : Env} {s : State} {m : MethodId} {below : List Frame} {meth : Method} {c : Code} {b L : Nat} {xs : Nat → Int32} {D : va_G} {cA : Nat → ClassId} {st0 : Nat → Nat} {cells slots : Nat}
variable {pc i : Nat} {st : List AV} {dA dB : Dt}
theorem l_bool (C : LC p s m meth c b L xs D cA st0) {x off off2 : Int} {tgt tgt2 : Nat} (hx : c32 x) (hd : decode code pc = .ok (.ifCond .eq off, 3)) (hd1 : decode code (pc + 3) = .ok (.iconst 1, 1)) (hd2 : decode code (pc + 3 + 1) = .ok (.goto off2, 3)) (hd3 : decode code tgt = .ok (.iconst 0, 1)) (ht : (pc : Int) + off = (tgt : Int)) (ht2 : ((pc + 3 + 1 : Nat) : Int) + off2 = (tgt2 : Int)) (ht3 : tgt + 1 = tgt2) (k : GL p l e s m below meth c b D cA st0 cells slots tgt2 i ((0, if x = 0 then 0 else 1) :: st) dA dB) : GL p l e s m below meth c b D cA st0 cells slots pc i ((0, x) :: st) dA dB := by
  subst ht3
  refine l_ifeq C hx hd ht (fun h => ?_) (fun h => ?_)
  · rw [if_pos h] at k
    exact l_iconst C 0 hd3 k
  · rw [if_neg h] at k
    exact l_iconst C 1 hd1 (l_goto C _ hd2 ht2 k)
set_option maxHeartbeats 8000000 in
set_option maxRecDepth 100000 in
theorem case_0 (C : LC p s m meth c b L xs D cA st0) {Rel : Dt → Dt → Prop} (hsim : Sim_status Rel) (hi : i + 6 < L) (hc : cells + 7 ≤ 600000 ∧ slots + 710 ≤ 7302250) (hCA : CN 0 dA) (hCB : CN 1 dB) (hRel : Rel dA dB) (kk : ∀ dA' dB', Rel dA' dB' → GL p l e s m below meth c b D cA st0 (cells + 7) (slots + 710) 2222 i [] dA' dB') : GL p l e s m below meth c b D cA st0 cells slots 228 i [] dA dB := by
  have hL9 := C.2.2.2.2.2.2.2.2.2.2.1
  obtain ⟨r, dA2, dB2, hA2, hB2, hR2⟩ := hsim  dA dB  hCA hCB hRel
  refine l_ld1 C (by decide +kernel) ?_
  refine l_callA C mw_PB_status [] (ok_PB_status  dA  hA2) tgN (tgC (by decide) tgN) (ix := 13) lk_507 lk_508 lk_509 ⟨rfl, rfl, Nat.le_of_ble_eq_true rfl, Nat.le_of_ble_eq_true rfl⟩ rfl (st := []) rfl (show 0 ≤ 8 by decide) ⟨Nat.le_trans (by omega) rm_c, Nat.le_trans (by omega) rm_s⟩ (by decide +kernel) (fun _ => ?_)
  refine l_ld2 C (by decide +kernel) ?_
  refine l_callB C mw_Mo_status [] (ok_Mo_status  dB  hB2) tgN (tgC (by decide) tgN) (ix := 17) lk_1730 lk_1731 lk_1732 ⟨rfl, rfl, Nat.le_of_ble_eq_true rfl, Nat.le_of_ble_eq_true rfl⟩ rfl (st := [(0, r)]) rfl (show (1 + 0) ≤ 8 by decide) ⟨Nat.le_trans (by omega) rm_c, Nat.le_trans (by omega) rm_s⟩ (by decide +kernel) (fun _ => ?_)
  refine l_icmpeq C (off := 1986) (tgt := 2222) (by decide +kernel) (by decide) ?_
  refine l_widen (k := cells + 7) (n := slots + 710) (by omega) (by omega) ?_
  exact kk dA2 dB2 hR2
set_option maxHeartbeats 8000000 in
set_option maxRecDepth 100000 in
theorem case_1 (C : LC p s m meth c b L xs D cA st0) {Rel : Dt → Dt → Prop} (hsim : Sim_tray Rel) (hi : i + 6 < L) (hc : cells + 7 ≤ 600000 ∧ slots + 710 ≤ 7302250) (hCA : CN 0 dA) (hCB : CN 1 dB) (hRel : Rel dA dB) (kk : ∀ dA' dB', Rel dA' dB' → GL p l e s m below meth c b D cA st0 (cells + 7) (slots + 710) 2222 i [] dA' dB') : GL p l e s m below meth c b D cA st0 cells slots 241 i [] dA dB := by
  have hL9 := C.2.2.2.2.2.2.2.2.2.2.1
  obtain ⟨r, dA2, dB2, hA2, hB2, hR2⟩ := hsim (XI xs (i + 1)) (XI xs (i + 2)) (XI xs (i + 3)) dA dB XI_c XI_c XI_c hCA hCB hRel
  refine l_ld1 C (by decide +kernel) ?_
  refine l_ld0 C (by decide +kernel) ?_
  refine l_i3 C (by decide +kernel) ?_
  refine l_iconst C 1 (by decide +kernel) ?_
  refine l_iadd C (z := ((i + 1 : Nat) : Int)) (ad7 ⟨hi, hL9⟩ 1 (by decide)) (by decide +kernel) ?_
  refine l_iald C (i + 1) (by omega) (by decide +kernel) ?_
  refine l_ld0 C (by decide +kernel) ?_
  refine l_i3 C (by decide +kernel) ?_
  refine l_iconst C 2 (by decide +kernel) ?_
  refine l_iadd C (z := ((i + 2 : Nat) : Int)) (ad7 ⟨hi, hL9⟩ 2 (by decide)) (by decide +kernel) ?_
  refine l_iald C (i + 2) (by omega) (by decide +kernel) ?_
  refine l_ld0 C (by decide +kernel) ?_
  refine l_i3 C (by decide +kernel) ?_
  refine l_iconst C 3 (by decide +kernel) ?_
  refine l_iadd C (z := ((i + 3 : Nat) : Int)) (ad7 ⟨hi, hL9⟩ 3 (by decide)) (by decide +kernel) ?_
  refine l_iald C (i + 3) (by omega) (by decide +kernel) ?_
  refine l_callA C mw_PB_tray [(0, XI xs (i + 1)), (0, XI xs (i + 2)), (0, XI xs (i + 3))] (ok_PB_tray (XI xs (i + 1)) (XI xs (i + 2)) (XI xs (i + 3)) dA XI_c XI_c XI_c hA2) (tgC (by decide) (tgC (by decide) (tgC (by decide) tgN))) (tgC (by decide) tgN) (ix := 18) lk_511 lk_512 lk_513 ⟨rfl, rfl, Nat.le_of_ble_eq_true rfl, Nat.le_of_ble_eq_true rfl⟩ rfl (st := []) rfl (show 0 ≤ 8 by decide) ⟨Nat.le_trans (by omega) rm_c, Nat.le_trans (by omega) rm_s⟩ (by decide +kernel) (fun _ => ?_)
  refine l_ld2 C (by decide +kernel) ?_
  refine l_ld0 C (by decide +kernel) ?_
  refine l_i3 C (by decide +kernel) ?_
  refine l_iconst C 1 (by decide +kernel) ?_
  refine l_iadd C (z := ((i + 1 : Nat) : Int)) (ad7 ⟨hi, hL9⟩ 1 (by decide)) (by decide +kernel) ?_
  refine l_iald C (i + 1) (by omega) (by decide +kernel) ?_
  refine l_ld0 C (by decide +kernel) ?_
  refine l_i3 C (by decide +kernel) ?_
  refine l_iconst C 2 (by decide +kernel) ?_
  refine l_iadd C (z := ((i + 2 : Nat) : Int)) (ad7 ⟨hi, hL9⟩ 2 (by decide)) (by decide +kernel) ?_
  refine l_iald C (i + 2) (by omega) (by decide +kernel) ?_
  refine l_ld0 C (by decide +kernel) ?_
  refine l_i3 C (by decide +kernel) ?_
  refine l_iconst C 3 (by decide +kernel) ?_
  refine l_iadd C (z := ((i + 3 : Nat) : Int)) (ad7 ⟨hi, hL9⟩ 3 (by decide)) (by decide +kernel) ?_
  refine l_iald C (i + 3) (by omega) (by decide +kernel) ?_
  refine l_callB C mw_Mo_tray [(0, XI xs (i + 1)), (0, XI xs (i + 2)), (0, XI xs (i + 3))] (ok_Mo_tray (XI xs (i + 1)) (XI xs (i + 2)) (XI xs (i + 3)) dB XI_c XI_c XI_c hB2) (tgC (by decide) (tgC (by decide) (tgC (by decide) tgN))) (tgC (by decide) tgN) (ix := 22) lk_1734 lk_1735 lk_1736 ⟨rfl, rfl, Nat.le_of_ble_eq_true rfl, Nat.le_of_ble_eq_true rfl⟩ rfl (st := [(0, r)]) rfl (show (1 + 0) ≤ 8 by decide) ⟨Nat.le_trans (by omega) rm_c, Nat.le_trans (by omega) rm_s⟩ (by decide +kernel) (fun _ => ?_)
  refine l_icmpeq C (off := 1943) (tgt := 2222) (by decide +kernel) (by decide) ?_
  refine l_widen (k := cells + 7) (n := slots + 710) (by omega) (by omega) ?_
  exact kk dA2 dB2 hR2
set_option maxHeartbeats 8000000 in
set_option maxRecDepth 100000 in
theorem case_2 (C : LC p s m meth c b L xs D cA st0) {Rel : Dt → Dt → Prop} (hsim : Sim_write Rel) (hi : i + 6 < L) (hc : cells + 7 ≤ 600000 ∧ slots + 710 ≤ 7302250) (hCA : CN 0 dA) (hCB : CN 1 dB) (hRel : Rel dA dB) (kk : ∀ dA' dB', Rel dA' dB' → GL p l e s m below meth c b D cA st0 (cells + 7) (slots + 710) 2222 i [] dA' dB') : GL p l e s m below meth c b D cA st0 cells slots 284 i [] dA dB := by
  have hL9 := C.2.2.2.2.2.2.2.2.2.2.1
  obtain ⟨r, dA2, dB2, hA2, hB2, hR2⟩ := hsim (XI xs (i + 1)) (XI xs (i + 2)) (lor (lshl (XI xs (i + 3)) 32) (land (XI xs (i + 4)) (4294967295))) dA dB XI_c XI_c (l_c _) hCA hCB hRel
  refine l_ld1 C (by decide +kernel) ?_
  refine l_ld0 C (by decide +kernel) ?_
  refine l_i3 C (by decide +kernel) ?_
  refine l_iconst C 1 (by decide +kernel) ?_
  refine l_iadd C (z := ((i + 1 : Nat) : Int)) (ad7 ⟨hi, hL9⟩ 1 (by decide)) (by decide +kernel) ?_
  refine l_iald C (i + 1) (by omega) (by decide +kernel) ?_
  refine l_ld0 C (by decide +kernel) ?_
  refine l_i3 C (by decide +kernel) ?_
  refine l_iconst C 2 (by decide +kernel) ?_
  refine l_iadd C (z := ((i + 2 : Nat) : Int)) (ad7 ⟨hi, hL9⟩ 2 (by decide)) (by decide +kernel) ?_
  refine l_iald C (i + 2) (by omega) (by decide +kernel) ?_
  refine l_ld0 C (by decide +kernel) ?_
  refine l_i3 C (by decide +kernel) ?_
  refine l_iconst C 3 (by decide +kernel) ?_
  refine l_iadd C (z := ((i + 3 : Nat) : Int)) (ad7 ⟨hi, hL9⟩ 3 (by decide)) (by decide +kernel) ?_
  refine l_iald C (i + 3) (by omega) (by decide +kernel) ?_
  refine l_i2l C XI_c (by decide +kernel) ?_
  refine l_bipush C 32 (by decide) (by decide +kernel) ?_
  refine l_lshl C (by decide +kernel) ?_
  refine l_ld0 C (by decide +kernel) ?_
  refine l_i3 C (by decide +kernel) ?_
  refine l_iconst C 4 (by decide +kernel) ?_
  refine l_iadd C (z := ((i + 4 : Nat) : Int)) (ad7 ⟨hi, hL9⟩ 4 (by decide)) (by decide +kernel) ?_
  refine l_iald C (i + 4) (by omega) (by decide +kernel) ?_
  refine l_i2l C XI_c (by decide +kernel) ?_
  refine l_ldc2 C (ix := 23) (v := 4294967295) lk_2251 (by decide +kernel) ?_
  refine l_land C (by decide +kernel) ?_
  refine l_lor C (by decide +kernel) ?_
  refine l_callA C mw_PB_write [(0, XI xs (i + 1)), (0, XI xs (i + 2)), (1, lor (lshl (XI xs (i + 3)) 32) (land (XI xs (i + 4)) (4294967295)))] (ok_PB_write (XI xs (i + 1)) (XI xs (i + 2)) (lor (lshl (XI xs (i + 3)) 32) (land (XI xs (i + 4)) (4294967295))) dA XI_c XI_c (l_c _) hA2) (tgC (by decide) (tgC (by decide) (tgC (by decide) tgN))) (tgC (by decide) tgN) (ix := 25) lk_534 lk_535 lk_536 ⟨rfl, rfl, Nat.le_of_ble_eq_true rfl, Nat.le_of_ble_eq_true rfl⟩ rfl (st := []) rfl (show 0 ≤ 8 by decide) ⟨Nat.le_trans (by omega) rm_c, Nat.le_trans (by omega) rm_s⟩ (by decide +kernel) (fun _ => ?_)
  refine l_ld2 C (by decide +kernel) ?_
  refine l_ld0 C (by decide +kernel) ?_
  refine l_i3 C (by decide +kernel) ?_
  refine l_iconst C 1 (by decide +kernel) ?_
  refine l_iadd C (z := ((i + 1 : Nat) : Int)) (ad7 ⟨hi, hL9⟩ 1 (by decide)) (by decide +kernel) ?_
  refine l_iald C (i + 1) (by omega) (by decide +kernel) ?_
  refine l_ld0 C (by decide +kernel) ?_
  refine l_i3 C (by decide +kernel) ?_
  refine l_iconst C 2 (by decide +kernel) ?_
  refine l_iadd C (z := ((i + 2 : Nat) : Int)) (ad7 ⟨hi, hL9⟩ 2 (by decide)) (by decide +kernel) ?_
  refine l_iald C (i + 2) (by omega) (by decide +kernel) ?_
  refine l_ld0 C (by decide +kernel) ?_
  refine l_i3 C (by decide +kernel) ?_
  refine l_iconst C 3 (by decide +kernel) ?_
  refine l_iadd C (z := ((i + 3 : Nat) : Int)) (ad7 ⟨hi, hL9⟩ 3 (by decide)) (by decide +kernel) ?_
  refine l_iald C (i + 3) (by omega) (by decide +kernel) ?_
  refine l_i2l C XI_c (by decide +kernel) ?_
  refine l_bipush C 32 (by decide) (by decide +kernel) ?_
  refine l_lshl C (by decide +kernel) ?_
  refine l_ld0 C (by decide +kernel) ?_
  refine l_i3 C (by decide +kernel) ?_
  refine l_iconst C 4 (by decide +kernel) ?_
  refine l_iadd C (z := ((i + 4 : Nat) : Int)) (ad7 ⟨hi, hL9⟩ 4 (by decide)) (by decide +kernel) ?_
  refine l_iald C (i + 4) (by omega) (by decide +kernel) ?_
  refine l_i2l C XI_c (by decide +kernel) ?_
  refine l_ldc2 C (ix := 23) (v := 4294967295) lk_2251 (by decide +kernel) ?_
  refine l_land C (by decide +kernel) ?_
  refine l_lor C (by decide +kernel) ?_
  refine l_callB C mw_Mo_write [(0, XI xs (i + 1)), (0, XI xs (i + 2)), (1, lor (lshl (XI xs (i + 3)) 32) (land (XI xs (i + 4)) (4294967295)))] (ok_Mo_write (XI xs (i + 1)) (XI xs (i + 2)) (lor (lshl (XI xs (i + 3)) 32) (land (XI xs (i + 4)) (4294967295))) dB XI_c XI_c (l_c _) hB2) (tgC (by decide) (tgC (by decide) (tgC (by decide) tgN))) (tgC (by decide) tgN) (ix := 29) lk_1745 lk_1746 lk_1747 ⟨rfl, rfl, Nat.le_of_ble_eq_true rfl, Nat.le_of_ble_eq_true rfl⟩ rfl (st := [(0, r)]) rfl (show (1 + 0) ≤ 8 by decide) ⟨Nat.le_trans (by omega) rm_c, Nat.le_trans (by omega) rm_s⟩ (by decide +kernel) (fun _ => ?_)
  refine l_icmpeq C (off := 1870) (tgt := 2222) (by decide +kernel) (by decide) ?_
  refine l_widen (k := cells + 7) (n := slots + 710) (by omega) (by omega) ?_
  exact kk dA2 dB2 hR2
set_option maxHeartbeats 8000000 in
set_option maxRecDepth 100000 in
theorem case_3 (C : LC p s m meth c b L xs D cA st0) {Rel : Dt → Dt → Prop} (hsim : Sim_read Rel) (hi : i + 6 < L) (hc : cells + 7 ≤ 600000 ∧ slots + 710 ≤ 7302250) (hCA : CN 0 dA) (hCB : CN 1 dB) (hRel : Rel dA dB) (kk : ∀ dA' dB', Rel dA' dB' → GL p l e s m below meth c b D cA st0 (cells + 7) (slots + 710) 2222 i [] dA' dB') : GL p l e s m below meth c b D cA st0 cells slots 357 i [] dA dB := by
  have hL9 := C.2.2.2.2.2.2.2.2.2.2.1
  obtain ⟨r, dA2, dB2, hA2, hB2, hR2⟩ := hsim (XI xs (i + 1)) (XI xs (i + 2)) dA dB XI_c XI_c hCA hCB hRel
  refine l_ld1 C (by decide +kernel) ?_
  refine l_ld0 C (by decide +kernel) ?_
  refine l_i3 C (by decide +kernel) ?_
  refine l_iconst C 1 (by decide +kernel) ?_
  refine l_iadd C (z := ((i + 1 : Nat) : Int)) (ad7 ⟨hi, hL9⟩ 1 (by decide)) (by decide +kernel) ?_
  refine l_iald C (i + 1) (by omega) (by decide +kernel) ?_
  refine l_ld0 C (by decide +kernel) ?_
  refine l_i3 C (by decide +kernel) ?_
  refine l_iconst C 2 (by decide +kernel) ?_
  refine l_iadd C (z := ((i + 2 : Nat) : Int)) (ad7 ⟨hi, hL9⟩ 2 (by decide)) (by decide +kernel) ?_
  refine l_iald C (i + 2) (by omega) (by decide +kernel) ?_
  refine l_callA C mw_PB_read [(0, XI xs (i + 1)), (0, XI xs (i + 2))] (ok_PB_read (XI xs (i + 1)) (XI xs (i + 2)) dA XI_c XI_c hA2) (tgC (by decide) (tgC (by decide) tgN)) (tgC (by decide) tgN) (ix := 30) lk_557 lk_558 lk_559 ⟨rfl, rfl, Nat.le_of_ble_eq_true rfl, Nat.le_of_ble_eq_true rfl⟩ rfl (st := []) rfl (show 0 ≤ 8 by decide) ⟨Nat.le_trans (by omega) rm_c, Nat.le_trans (by omega) rm_s⟩ (by decide +kernel) (fun _ => ?_)
  refine l_ld2 C (by decide +kernel) ?_
  refine l_ld0 C (by decide +kernel) ?_
  refine l_i3 C (by decide +kernel) ?_
  refine l_iconst C 1 (by decide +kernel) ?_
  refine l_iadd C (z := ((i + 1 : Nat) : Int)) (ad7 ⟨hi, hL9⟩ 1 (by decide)) (by decide +kernel) ?_
  refine l_iald C (i + 1) (by omega) (by decide +kernel) ?_
  refine l_ld0 C (by decide +kernel) ?_
  refine l_i3 C (by decide +kernel) ?_
  refine l_iconst C 2 (by decide +kernel) ?_
  refine l_iadd C (z := ((i + 2 : Nat) : Int)) (ad7 ⟨hi, hL9⟩ 2 (by decide)) (by decide +kernel) ?_
  refine l_iald C (i + 2) (by omega) (by decide +kernel) ?_
  refine l_callB C mw_Mo_read [(0, XI xs (i + 1)), (0, XI xs (i + 2))] (ok_Mo_read (XI xs (i + 1)) (XI xs (i + 2)) dB XI_c XI_c hB2) (tgC (by decide) (tgC (by decide) tgN)) (tgC (by decide) tgN) (ix := 34) lk_1756 lk_1757 lk_1758 ⟨rfl, rfl, Nat.le_of_ble_eq_true rfl, Nat.le_of_ble_eq_true rfl⟩ rfl (st := [(1, r)]) rfl (show (2 + 0) ≤ 8 by decide) ⟨Nat.le_trans (by omega) rm_c, Nat.le_trans (by omega) rm_s⟩ (by decide +kernel) (fun _ => ?_)
  refine l_lceq C (off := 1836) (tgt := 2222) (by decide +kernel) (by decide +kernel) (by decide) ?_
  refine l_widen (k := cells + 7) (n := slots + 710) (by omega) (by omega) ?_
  exact kk dA2 dB2 hR2
set_option maxHeartbeats 8000000 in
set_option maxRecDepth 100000 in
theorem case_4 (C : LC p s m meth c b L xs D cA st0) {Rel : Dt → Dt → Prop} (hsim : Sim_pour Rel) (hi : i + 6 < L) (hc : cells + 7 ≤ 600000 ∧ slots + 710 ≤ 7302250) (hCA : CN 0 dA) (hCB : CN 1 dB) (hRel : Rel dA dB) (kk : ∀ dA' dB', Rel dA' dB' → GL p l e s m below meth c b D cA st0 (cells + 7) (slots + 710) 2222 i [] dA' dB') : GL p l e s m below meth c b D cA st0 cells slots 391 i [] dA dB := by
  have hL9 := C.2.2.2.2.2.2.2.2.2.2.1
  obtain ⟨r, dA2, dB2, hA2, hB2, hR2⟩ := hsim (XI xs (i + 1)) (XI xs (i + 2)) (XI xs (i + 3)) (XI xs (i + 4)) (XI xs (i + 5)) dA dB XI_c XI_c XI_c XI_c XI_c hCA hCB hRel
  refine l_ld1 C (by decide +kernel) ?_
  refine l_ld0 C (by decide +kernel) ?_
  refine l_i3 C (by decide +kernel) ?_
  refine l_iconst C 1 (by decide +kernel) ?_
  refine l_iadd C (z := ((i + 1 : Nat) : Int)) (ad7 ⟨hi, hL9⟩ 1 (by decide)) (by decide +kernel) ?_
  refine l_iald C (i + 1) (by omega) (by decide +kernel) ?_
  refine l_ld0 C (by decide +kernel) ?_
  refine l_i3 C (by decide +kernel) ?_
  refine l_iconst C 2 (by decide +kernel) ?_
  refine l_iadd C (z := ((i + 2 : Nat) : Int)) (ad7 ⟨hi, hL9⟩ 2 (by decide)) (by decide +kernel) ?_
  refine l_iald C (i + 2) (by omega) (by decide +kernel) ?_
  refine l_ld0 C (by decide +kernel) ?_
  refine l_i3 C (by decide +kernel) ?_
  refine l_iconst C 3 (by decide +kernel) ?_
  refine l_iadd C (z := ((i + 3 : Nat) : Int)) (ad7 ⟨hi, hL9⟩ 3 (by decide)) (by decide +kernel) ?_
  refine l_iald C (i + 3) (by omega) (by decide +kernel) ?_
  refine l_ld0 C (by decide +kernel) ?_
  refine l_i3 C (by decide +kernel) ?_
  refine l_iconst C 4 (by decide +kernel) ?_
  refine l_iadd C (z := ((i + 4 : Nat) : Int)) (ad7 ⟨hi, hL9⟩ 4 (by decide)) (by decide +kernel) ?_
  refine l_iald C (i + 4) (by omega) (by decide +kernel) ?_
  refine l_ld0 C (by decide +kernel) ?_
  refine l_i3 C (by decide +kernel) ?_
  refine l_iconst C 5 (by decide +kernel) ?_
  refine l_iadd C (z := ((i + 5 : Nat) : Int)) (ad7 ⟨hi, hL9⟩ 5 (by decide)) (by decide +kernel) ?_
  refine l_iald C (i + 5) (by omega) (by decide +kernel) ?_
  refine l_callA C mw_PB_pour [(0, XI xs (i + 1)), (0, XI xs (i + 2)), (0, XI xs (i + 3)), (0, XI xs (i + 4)), (0, XI xs (i + 5))] (ok_PB_pour (XI xs (i + 1)) (XI xs (i + 2)) (XI xs (i + 3)) (XI xs (i + 4)) (XI xs (i + 5)) dA XI_c XI_c XI_c XI_c XI_c hA2) (tgC (by decide) (tgC (by decide) (tgC (by decide) (tgC (by decide) (tgC (by decide) tgN))))) (tgC (by decide) tgN) (ix := 35) lk_566 lk_567 lk_568 ⟨rfl, rfl, Nat.le_of_ble_eq_true rfl, Nat.le_of_ble_eq_true rfl⟩ rfl (st := []) rfl (show 0 ≤ 8 by decide) ⟨Nat.le_trans (by omega) rm_c, Nat.le_trans (by omega) rm_s⟩ (by decide +kernel) (fun _ => ?_)
  refine l_ld2 C (by decide +kernel) ?_
  refine l_ld0 C (by decide +kernel) ?_
  refine l_i3 C (by decide +kernel) ?_
  refine l_iconst C 1 (by decide +kernel) ?_
  refine l_iadd C (z := ((i + 1 : Nat) : Int)) (ad7 ⟨hi, hL9⟩ 1 (by decide)) (by decide +kernel) ?_
  refine l_iald C (i + 1) (by omega) (by decide +kernel) ?_
  refine l_ld0 C (by decide +kernel) ?_
  refine l_i3 C (by decide +kernel) ?_
  refine l_iconst C 2 (by decide +kernel) ?_
  refine l_iadd C (z := ((i + 2 : Nat) : Int)) (ad7 ⟨hi, hL9⟩ 2 (by decide)) (by decide +kernel) ?_
  refine l_iald C (i + 2) (by omega) (by decide +kernel) ?_
  refine l_ld0 C (by decide +kernel) ?_
  refine l_i3 C (by decide +kernel) ?_
  refine l_iconst C 3 (by decide +kernel) ?_
  refine l_iadd C (z := ((i + 3 : Nat) : Int)) (ad7 ⟨hi, hL9⟩ 3 (by decide)) (by decide +kernel) ?_
  refine l_iald C (i + 3) (by omega) (by decide +kernel) ?_
  refine l_ld0 C (by decide +kernel) ?_
  refine l_i3 C (by decide +kernel) ?_
  refine l_iconst C 4 (by decide +kernel) ?_
  refine l_iadd C (z := ((i + 4 : Nat) : Int)) (ad7 ⟨hi, hL9⟩ 4 (by decide)) (by decide +kernel) ?_
  refine l_iald C (i + 4) (by omega) (by decide +kernel) ?_
  refine l_ld0 C (by decide +kernel) ?_
  refine l_i3 C (by decide +kernel) ?_
  refine l_iconst C 5 (by decide +kernel) ?_
  refine l_iadd C (z := ((i + 5 : Nat) : Int)) (ad7 ⟨hi, hL9⟩ 5 (by decide)) (by decide +kernel) ?_
  refine l_iald C (i + 5) (by omega) (by decide +kernel) ?_
  refine l_callB C mw_Mo_pour [(0, XI xs (i + 1)), (0, XI xs (i + 2)), (0, XI xs (i + 3)), (0, XI xs (i + 4)), (0, XI xs (i + 5))] (ok_Mo_pour (XI xs (i + 1)) (XI xs (i + 2)) (XI xs (i + 3)) (XI xs (i + 4)) (XI xs (i + 5)) dB XI_c XI_c XI_c XI_c XI_c hB2) (tgC (by decide) (tgC (by decide) (tgC (by decide) (tgC (by decide) (tgC (by decide) tgN))))) (tgC (by decide) tgN) (ix := 39) lk_1761 lk_1762 lk_1763 ⟨rfl, rfl, Nat.le_of_ble_eq_true rfl, Nat.le_of_ble_eq_true rfl⟩ rfl (st := [(0, r)]) rfl (show (1 + 0) ≤ 8 by decide) ⟨Nat.le_trans (by omega) rm_c, Nat.le_trans (by omega) rm_s⟩ (by decide +kernel) (fun _ => ?_)
  refine l_icmpeq C (off := 1773) (tgt := 2222) (by decide +kernel) (by decide) ?_
  refine l_widen (k := cells + 7) (n := slots + 710) (by omega) (by omega) ?_
  exact kk dA2 dB2 hR2
set_option maxHeartbeats 8000000 in
set_option maxRecDepth 100000 in
theorem case_5 (C : LC p s m meth c b L xs D cA st0) {Rel : Dt → Dt → Prop} (hsim : Sim_far Rel) (hi : i + 6 < L) (hc : cells + 7 ≤ 600000 ∧ slots + 710 ≤ 7302250) (hCA : CN 0 dA) (hCB : CN 1 dB) (hRel : Rel dA dB) (kk : ∀ dA' dB', Rel dA' dB' → GL p l e s m below meth c b D cA st0 (cells + 7) (slots + 710) 2222 i [] dA' dB') : GL p l e s m below meth c b D cA st0 cells slots 454 i [] dA dB := by
  have hL9 := C.2.2.2.2.2.2.2.2.2.2.1
  obtain ⟨r, dA2, dB2, hA2, hB2, hR2⟩ := hsim (lor (lshl (XI xs (i + 1)) 32) (land (XI xs (i + 2)) (4294967295))) (lor (lshl (XI xs (i + 3)) 32) (land (XI xs (i + 4)) (4294967295))) dA dB (l_c _) (l_c _) hCA hCB hRel
  refine l_ld1 C (by decide +kernel) ?_
  refine l_ld0 C (by decide +kernel) ?_
  refine l_i3 C (by decide +kernel) ?_
  refine l_iconst C 1 (by decide +kernel) ?_
  refine l_iadd C (z := ((i + 1 : Nat) : Int)) (ad7 ⟨hi, hL9⟩ 1 (by decide)) (by decide +kernel) ?_
  refine l_iald C (i + 1) (by omega) (by decide +kernel) ?_
  refine l_i2l C XI_c (by decide +kernel) ?_
  refine l_bipush C 32 (by decide) (by decide +kernel) ?_
  refine l_lshl C (by decide +kernel) ?_
  refine l_ld0 C (by decide +kernel) ?_
  refine l_i3 C (by decide +kernel) ?_
  refine l_iconst C 2 (by decide +kernel) ?_
  refine l_iadd C (z := ((i + 2 : Nat) : Int)) (ad7 ⟨hi, hL9⟩ 2 (by decide)) (by decide +kernel) ?_
  refine l_iald C (i + 2) (by omega) (by decide +kernel) ?_
  refine l_i2l C XI_c (by decide +kernel) ?_
  refine l_ldc2 C (ix := 23) (v := 4294967295) lk_2251 (by decide +kernel) ?_
  refine l_land C (by decide +kernel) ?_
  refine l_lor C (by decide +kernel) ?_
  refine l_ld0 C (by decide +kernel) ?_
  refine l_i3 C (by decide +kernel) ?_
  refine l_iconst C 3 (by decide +kernel) ?_
  refine l_iadd C (z := ((i + 3 : Nat) : Int)) (ad7 ⟨hi, hL9⟩ 3 (by decide)) (by decide +kernel) ?_
  refine l_iald C (i + 3) (by omega) (by decide +kernel) ?_
  refine l_i2l C XI_c (by decide +kernel) ?_
  refine l_bipush C 32 (by decide) (by decide +kernel) ?_
  refine l_lshl C (by decide +kernel) ?_
  refine l_ld0 C (by decide +kernel) ?_
  refine l_i3 C (by decide +kernel) ?_
  refine l_iconst C 4 (by decide +kernel) ?_
  refine l_iadd C (z := ((i + 4 : Nat) : Int)) (ad7 ⟨hi, hL9⟩ 4 (by decide)) (by decide +kernel) ?_
  refine l_iald C (i + 4) (by omega) (by decide +kernel) ?_
  refine l_i2l C XI_c (by decide +kernel) ?_
  refine l_ldc2 C (ix := 23) (v := 4294967295) lk_2251 (by decide +kernel) ?_
  refine l_land C (by decide +kernel) ?_
  refine l_lor C (by decide +kernel) ?_
  refine l_callA C mw_PB_far [(1, lor (lshl (XI xs (i + 1)) 32) (land (XI xs (i + 2)) (4294967295))), (1, lor (lshl (XI xs (i + 3)) 32) (land (XI xs (i + 4)) (4294967295)))] (ok_PB_far (lor (lshl (XI xs (i + 1)) 32) (land (XI xs (i + 2)) (4294967295))) (lor (lshl (XI xs (i + 3)) 32) (land (XI xs (i + 4)) (4294967295))) dA (l_c _) (l_c _) hA2) (tgC (by decide) (tgC (by decide) tgN)) (tgC (by decide) tgN) (ix := 40) lk_585 lk_586 lk_587 ⟨rfl, rfl, Nat.le_of_ble_eq_true rfl, Nat.le_of_ble_eq_true rfl⟩ rfl (st := []) rfl (show 0 ≤ 8 by decide) ⟨Nat.le_trans (by omega) rm_c, Nat.le_trans (by omega) rm_s⟩ (by decide +kernel) (fun _ => ?_)
  refine l_ld2 C (by decide +kernel) ?_
  refine l_ld0 C (by decide +kernel) ?_
  refine l_i3 C (by decide +kernel) ?_
  refine l_iconst C 1 (by decide +kernel) ?_
  refine l_iadd C (z := ((i + 1 : Nat) : Int)) (ad7 ⟨hi, hL9⟩ 1 (by decide)) (by decide +kernel) ?_
  refine l_iald C (i + 1) (by omega) (by decide +kernel) ?_
  refine l_i2l C XI_c (by decide +kernel) ?_
  refine l_bipush C 32 (by decide) (by decide +kernel) ?_
  refine l_lshl C (by decide +kernel) ?_
  refine l_ld0 C (by decide +kernel) ?_
  refine l_i3 C (by decide +kernel) ?_
  refine l_iconst C 2 (by decide +kernel) ?_
  refine l_iadd C (z := ((i + 2 : Nat) : Int)) (ad7 ⟨hi, hL9⟩ 2 (by decide)) (by decide +kernel) ?_
  refine l_iald C (i + 2) (by omega) (by decide +kernel) ?_
  refine l_i2l C XI_c (by decide +kernel) ?_
  refine l_ldc2 C (ix := 23) (v := 4294967295) lk_2251 (by decide +kernel) ?_
  refine l_land C (by decide +kernel) ?_
  refine l_lor C (by decide +kernel) ?_
  refine l_ld0 C (by decide +kernel) ?_
  refine l_i3 C (by decide +kernel) ?_
  refine l_iconst C 3 (by decide +kernel) ?_
  refine l_iadd C (z := ((i + 3 : Nat) : Int)) (ad7 ⟨hi, hL9⟩ 3 (by decide)) (by decide +kernel) ?_
  refine l_iald C (i + 3) (by omega) (by decide +kernel) ?_
  refine l_i2l C XI_c (by decide +kernel) ?_
  refine l_bipush C 32 (by decide) (by decide +kernel) ?_
  refine l_lshl C (by decide +kernel) ?_
  refine l_ld0 C (by decide +kernel) ?_
  refine l_i3 C (by decide +kernel) ?_
  refine l_iconst C 4 (by decide +kernel) ?_
  refine l_iadd C (z := ((i + 4 : Nat) : Int)) (ad7 ⟨hi, hL9⟩ 4 (by decide)) (by decide +kernel) ?_
  refine l_iald C (i + 4) (by omega) (by decide +kernel) ?_
  refine l_i2l C XI_c (by decide +kernel) ?_
  refine l_ldc2 C (ix := 23) (v := 4294967295) lk_2251 (by decide +kernel) ?_
  refine l_land C (by decide +kernel) ?_
  refine l_lor C (by decide +kernel) ?_
  refine l_callB C mw_Mo_far [(1, lor (lshl (XI xs (i + 1)) 32) (land (XI xs (i + 2)) (4294967295))), (1, lor (lshl (XI xs (i + 3)) 32) (land (XI xs (i + 4)) (4294967295)))] (ok_Mo_far (lor (lshl (XI xs (i + 1)) 32) (land (XI xs (i + 2)) (4294967295))) (lor (lshl (XI xs (i + 3)) 32) (land (XI xs (i + 4)) (4294967295))) dB (l_c _) (l_c _) hB2) (tgC (by decide) (tgC (by decide) tgN)) (tgC (by decide) tgN) (ix := 44) lk_1765 lk_1766 lk_1767 ⟨rfl, rfl, Nat.le_of_ble_eq_true rfl, Nat.le_of_ble_eq_true rfl⟩ rfl (st := [(0, r)]) rfl (show (1 + 0) ≤ 8 by decide) ⟨Nat.le_trans (by omega) rm_c, Nat.le_trans (by omega) rm_s⟩ (by decide +kernel) (fun _ => ?_)
  refine l_icmpeq C (off := 1680) (tgt := 2222) (by decide +kernel) (by decide) ?_
  refine l_widen (k := cells + 7) (n := slots + 710) (by omega) (by omega) ?_
  exact kk dA2 dB2 hR2
set_option maxHeartbeats 8000000 in
set_option maxRecDepth 100000 in
theorem case_6 (C : LC p s m meth c b L xs D cA st0) {Rel : Dt → Dt → Prop} (hsim : Sim_person Rel) (hi : i + 6 < L) (hc : cells + 7 ≤ 600000 ∧ slots + 710 ≤ 7302250) (hCA : CN 0 dA) (hCB : CN 1 dB) (hRel : Rel dA dB) (kk : ∀ dA' dB', Rel dA' dB' → GL p l e s m below meth c b D cA st0 (cells + 7) (slots + 710) 2222 i [] dA' dB') : GL p l e s m below meth c b D cA st0 cells slots 547 i [] dA dB := by
  have hL9 := C.2.2.2.2.2.2.2.2.2.2.1
  obtain ⟨r, dA2, dB2, hA2, hB2, hR2⟩ := hsim (lor (lshl (XI xs (i + 1)) 32) (land (XI xs (i + 2)) (4294967295))) (XI xs (i + 3)) (XI xs (i + 4)) dA dB (l_c _) XI_c XI_c hCA hCB hRel
  refine l_ld1 C (by decide +kernel) ?_
  refine l_ld0 C (by decide +kernel) ?_
  refine l_i3 C (by decide +kernel) ?_
  refine l_iconst C 1 (by decide +kernel) ?_
  refine l_iadd C (z := ((i + 1 : Nat) : Int)) (ad7 ⟨hi, hL9⟩ 1 (by decide)) (by decide +kernel) ?_
  refine l_iald C (i + 1) (by omega) (by decide +kernel) ?_
  refine l_i2l C XI_c (by decide +kernel) ?_
  refine l_bipush C 32 (by decide) (by decide +kernel) ?_
  refine l_lshl C (by decide +kernel) ?_
  refine l_ld0 C (by decide +kernel) ?_
  refine l_i3 C (by decide +kernel) ?_
  refine l_iconst C 2 (by decide +kernel) ?_
  refine l_iadd C (z := ((i + 2 : Nat) : Int)) (ad7 ⟨hi, hL9⟩ 2 (by decide)) (by decide +kernel) ?_
  refine l_iald C (i + 2) (by omega) (by decide +kernel) ?_
  refine l_i2l C XI_c (by decide +kernel) ?_
  refine l_ldc2 C (ix := 23) (v := 4294967295) lk_2251 (by decide +kernel) ?_
  refine l_land C (by decide +kernel) ?_
  refine l_lor C (by decide +kernel) ?_
  refine l_ld0 C (by decide +kernel) ?_
  refine l_i3 C (by decide +kernel) ?_
  refine l_iconst C 3 (by decide +kernel) ?_
  refine l_iadd C (z := ((i + 3 : Nat) : Int)) (ad7 ⟨hi, hL9⟩ 3 (by decide)) (by decide +kernel) ?_
  refine l_iald C (i + 3) (by omega) (by decide +kernel) ?_
  refine l_ld0 C (by decide +kernel) ?_
  refine l_i3 C (by decide +kernel) ?_
  refine l_iconst C 4 (by decide +kernel) ?_
  refine l_iadd C (z := ((i + 4 : Nat) : Int)) (ad7 ⟨hi, hL9⟩ 4 (by decide)) (by decide +kernel) ?_
  refine l_iald C (i + 4) (by omega) (by decide +kernel) ?_
  refine l_callA C mw_PB_person [(1, lor (lshl (XI xs (i + 1)) 32) (land (XI xs (i + 2)) (4294967295))), (0, XI xs (i + 3)), (0, XI xs (i + 4))] (ok_PB_person (lor (lshl (XI xs (i + 1)) 32) (land (XI xs (i + 2)) (4294967295))) (XI xs (i + 3)) (XI xs (i + 4)) dA (l_c _) XI_c XI_c hA2) (tgC (by decide) (tgC (by decide) (tgC (by decide) tgN))) (tgC (by decide) tgN) (ix := 45) lk_603 lk_604 lk_605 ⟨rfl, rfl, Nat.le_of_ble_eq_true rfl, Nat.le_of_ble_eq_true rfl⟩ rfl (st := []) rfl (show 0 ≤ 8 by decide) ⟨Nat.le_trans (by omega) rm_c, Nat.le_trans (by omega) rm_s⟩ (by decide +kernel) (fun _ => ?_)
  refine l_ld2 C (by decide +kernel) ?_
  refine l_ld0 C (by decide +kernel) ?_
  refine l_i3 C (by decide +kernel) ?_
  refine l_iconst C 1 (by decide +kernel) ?_
  refine l_iadd C (z := ((i + 1 : Nat) : Int)) (ad7 ⟨hi, hL9⟩ 1 (by decide)) (by decide +kernel) ?_
  refine l_iald C (i + 1) (by omega) (by decide +kernel) ?_
  refine l_i2l C XI_c (by decide +kernel) ?_
  refine l_bipush C 32 (by decide) (by decide +kernel) ?_
  refine l_lshl C (by decide +kernel) ?_
  refine l_ld0 C (by decide +kernel) ?_
  refine l_i3 C (by decide +kernel) ?_
  refine l_iconst C 2 (by decide +kernel) ?_
  refine l_iadd C (z := ((i + 2 : Nat) : Int)) (ad7 ⟨hi, hL9⟩ 2 (by decide)) (by decide +kernel) ?_
  refine l_iald C (i + 2) (by omega) (by decide +kernel) ?_
  refine l_i2l C XI_c (by decide +kernel) ?_
  refine l_ldc2 C (ix := 23) (v := 4294967295) lk_2251 (by decide +kernel) ?_
  refine l_land C (by decide +kernel) ?_
  refine l_lor C (by decide +kernel) ?_
  refine l_ld0 C (by decide +kernel) ?_
  refine l_i3 C (by decide +kernel) ?_
  refine l_iconst C 3 (by decide +kernel) ?_
  refine l_iadd C (z := ((i + 3 : Nat) : Int)) (ad7 ⟨hi, hL9⟩ 3 (by decide)) (by decide +kernel) ?_
  refine l_iald C (i + 3) (by omega) (by decide +kernel) ?_
  refine l_ld0 C (by decide +kernel) ?_
  refine l_i3 C (by decide +kernel) ?_
  refine l_iconst C 4 (by decide +kernel) ?_
  refine l_iadd C (z := ((i + 4 : Nat) : Int)) (ad7 ⟨hi, hL9⟩ 4 (by decide)) (by decide +kernel) ?_
  refine l_iald C (i + 4) (by omega) (by decide +kernel) ?_
  refine l_callB C mw_Mo_person [(1, lor (lshl (XI xs (i + 1)) 32) (land (XI xs (i + 2)) (4294967295))), (0, XI xs (i + 3)), (0, XI xs (i + 4))] (ok_Mo_person (lor (lshl (XI xs (i + 1)) 32) (land (XI xs (i + 2)) (4294967295))) (XI xs (i + 3)) (XI xs (i + 4)) dB (l_c _) XI_c XI_c hB2) (tgC (by decide) (tgC (by decide) (tgC (by decide) tgN))) (tgC (by decide) tgN) (ix := 49) lk_1791 lk_1792 lk_1793 ⟨rfl, rfl, Nat.le_of_ble_eq_true rfl, Nat.le_of_ble_eq_true rfl⟩ rfl (st := [(0, r)]) rfl (show (1 + 0) ≤ 8 by decide) ⟨Nat.le_trans (by omega) rm_c, Nat.le_trans (by omega) rm_s⟩ (by decide +kernel) (fun _ => ?_)
  refine l_icmpeq C (off := 1607) (tgt := 2222) (by decide +kernel) (by decide) ?_
  refine l_widen (k := cells + 7) (n := slots + 710) (by omega) (by omega) ?_
  exact kk dA2 dB2 hR2
set_option maxHeartbeats 8000000 in
set_option maxRecDepth 100000 in
theorem case_7 (C : LC p s m meth c b L xs D cA st0) {Rel : Dt → Dt → Prop} (hsim : Sim_hold Rel) (hi : i + 6 < L) (hc : cells + 7 ≤ 600000 ∧ slots + 710 ≤ 7302250) (hCA : CN 0 dA) (hCB : CN 1 dB) (hRel : Rel dA dB) (kk : ∀ dA' dB', Rel dA' dB' → GL p l e s m below meth c b D cA st0 (cells + 7) (slots + 710) 2222 i [] dA' dB') : GL p l e s m below meth c b D cA st0 cells slots 620 i [] dA dB := by
  have hL9 := C.2.2.2.2.2.2.2.2.2.2.1
  obtain ⟨r, dA2, dB2, hA2, hB2, hR2⟩ := hsim (XI xs (i + 1)) (XI xs (i + 2)) (XI xs (i + 3)) (XI xs (i + 4)) (XI xs (i + 5)) (XI xs (i + 6)) dA dB XI_c XI_c XI_c XI_c XI_c XI_c hCA hCB hRel
  refine l_ld1 C (by decide +kernel) ?_
  refine l_ld0 C (by decide +kernel) ?_
  refine l_i3 C (by decide +kernel) ?_
  refine l_iconst C 1 (by decide +kernel) ?_
  refine l_iadd C (z := ((i + 1 : Nat) : Int)) (ad7 ⟨hi, hL9⟩ 1 (by decide)) (by decide +kernel) ?_
  refine l_iald C (i + 1) (by omega) (by decide +kernel) ?_
  refine l_ld0 C (by decide +kernel) ?_
  refine l_i3 C (by decide +kernel) ?_
  refine l_iconst C 2 (by decide +kernel) ?_
  refine l_iadd C (z := ((i + 2 : Nat) : Int)) (ad7 ⟨hi, hL9⟩ 2 (by decide)) (by decide +kernel) ?_
  refine l_iald C (i + 2) (by omega) (by decide +kernel) ?_
  refine l_ld0 C (by decide +kernel) ?_
  refine l_i3 C (by decide +kernel) ?_
  refine l_iconst C 3 (by decide +kernel) ?_
  refine l_iadd C (z := ((i + 3 : Nat) : Int)) (ad7 ⟨hi, hL9⟩ 3 (by decide)) (by decide +kernel) ?_
  refine l_iald C (i + 3) (by omega) (by decide +kernel) ?_
  refine l_ld0 C (by decide +kernel) ?_
  refine l_i3 C (by decide +kernel) ?_
  refine l_iconst C 4 (by decide +kernel) ?_
  refine l_iadd C (z := ((i + 4 : Nat) : Int)) (ad7 ⟨hi, hL9⟩ 4 (by decide)) (by decide +kernel) ?_
  refine l_iald C (i + 4) (by omega) (by decide +kernel) ?_
  refine l_ld0 C (by decide +kernel) ?_
  refine l_i3 C (by decide +kernel) ?_
  refine l_iconst C 5 (by decide +kernel) ?_
  refine l_iadd C (z := ((i + 5 : Nat) : Int)) (ad7 ⟨hi, hL9⟩ 5 (by decide)) (by decide +kernel) ?_
  refine l_iald C (i + 5) (by omega) (by decide +kernel) ?_
  refine l_ld0 C (by decide +kernel) ?_
  refine l_i3 C (by decide +kernel) ?_
  refine l_bipush C 6 (by decide) (by decide +kernel) ?_
  refine l_iadd C (z := ((i + 6 : Nat) : Int)) (ad7 ⟨hi, hL9⟩ 6 (by decide)) (by decide +kernel) ?_
  refine l_iald C (i + 6) (by omega) (by decide +kernel) ?_
  refine l_callA C mw_PB_hold [(0, XI xs (i + 1)), (0, XI xs (i + 2)), (0, XI xs (i + 3)), (0, XI xs (i + 4)), (0, XI xs (i + 5)), (0, XI xs (i + 6))] (ok_PB_hold (XI xs (i + 1)) (XI xs (i + 2)) (XI xs (i + 3)) (XI xs (i + 4)) (XI xs (i + 5)) (XI xs (i + 6)) dA XI_c XI_c XI_c XI_c XI_c XI_c hA2) (tgC (by decide) (tgC (by decide) (tgC (by decide) (tgC (by decide) (tgC (by decide) (tgC (by decide) tgN)))))) (tgC (by decide) tgN) (ix := 50) lk_633 lk_634 lk_635 ⟨rfl, rfl, Nat.le_of_ble_eq_true rfl, Nat.le_of_ble_eq_true rfl⟩ rfl (st := []) rfl (show 0 ≤ 8 by decide) ⟨Nat.le_trans (by omega) rm_c, Nat.le_trans (by omega) rm_s⟩ (by decide +kernel) (fun _ => ?_)
  refine l_ld2 C (by decide +kernel) ?_
  refine l_ld0 C (by decide +kernel) ?_
  refine l_i3 C (by decide +kernel) ?_
  refine l_iconst C 1 (by decide +kernel) ?_
  refine l_iadd C (z := ((i + 1 : Nat) : Int)) (ad7 ⟨hi, hL9⟩ 1 (by decide)) (by decide +kernel) ?_
  refine l_iald C (i + 1) (by omega) (by decide +kernel) ?_
  refine l_ld0 C (by decide +kernel) ?_
  refine l_i3 C (by decide +kernel) ?_
  refine l_iconst C 2 (by decide +kernel) ?_
  refine l_iadd C (z := ((i + 2 : Nat) : Int)) (ad7 ⟨hi, hL9⟩ 2 (by decide)) (by decide +kernel) ?_
  refine l_iald C (i + 2) (by omega) (by decide +kernel) ?_
  refine l_ld0 C (by decide +kernel) ?_
  refine l_i3 C (by decide +kernel) ?_
  refine l_iconst C 3 (by decide +kernel) ?_
  refine l_iadd C (z := ((i + 3 : Nat) : Int)) (ad7 ⟨hi, hL9⟩ 3 (by decide)) (by decide +kernel) ?_
  refine l_iald C (i + 3) (by omega) (by decide +kernel) ?_
  refine l_ld0 C (by decide +kernel) ?_
  refine l_i3 C (by decide +kernel) ?_
  refine l_iconst C 4 (by decide +kernel) ?_
  refine l_iadd C (z := ((i + 4 : Nat) : Int)) (ad7 ⟨hi, hL9⟩ 4 (by decide)) (by decide +kernel) ?_
  refine l_iald C (i + 4) (by omega) (by decide +kernel) ?_
  refine l_ld0 C (by decide +kernel) ?_
  refine l_i3 C (by decide +kernel) ?_
  refine l_iconst C 5 (by decide +kernel) ?_
  refine l_iadd C (z := ((i + 5 : Nat) : Int)) (ad7 ⟨hi, hL9⟩ 5 (by decide)) (by decide +kernel) ?_
  refine l_iald C (i + 5) (by omega) (by decide +kernel) ?_
  refine l_ld0 C (by decide +kernel) ?_
  refine l_i3 C (by decide +kernel) ?_
  refine l_bipush C 6 (by decide) (by decide +kernel) ?_
  refine l_iadd C (z := ((i + 6 : Nat) : Int)) (ad7 ⟨hi, hL9⟩ 6 (by decide)) (by decide +kernel) ?_
  refine l_iald C (i + 6) (by omega) (by decide +kernel) ?_
  refine l_callB C mw_Mo_hold [(0, XI xs (i + 1)), (0, XI xs (i + 2)), (0, XI xs (i + 3)), (0, XI xs (i + 4)), (0, XI xs (i + 5)), (0, XI xs (i + 6))] (ok_Mo_hold (XI xs (i + 1)) (XI xs (i + 2)) (XI xs (i + 3)) (XI xs (i + 4)) (XI xs (i + 5)) (XI xs (i + 6)) dB XI_c XI_c XI_c XI_c XI_c XI_c hB2) (tgC (by decide) (tgC (by decide) (tgC (by decide) (tgC (by decide) (tgC (by decide) (tgC (by decide) tgN)))))) (tgC (by decide) tgN) (ix := 54) lk_1801 lk_1802 lk_1803 ⟨rfl, rfl, Nat.le_of_ble_eq_true rfl, Nat.le_of_ble_eq_true rfl⟩ rfl (st := [(0, r)]) rfl (show (1 + 0) ≤ 8 by decide) ⟨Nat.le_trans (by omega) rm_c, Nat.le_trans (by omega) rm_s⟩ (by decide +kernel) (fun _ => ?_)
  refine l_icmpeq C (off := 1532) (tgt := 2222) (by decide +kernel) (by decide) ?_
  refine l_widen (k := cells + 7) (n := slots + 710) (by omega) (by omega) ?_
  exact kk dA2 dB2 hR2
set_option maxHeartbeats 8000000 in
set_option maxRecDepth 100000 in
theorem case_8 (C : LC p s m meth c b L xs D cA st0) {Rel : Dt → Dt → Prop} (hsim : Sim_split Rel) (hi : i + 6 < L) (hc : cells + 7 ≤ 600000 ∧ slots + 710 ≤ 7302250) (hCA : CN 0 dA) (hCB : CN 1 dB) (hRel : Rel dA dB) (kk : ∀ dA' dB', Rel dA' dB' → GL p l e s m below meth c b D cA st0 (cells + 7) (slots + 710) 2222 i [] dA' dB') : GL p l e s m below meth c b D cA st0 cells slots 695 i [] dA dB := by
  have hL9 := C.2.2.2.2.2.2.2.2.2.2.1
  obtain ⟨r, dA2, dB2, hA2, hB2, hR2⟩ := hsim (XI xs (i + 1)) (XI xs (i + 2)) (XI xs (i + 3)) dA dB XI_c XI_c XI_c hCA hCB hRel
  refine l_ld1 C (by decide +kernel) ?_
  refine l_ld0 C (by decide +kernel) ?_
  refine l_i3 C (by decide +kernel) ?_
  refine l_iconst C 1 (by decide +kernel) ?_
  refine l_iadd C (z := ((i + 1 : Nat) : Int)) (ad7 ⟨hi, hL9⟩ 1 (by decide)) (by decide +kernel) ?_
  refine l_iald C (i + 1) (by omega) (by decide +kernel) ?_
  refine l_ld0 C (by decide +kernel) ?_
  refine l_i3 C (by decide +kernel) ?_
  refine l_iconst C 2 (by decide +kernel) ?_
  refine l_iadd C (z := ((i + 2 : Nat) : Int)) (ad7 ⟨hi, hL9⟩ 2 (by decide)) (by decide +kernel) ?_
  refine l_iald C (i + 2) (by omega) (by decide +kernel) ?_
  refine l_ld0 C (by decide +kernel) ?_
  refine l_i3 C (by decide +kernel) ?_
  refine l_iconst C 3 (by decide +kernel) ?_
  refine l_iadd C (z := ((i + 3 : Nat) : Int)) (ad7 ⟨hi, hL9⟩ 3 (by decide)) (by decide +kernel) ?_
  refine l_iald C (i + 3) (by omega) (by decide +kernel) ?_
  refine l_callA C mw_PB_split [(0, XI xs (i + 1)), (0, XI xs (i + 2)), (0, XI xs (i + 3))] (ok_PB_split (XI xs (i + 1)) (XI xs (i + 2)) (XI xs (i + 3)) dA XI_c XI_c XI_c hA2) (tgC (by decide) (tgC (by decide) (tgC (by decide) tgN))) (tgC (by decide) tgN) (ix := 55) lk_663 lk_664 lk_665 ⟨rfl, rfl, Nat.le_of_ble_eq_true rfl, Nat.le_of_ble_eq_true rfl⟩ rfl (st := []) rfl (show 0 ≤ 8 by decide) ⟨Nat.le_trans (by omega) rm_c, Nat.le_trans (by omega) rm_s⟩ (by decide +kernel) (fun _ => ?_)
  refine l_ld2 C (by decide +kernel) ?_
  refine l_ld0 C (by decide +kernel) ?_
  refine l_i3 C (by decide +kernel) ?_
  refine l_iconst C 1 (by decide +kernel) ?_
  refine l_iadd C (z := ((i + 1 : Nat) : Int)) (ad7 ⟨hi, hL9⟩ 1 (by decide)) (by decide +kernel) ?_
  refine l_iald C (i + 1) (by omega) (by decide +kernel) ?_
  refine l_ld0 C (by decide +kernel) ?_
  refine l_i3 C (by decide +kernel) ?_
  refine l_iconst C 2 (by decide +kernel) ?_
  refine l_iadd C (z := ((i + 2 : Nat) : Int)) (ad7 ⟨hi, hL9⟩ 2 (by decide)) (by decide +kernel) ?_
  refine l_iald C (i + 2) (by omega) (by decide +kernel) ?_
  refine l_ld0 C (by decide +kernel) ?_
  refine l_i3 C (by decide +kernel) ?_
  refine l_iconst C 3 (by decide +kernel) ?_
  refine l_iadd C (z := ((i + 3 : Nat) : Int)) (ad7 ⟨hi, hL9⟩ 3 (by decide)) (by decide +kernel) ?_
  refine l_iald C (i + 3) (by omega) (by decide +kernel) ?_
  refine l_callB C mw_Mo_split [(0, XI xs (i + 1)), (0, XI xs (i + 2)), (0, XI xs (i + 3))] (ok_Mo_split (XI xs (i + 1)) (XI xs (i + 2)) (XI xs (i + 3)) dB XI_c XI_c XI_c hB2) (tgC (by decide) (tgC (by decide) (tgC (by decide) tgN))) (tgC (by decide) tgN) (ix := 58) lk_1822 lk_1823 lk_1824 ⟨rfl, rfl, Nat.le_of_ble_eq_true rfl, Nat.le_of_ble_eq_true rfl⟩ rfl (st := [(0, r)]) rfl (show (1 + 0) ≤ 8 by decide) ⟨Nat.le_trans (by omega) rm_c, Nat.le_trans (by omega) rm_s⟩ (by decide +kernel) (fun _ => ?_)
  refine l_icmpeq C (off := 1489) (tgt := 2222) (by decide +kernel) (by decide) ?_
  refine l_widen (k := cells + 7) (n := slots + 710) (by omega) (by omega) ?_
  exact kk dA2 dB2 hR2
set_option maxHeartbeats 8000000 in
set_option maxRecDepth 100000 in
theorem case_9 (C : LC p s m meth c b L xs D cA st0) {Rel : Dt → Dt → Prop} (hsim : Sim_pay Rel) (hi : i + 6 < L) (hc : cells + 7 ≤ 600000 ∧ slots + 710 ≤ 7302250) (hCA : CN 0 dA) (hCB : CN 1 dB) (hRel : Rel dA dB) (kk : ∀ dA' dB', Rel dA' dB' → GL p l e s m below meth c b D cA st0 (cells + 7) (slots + 710) 2222 i [] dA' dB') : GL p l e s m below meth c b D cA st0 cells slots 738 i [] dA dB := by
  have hL9 := C.2.2.2.2.2.2.2.2.2.2.1
  obtain ⟨r, dA2, dB2, hA2, hB2, hR2⟩ := hsim (XI xs (i + 1)) (XI xs (i + 2)) (XI xs (i + 3)) ((if XI xs (i + 4) = 0 then 0 else 1)) (XI xs (i + 5)) dA dB XI_c XI_c XI_c (cb_if _) XI_c hCA hCB hRel
  refine l_ld1 C (by decide +kernel) ?_
  refine l_ld0 C (by decide +kernel) ?_
  refine l_i3 C (by decide +kernel) ?_
  refine l_iconst C 1 (by decide +kernel) ?_
  refine l_iadd C (z := ((i + 1 : Nat) : Int)) (ad7 ⟨hi, hL9⟩ 1 (by decide)) (by decide +kernel) ?_
  refine l_iald C (i + 1) (by omega) (by decide +kernel) ?_
  refine l_ld0 C (by decide +kernel) ?_
  refine l_i3 C (by decide +kernel) ?_
  refine l_iconst C 2 (by decide +kernel) ?_
  refine l_iadd C (z := ((i + 2 : Nat) : Int)) (ad7 ⟨hi, hL9⟩ 2 (by decide)) (by decide +kernel) ?_
  refine l_iald C (i + 2) (by omega) (by decide +kernel) ?_
  refine l_ld0 C (by decide +kernel) ?_
  refine l_i3 C (by decide +kernel) ?_
  refine l_iconst C 3 (by decide +kernel) ?_
  refine l_iadd C (z := ((i + 3 : Nat) : Int)) (ad7 ⟨hi, hL9⟩ 3 (by decide)) (by decide +kernel) ?_
  refine l_iald C (i + 3) (by omega) (by decide +kernel) ?_
  refine l_ld0 C (by decide +kernel) ?_
  refine l_i3 C (by decide +kernel) ?_
  refine l_iconst C 4 (by decide +kernel) ?_
  refine l_iadd C (z := ((i + 4 : Nat) : Int)) (ad7 ⟨hi, hL9⟩ 4 (by decide)) (by decide +kernel) ?_
  refine l_iald C (i + 4) (by omega) (by decide +kernel) ?_
  refine l_bool C XI_c (off := 7) (off2 := 4) (tgt := 766) (tgt2 := 767) (by decide +kernel) (by decide +kernel) (by decide +kernel) (by decide +kernel) (by decide) (by decide) (by decide) ?_
  refine l_ld0 C (by decide +kernel) ?_
  refine l_i3 C (by decide +kernel) ?_
  refine l_iconst C 5 (by decide +kernel) ?_
  refine l_iadd C (z := ((i + 5 : Nat) : Int)) (ad7 ⟨hi, hL9⟩ 5 (by decide)) (by decide +kernel) ?_
  refine l_iald C (i + 5) (by omega) (by decide +kernel) ?_
  refine l_callA C mw_PB_pay [(0, XI xs (i + 1)), (0, XI xs (i + 2)), (0, XI xs (i + 3)), (0, (if XI xs (i + 4) = 0 then 0 else 1)), (0, XI xs (i + 5))] (ok_PB_pay (XI xs (i + 1)) (XI xs (i + 2)) (XI xs (i + 3)) ((if XI xs (i + 4) = 0 then 0 else 1)) (XI xs (i + 5)) dA XI_c XI_c XI_c (cb_if _) XI_c hA2) (tgC (by decide) (tgC (by decide) (tgC (by decide) (tgC (by decide) (tgC (by decide) tgN))))) (tgC (by decide) tgN) (ix := 59) lk_675 lk_676 lk_677 ⟨rfl, rfl, Nat.le_of_ble_eq_true rfl, Nat.le_of_ble_eq_true rfl⟩ rfl (st := []) rfl (show 0 ≤ 8 by decide) ⟨Nat.le_trans (by omega) rm_c, Nat.le_trans (by omega) rm_s⟩ (by decide +kernel) (fun _ => ?_)
  refine l_ld2 C (by decide +kernel) ?_
  refine l_ld0 C (by decide +kernel) ?_
  refine l_i3 C (by decide +kernel) ?_
  refine l_iconst C 1 (by decide +kernel) ?_
  refine l_iadd C (z := ((i + 1 : Nat) : Int)) (ad7 ⟨hi, hL9⟩ 1 (by decide)) (by decide +kernel) ?_
  refine l_iald C (i + 1) (by omega) (by decide +kernel) ?_
  refine l_ld0 C (by decide +kernel) ?_
  refine l_i3 C (by decide +kernel) ?_
  refine l_iconst C 2 (by decide +kernel) ?_
  refine l_iadd C (z := ((i + 2 : Nat) : Int)) (ad7 ⟨hi, hL9⟩ 2 (by decide)) (by decide +kernel) ?_
  refine l_iald C (i + 2) (by omega) (by decide +kernel) ?_
  refine l_ld0 C (by decide +kernel) ?_
  refine l_i3 C (by decide +kernel) ?_
  refine l_iconst C 3 (by decide +kernel) ?_
  refine l_iadd C (z := ((i + 3 : Nat) : Int)) (ad7 ⟨hi, hL9⟩ 3 (by decide)) (by decide +kernel) ?_
  refine l_iald C (i + 3) (by omega) (by decide +kernel) ?_
  refine l_ld0 C (by decide +kernel) ?_
  refine l_i3 C (by decide +kernel) ?_
  refine l_iconst C 4 (by decide +kernel) ?_
  refine l_iadd C (z := ((i + 4 : Nat) : Int)) (ad7 ⟨hi, hL9⟩ 4 (by decide)) (by decide +kernel) ?_
  refine l_iald C (i + 4) (by omega) (by decide +kernel) ?_
  refine l_bool C XI_c (off := 7) (off2 := 4) (tgt := 803) (tgt2 := 804) (by decide +kernel) (by decide +kernel) (by decide +kernel) (by decide +kernel) (by decide) (by decide) (by decide) ?_
  refine l_ld0 C (by decide +kernel) ?_
  refine l_i3 C (by decide +kernel) ?_
  refine l_iconst C 5 (by decide +kernel) ?_
  refine l_iadd C (z := ((i + 5 : Nat) : Int)) (ad7 ⟨hi, hL9⟩ 5 (by decide)) (by decide +kernel) ?_
  refine l_iald C (i + 5) (by omega) (by decide +kernel) ?_
  refine l_callB C mw_Mo_pay [(0, XI xs (i + 1)), (0, XI xs (i + 2)), (0, XI xs (i + 3)), (0, (if XI xs (i + 4) = 0 then 0 else 1)), (0, XI xs (i + 5))] (ok_Mo_pay (XI xs (i + 1)) (XI xs (i + 2)) (XI xs (i + 3)) ((if XI xs (i + 4) = 0 then 0 else 1)) (XI xs (i + 5)) dB XI_c XI_c XI_c (cb_if _) XI_c hB2) (tgC (by decide) (tgC (by decide) (tgC (by decide) (tgC (by decide) (tgC (by decide) tgN))))) (tgC (by decide) tgN) (ix := 63) lk_1826 lk_1827 lk_1828 ⟨rfl, rfl, Nat.le_of_ble_eq_true rfl, Nat.le_of_ble_eq_true rfl⟩ rfl (st := [(0, r)]) rfl (show (1 + 0) ≤ 8 by decide) ⟨Nat.le_trans (by omega) rm_c, Nat.le_trans (by omega) rm_s⟩ (by decide +kernel) (fun _ => ?_)
  refine l_icmpeq C (off := 1410) (tgt := 2222) (by decide +kernel) (by decide) ?_
  refine l_widen (k := cells + 7) (n := slots + 710) (by omega) (by omega) ?_
  exact kk dA2 dB2 hR2
set_option maxHeartbeats 8000000 in
set_option maxRecDepth 100000 in
theorem case_10 (C : LC p s m meth c b L xs D cA st0) {Rel : Dt → Dt → Prop} (hsim : Sim_asof Rel) (hi : i + 6 < L) (hc : cells + 7 ≤ 600000 ∧ slots + 710 ≤ 7302250) (hCA : CN 0 dA) (hCB : CN 1 dB) (hRel : Rel dA dB) (kk : ∀ dA' dB', Rel dA' dB' → GL p l e s m below meth c b D cA st0 (cells + 7) (slots + 710) 2222 i [] dA' dB') : GL p l e s m below meth c b D cA st0 cells slots 817 i [] dA dB := by
  have hL9 := C.2.2.2.2.2.2.2.2.2.2.1
  obtain ⟨r, dA2, dB2, hA2, hB2, hR2⟩ := hsim (XI xs (i + 1)) dA dB XI_c hCA hCB hRel
  refine l_ld1 C (by decide +kernel) ?_
  refine l_ld0 C (by decide +kernel) ?_
  refine l_i3 C (by decide +kernel) ?_
  refine l_iconst C 1 (by decide +kernel) ?_
  refine l_iadd C (z := ((i + 1 : Nat) : Int)) (ad7 ⟨hi, hL9⟩ 1 (by decide)) (by decide +kernel) ?_
  refine l_iald C (i + 1) (by omega) (by decide +kernel) ?_
  refine l_callA C mw_PB_asof [(0, XI xs (i + 1))] (ok_PB_asof (XI xs (i + 1)) dA XI_c hA2) (tgC (by decide) tgN) (tgC (by decide) tgN) (ix := 64) lk_687 lk_688 lk_689 ⟨rfl, rfl, Nat.le_of_ble_eq_true rfl, Nat.le_of_ble_eq_true rfl⟩ rfl (st := []) rfl (show 0 ≤ 8 by decide) ⟨Nat.le_trans (by omega) rm_c, Nat.le_trans (by omega) rm_s⟩ (by decide +kernel) (fun _ => ?_)
  refine l_ld2 C (by decide +kernel) ?_
  refine l_ld0 C (by decide +kernel) ?_
  refine l_i3 C (by decide +kernel) ?_
  refine l_iconst C 1 (by decide +kernel) ?_
  refine l_iadd C (z := ((i + 1 : Nat) : Int)) (ad7 ⟨hi, hL9⟩ 1 (by decide)) (by decide +kernel) ?_
  refine l_iald C (i + 1) (by omega) (by decide +kernel) ?_
  refine l_callB C mw_Mo_asof [(0, XI xs (i + 1))] (ok_Mo_asof (XI xs (i + 1)) dB XI_c hB2) (tgC (by decide) tgN) (tgC (by decide) tgN) (ix := 68) lk_1830 lk_1831 lk_1832 ⟨rfl, rfl, Nat.le_of_ble_eq_true rfl, Nat.le_of_ble_eq_true rfl⟩ rfl (st := [(0, r)]) rfl (show (1 + 0) ≤ 8 by decide) ⟨Nat.le_trans (by omega) rm_c, Nat.le_trans (by omega) rm_s⟩ (by decide +kernel) (fun _ => ?_)
  refine l_icmpeq C (off := 1387) (tgt := 2222) (by decide +kernel) (by decide) ?_
  refine l_widen (k := cells + 7) (n := slots + 710) (by omega) (by omega) ?_
  exact kk dA2 dB2 hR2
set_option maxHeartbeats 8000000 in
set_option maxRecDepth 100000 in
theorem case_11 (C : LC p s m meth c b L xs D cA st0) {Rel : Dt → Dt → Prop} (hsim : Sim_fact Rel) (hi : i + 6 < L) (hc : cells + 7 ≤ 600000 ∧ slots + 710 ≤ 7302250) (hCA : CN 0 dA) (hCB : CN 1 dB) (hRel : Rel dA dB) (kk : ∀ dA' dB', Rel dA' dB' → GL p l e s m below meth c b D cA st0 (cells + 7) (slots + 710) 2222 i [] dA' dB') : GL p l e s m below meth c b D cA st0 cells slots 840 i [] dA dB := by
  have hL9 := C.2.2.2.2.2.2.2.2.2.2.1
  obtain ⟨r, dA2, dB2, hA2, hB2, hR2⟩ := hsim (XI xs (i + 1)) (XI xs (i + 2)) (XI xs (i + 3)) (XI xs (i + 4)) dA dB XI_c XI_c XI_c XI_c hCA hCB hRel
  refine l_ld1 C (by decide +kernel) ?_
  refine l_ld0 C (by decide +kernel) ?_
  refine l_i3 C (by decide +kernel) ?_
  refine l_iconst C 1 (by decide +kernel) ?_
  refine l_iadd C (z := ((i + 1 : Nat) : Int)) (ad7 ⟨hi, hL9⟩ 1 (by decide)) (by decide +kernel) ?_
  refine l_iald C (i + 1) (by omega) (by decide +kernel) ?_
  refine l_ld0 C (by decide +kernel) ?_
  refine l_i3 C (by decide +kernel) ?_
  refine l_iconst C 2 (by decide +kernel) ?_
  refine l_iadd C (z := ((i + 2 : Nat) : Int)) (ad7 ⟨hi, hL9⟩ 2 (by decide)) (by decide +kernel) ?_
  refine l_iald C (i + 2) (by omega) (by decide +kernel) ?_
  refine l_ld0 C (by decide +kernel) ?_
  refine l_i3 C (by decide +kernel) ?_
  refine l_iconst C 3 (by decide +kernel) ?_
  refine l_iadd C (z := ((i + 3 : Nat) : Int)) (ad7 ⟨hi, hL9⟩ 3 (by decide)) (by decide +kernel) ?_
  refine l_iald C (i + 3) (by omega) (by decide +kernel) ?_
  refine l_ld0 C (by decide +kernel) ?_
  refine l_i3 C (by decide +kernel) ?_
  refine l_iconst C 4 (by decide +kernel) ?_
  refine l_iadd C (z := ((i + 4 : Nat) : Int)) (ad7 ⟨hi, hL9⟩ 4 (by decide)) (by decide +kernel) ?_
  refine l_iald C (i + 4) (by omega) (by decide +kernel) ?_
  refine l_callA C mw_PB_fact [(0, XI xs (i + 1)), (0, XI xs (i + 2)), (0, XI xs (i + 3)), (0, XI xs (i + 4))] (ok_PB_fact (XI xs (i + 1)) (XI xs (i + 2)) (XI xs (i + 3)) (XI xs (i + 4)) dA XI_c XI_c XI_c XI_c hA2) (tgC (by decide) (tgC (by decide) (tgC (by decide) (tgC (by decide) tgN)))) (tgC (by decide) tgN) (ix := 69) lk_695 lk_696 lk_697 ⟨rfl, rfl, Nat.le_of_ble_eq_true rfl, Nat.le_of_ble_eq_true rfl⟩ rfl (st := []) rfl (show 0 ≤ 8 by decide) ⟨Nat.le_trans (by omega) rm_c, Nat.le_trans (by omega) rm_s⟩ (by decide +kernel) (fun _ => ?_)
  refine l_ld2 C (by decide +kernel) ?_
  refine l_ld0 C (by decide +kernel) ?_
  refine l_i3 C (by decide +kernel) ?_
  refine l_iconst C 1 (by decide +kernel) ?_
  refine l_iadd C (z := ((i + 1 : Nat) : Int)) (ad7 ⟨hi, hL9⟩ 1 (by decide)) (by decide +kernel) ?_
  refine l_iald C (i + 1) (by omega) (by decide +kernel) ?_
  refine l_ld0 C (by decide +kernel) ?_
  refine l_i3 C (by decide +kernel) ?_
  refine l_iconst C 2 (by decide +kernel) ?_
  refine l_iadd C (z := ((i + 2 : Nat) : Int)) (ad7 ⟨hi, hL9⟩ 2 (by decide)) (by decide +kernel) ?_
  refine l_iald C (i + 2) (by omega) (by decide +kernel) ?_
  refine l_ld0 C (by decide +kernel) ?_
  refine l_i3 C (by decide +kernel) ?_
  refine l_iconst C 3 (by decide +kernel) ?_
  refine l_iadd C (z := ((i + 3 : Nat) : Int)) (ad7 ⟨hi, hL9⟩ 3 (by decide)) (by decide +kernel) ?_
  refine l_iald C (i + 3) (by omega) (by decide +kernel) ?_
  refine l_ld0 C (by decide +kernel) ?_
  refine l_i3 C (by decide +kernel) ?_
  refine l_iconst C 4 (by decide +kernel) ?_
  refine l_iadd C (z := ((i + 4 : Nat) : Int)) (ad7 ⟨hi, hL9⟩ 4 (by decide)) (by decide +kernel) ?_
  refine l_iald C (i + 4) (by omega) (by decide +kernel) ?_
  refine l_callB C mw_Mo_fact [(0, XI xs (i + 1)), (0, XI xs (i + 2)), (0, XI xs (i + 3)), (0, XI xs (i + 4))] (ok_Mo_fact (XI xs (i + 1)) (XI xs (i + 2)) (XI xs (i + 3)) (XI xs (i + 4)) dB XI_c XI_c XI_c XI_c hB2) (tgC (by decide) (tgC (by decide) (tgC (by decide) (tgC (by decide) tgN)))) (tgC (by decide) tgN) (ix := 73) lk_1834 lk_1835 lk_1836 ⟨rfl, rfl, Nat.le_of_ble_eq_true rfl, Nat.le_of_ble_eq_true rfl⟩ rfl (st := [(0, r)]) rfl (show (1 + 0) ≤ 8 by decide) ⟨Nat.le_trans (by omega) rm_c, Nat.le_trans (by omega) rm_s⟩ (by decide +kernel) (fun _ => ?_)
  refine l_icmpeq C (off := 1334) (tgt := 2222) (by decide +kernel) (by decide) ?_
  refine l_widen (k := cells + 7) (n := slots + 710) (by omega) (by omega) ?_
  exact kk dA2 dB2 hR2
set_option maxHeartbeats 8000000 in
set_option maxRecDepth 100000 in
theorem case_12 (C : LC p s m meth c b L xs D cA st0) {Rel : Dt → Dt → Prop} (hsim : Sim_feed Rel) (hi : i + 6 < L) (hc : cells + 7 ≤ 600000 ∧ slots + 710 ≤ 7302250) (hCA : CN 0 dA) (hCB : CN 1 dB) (hRel : Rel dA dB) (kk : ∀ dA' dB', Rel dA' dB' → GL p l e s m below meth c b D cA st0 (cells + 7) (slots + 710) 2222 i [] dA' dB') : GL p l e s m below meth c b D cA st0 cells slots 893 i [] dA dB := by
  have hL9 := C.2.2.2.2.2.2.2.2.2.2.1
  obtain ⟨r, dA2, dB2, hA2, hB2, hR2⟩ := hsim (XI xs (i + 1)) (XI xs (i + 2)) (XI xs (i + 3)) (XI xs (i + 4)) (XI xs (i + 5)) dA dB XI_c XI_c XI_c XI_c XI_c hCA hCB hRel
  refine l_ld1 C (by decide +kernel) ?_
  refine l_ld0 C (by decide +kernel) ?_
  refine l_i3 C (by decide +kernel) ?_
  refine l_iconst C 1 (by decide +kernel) ?_
  refine l_iadd C (z := ((i + 1 : Nat) : Int)) (ad7 ⟨hi, hL9⟩ 1 (by decide)) (by decide +kernel) ?_
  refine l_iald C (i + 1) (by omega) (by decide +kernel) ?_
  refine l_ld0 C (by decide +kernel) ?_
  refine l_i3 C (by decide +kernel) ?_
  refine l_iconst C 2 (by decide +kernel) ?_
  refine l_iadd C (z := ((i + 2 : Nat) : Int)) (ad7 ⟨hi, hL9⟩ 2 (by decide)) (by decide +kernel) ?_
  refine l_iald C (i + 2) (by omega) (by decide +kernel) ?_
  refine l_ld0 C (by decide +kernel) ?_
  refine l_i3 C (by decide +kernel) ?_
  refine l_iconst C 3 (by decide +kernel) ?_
  refine l_iadd C (z := ((i + 3 : Nat) : Int)) (ad7 ⟨hi, hL9⟩ 3 (by decide)) (by decide +kernel) ?_
  refine l_iald C (i + 3) (by omega) (by decide +kernel) ?_
  refine l_ld0 C (by decide +kernel) ?_
  refine l_i3 C (by decide +kernel) ?_
  refine l_iconst C 4 (by decide +kernel) ?_
  refine l_iadd C (z := ((i + 4 : Nat) : Int)) (ad7 ⟨hi, hL9⟩ 4 (by decide)) (by decide +kernel) ?_
  refine l_iald C (i + 4) (by omega) (by decide +kernel) ?_
  refine l_ld0 C (by decide +kernel) ?_
  refine l_i3 C (by decide +kernel) ?_
  refine l_iconst C 5 (by decide +kernel) ?_
  refine l_iadd C (z := ((i + 5 : Nat) : Int)) (ad7 ⟨hi, hL9⟩ 5 (by decide)) (by decide +kernel) ?_
  refine l_iald C (i + 5) (by omega) (by decide +kernel) ?_
  refine l_callA C mw_PB_feed [(0, XI xs (i + 1)), (0, XI xs (i + 2)), (0, XI xs (i + 3)), (0, XI xs (i + 4)), (0, XI xs (i + 5))] (ok_PB_feed (XI xs (i + 1)) (XI xs (i + 2)) (XI xs (i + 3)) (XI xs (i + 4)) (XI xs (i + 5)) dA XI_c XI_c XI_c XI_c XI_c hA2) (tgC (by decide) (tgC (by decide) (tgC (by decide) (tgC (by decide) (tgC (by decide) tgN))))) (tgC (by decide) tgN) (ix := 74) lk_722 lk_723 lk_724 ⟨rfl, rfl, Nat.le_of_ble_eq_true rfl, Nat.le_of_ble_eq_true rfl⟩ rfl (st := []) rfl (show 0 ≤ 8 by decide) ⟨Nat.le_trans (by omega) rm_c, Nat.le_trans (by omega) rm_s⟩ (by decide +kernel) (fun _ => ?_)
  refine l_ld2 C (by decide +kernel) ?_
  refine l_ld0 C (by decide +kernel) ?_
  refine l_i3 C (by decide +kernel) ?_
  refine l_iconst C 1 (by decide +kernel) ?_
  refine l_iadd C (z := ((i + 1 : Nat) : Int)) (ad7 ⟨hi, hL9⟩ 1 (by decide)) (by decide +kernel) ?_
  refine l_iald C (i + 1) (by omega) (by decide +kernel) ?_
  refine l_ld0 C (by decide +kernel) ?_
  refine l_i3 C (by decide +kernel) ?_
  refine l_iconst C 2 (by decide +kernel) ?_
  refine l_iadd C (z := ((i + 2 : Nat) : Int)) (ad7 ⟨hi, hL9⟩ 2 (by decide)) (by decide +kernel) ?_
  refine l_iald C (i + 2) (by omega) (by decide +kernel) ?_
  refine l_ld0 C (by decide +kernel) ?_
  refine l_i3 C (by decide +kernel) ?_
  refine l_iconst C 3 (by decide +kernel) ?_
  refine l_iadd C (z := ((i + 3 : Nat) : Int)) (ad7 ⟨hi, hL9⟩ 3 (by decide)) (by decide +kernel) ?_
  refine l_iald C (i + 3) (by omega) (by decide +kernel) ?_
  refine l_ld0 C (by decide +kernel) ?_
  refine l_i3 C (by decide +kernel) ?_
  refine l_iconst C 4 (by decide +kernel) ?_
  refine l_iadd C (z := ((i + 4 : Nat) : Int)) (ad7 ⟨hi, hL9⟩ 4 (by decide)) (by decide +kernel) ?_
  refine l_iald C (i + 4) (by omega) (by decide +kernel) ?_
  refine l_ld0 C (by decide +kernel) ?_
  refine l_i3 C (by decide +kernel) ?_
  refine l_iconst C 5 (by decide +kernel) ?_
  refine l_iadd C (z := ((i + 5 : Nat) : Int)) (ad7 ⟨hi, hL9⟩ 5 (by decide)) (by decide +kernel) ?_
  refine l_iald C (i + 5) (by omega) (by decide +kernel) ?_
  refine l_callB C mw_Mo_feed [(0, XI xs (i + 1)), (0, XI xs (i + 2)), (0, XI xs (i + 3)), (0, XI xs (i + 4)), (0, XI xs (i + 5))] (ok_Mo_feed (XI xs (i + 1)) (XI xs (i + 2)) (XI xs (i + 3)) (XI xs (i + 4)) (XI xs (i + 5)) dB XI_c XI_c XI_c XI_c XI_c hB2) (tgC (by decide) (tgC (by decide) (tgC (by decide) (tgC (by decide) (tgC (by decide) tgN))))) (tgC (by decide) tgN) (ix := 78) lk_1849 lk_1850 lk_1851 ⟨rfl, rfl, Nat.le_of_ble_eq_true rfl, Nat.le_of_ble_eq_true rfl⟩ rfl (st := [(0, r)]) rfl (show (1 + 0) ≤ 8 by decide) ⟨Nat.le_trans (by omega) rm_c, Nat.le_trans (by omega) rm_s⟩ (by decide +kernel) (fun _ => ?_)
  refine l_icmpeq C (off := 1271) (tgt := 2222) (by decide +kernel) (by decide) ?_
  refine l_widen (k := cells + 7) (n := slots + 710) (by omega) (by omega) ?_
  exact kk dA2 dB2 hR2
set_option maxHeartbeats 8000000 in
set_option maxRecDepth 100000 in
theorem case_13 (C : LC p s m meth c b L xs D cA st0) {Rel : Dt → Dt → Prop} (hsim : Sim_text Rel) (hi : i + 6 < L) (hc : cells + 7 ≤ 600000 ∧ slots + 710 ≤ 7302250) (hCA : CN 0 dA) (hCB : CN 1 dB) (hRel : Rel dA dB) (kk : ∀ dA' dB', Rel dA' dB' → GL p l e s m below meth c b D cA st0 (cells + 7) (slots + 710) 2222 i [] dA' dB') : GL p l e s m below meth c b D cA st0 cells slots 956 i [] dA dB := by
  have hL9 := C.2.2.2.2.2.2.2.2.2.2.1
  obtain ⟨r, dA2, dB2, hA2, hB2, hR2⟩ := hsim (XI xs (i + 1)) (XI xs (i + 2)) (XI xs (i + 3)) dA dB XI_c XI_c XI_c hCA hCB hRel
  refine l_ld1 C (by decide +kernel) ?_
  refine l_ld0 C (by decide +kernel) ?_
  refine l_i3 C (by decide +kernel) ?_
  refine l_iconst C 1 (by decide +kernel) ?_
  refine l_iadd C (z := ((i + 1 : Nat) : Int)) (ad7 ⟨hi, hL9⟩ 1 (by decide)) (by decide +kernel) ?_
  refine l_iald C (i + 1) (by omega) (by decide +kernel) ?_
  refine l_ld0 C (by decide +kernel) ?_
  refine l_i3 C (by decide +kernel) ?_
  refine l_iconst C 2 (by decide +kernel) ?_
  refine l_iadd C (z := ((i + 2 : Nat) : Int)) (ad7 ⟨hi, hL9⟩ 2 (by decide)) (by decide +kernel) ?_
  refine l_iald C (i + 2) (by omega) (by decide +kernel) ?_
  refine l_ld0 C (by decide +kernel) ?_
  refine l_i3 C (by decide +kernel) ?_
  refine l_iconst C 3 (by decide +kernel) ?_
  refine l_iadd C (z := ((i + 3 : Nat) : Int)) (ad7 ⟨hi, hL9⟩ 3 (by decide)) (by decide +kernel) ?_
  refine l_iald C (i + 3) (by omega) (by decide +kernel) ?_
  refine l_callT C mw_PB_text [(0, XI xs (i + 1)), (0, XI xs (i + 2)), (0, XI xs (i + 3))] (ok_PB_text (XI xs (i + 1)) (XI xs (i + 2)) (XI xs (i + 3)) dA XI_c XI_c XI_c hA2) (tgC (by decide) (tgC (by decide) (tgC (by decide) tgN))) (tgC (by decide) tgN) (ix := 79) lk_738 lk_739 lk_740 ⟨rfl, rfl, Nat.le_of_ble_eq_true rfl, Nat.le_of_ble_eq_true rfl⟩ rfl (st := []) rfl (show 0 ≤ 8 by decide) ⟨Nat.le_trans (by omega) rm_c, Nat.le_trans (by omega) rm_s⟩ (by decide +kernel) (fun _ => ?_)
  refine l_ld2 C (by decide +kernel) ?_
  refine l_ld0 C (by decide +kernel) ?_
  refine l_i3 C (by decide +kernel) ?_
  refine l_iconst C 1 (by decide +kernel) ?_
  refine l_iadd C (z := ((i + 1 : Nat) : Int)) (ad7 ⟨hi, hL9⟩ 1 (by decide)) (by decide +kernel) ?_
  refine l_iald C (i + 1) (by omega) (by decide +kernel) ?_
  refine l_ld0 C (by decide +kernel) ?_
  refine l_i3 C (by decide +kernel) ?_
  refine l_iconst C 2 (by decide +kernel) ?_
  refine l_iadd C (z := ((i + 2 : Nat) : Int)) (ad7 ⟨hi, hL9⟩ 2 (by decide)) (by decide +kernel) ?_
  refine l_iald C (i + 2) (by omega) (by decide +kernel) ?_
  refine l_ld0 C (by decide +kernel) ?_
  refine l_i3 C (by decide +kernel) ?_
  refine l_iconst C 3 (by decide +kernel) ?_
  refine l_iadd C (z := ((i + 3 : Nat) : Int)) (ad7 ⟨hi, hL9⟩ 3 (by decide)) (by decide +kernel) ?_
  refine l_iald C (i + 3) (by omega) (by decide +kernel) ?_
  refine l_callB C mw_Mo_text [(0, XI xs (i + 1)), (0, XI xs (i + 2)), (0, XI xs (i + 3))] (ok_Mo_text (XI xs (i + 1)) (XI xs (i + 2)) (XI xs (i + 3)) dB XI_c XI_c XI_c hB2) (tgC (by decide) (tgC (by decide) (tgC (by decide) tgN))) (tgC (by decide) tgN) (ix := 83) lk_1857 lk_1858 lk_1859 ⟨rfl, rfl, Nat.le_of_ble_eq_true rfl, Nat.le_of_ble_eq_true rfl⟩ rfl (st := [(0, r)]) rfl (show (1 + 0) ≤ 8 by decide) ⟨Nat.le_trans (by omega) rm_c, Nat.le_trans (by omega) rm_s⟩ (by decide +kernel) (fun _ => ?_)
  refine l_icmpeq C (off := 1228) (tgt := 2222) (by decide +kernel) (by decide) ?_
  exact kk dA2 dB2 hR2
set_option maxHeartbeats 8000000 in
set_option maxRecDepth 100000 in
theorem case_14 (C : LC p s m meth c b L xs D cA st0) {Rel : Dt → Dt → Prop} (hsim : Sim_fault Rel) (hi : i + 6 < L) (hc : cells + 7 ≤ 600000 ∧ slots + 710 ≤ 7302250) (hCA : CN 0 dA) (hCB : CN 1 dB) (hRel : Rel dA dB) (kk : ∀ dA' dB', Rel dA' dB' → GL p l e s m below meth c b D cA st0 (cells + 7) (slots + 710) 2222 i [] dA' dB') : GL p l e s m below meth c b D cA st0 cells slots 999 i [] dA dB := by
  have hL9 := C.2.2.2.2.2.2.2.2.2.2.1
  obtain ⟨r, dA2, dB2, hA2, hB2, hR2⟩ := hsim (XI xs (i + 1)) dA dB XI_c hCA hCB hRel
  refine l_ld1 C (by decide +kernel) ?_
  refine l_ld0 C (by decide +kernel) ?_
  refine l_i3 C (by decide +kernel) ?_
  refine l_iconst C 1 (by decide +kernel) ?_
  refine l_iadd C (z := ((i + 1 : Nat) : Int)) (ad7 ⟨hi, hL9⟩ 1 (by decide)) (by decide +kernel) ?_
  refine l_iald C (i + 1) (by omega) (by decide +kernel) ?_
  refine l_callA C mw_PB_fault [(0, XI xs (i + 1))] (ok_PB_fault (XI xs (i + 1)) dA XI_c hA2) (tgC (by decide) tgN) (tgC (by decide) tgN) (ix := 84) lk_862 lk_863 lk_864 ⟨rfl, rfl, Nat.le_of_ble_eq_true rfl, Nat.le_of_ble_eq_true rfl⟩ rfl (st := []) rfl (show 0 ≤ 8 by decide) ⟨Nat.le_trans (by omega) rm_c, Nat.le_trans (by omega) rm_s⟩ (by decide +kernel) (fun _ => ?_)
  refine l_ld2 C (by decide +kernel) ?_
  refine l_ld0 C (by decide +kernel) ?_
  refine l_i3 C (by decide +kernel) ?_
  refine l_iconst C 1 (by decide +kernel) ?_
  refine l_iadd C (z := ((i + 1 : Nat) : Int)) (ad7 ⟨hi, hL9⟩ 1 (by decide)) (by decide +kernel) ?_
  refine l_iald C (i + 1) (by omega) (by decide +kernel) ?_
  refine l_callB C mw_Mo_fault [(0, XI xs (i + 1))] (ok_Mo_fault (XI xs (i + 1)) dB XI_c hB2) (tgC (by decide) tgN) (tgC (by decide) tgN) (ix := 88) lk_1986 lk_1987 lk_1988 ⟨rfl, rfl, Nat.le_of_ble_eq_true rfl, Nat.le_of_ble_eq_true rfl⟩ rfl (st := [(0, r)]) rfl (show (1 + 0) ≤ 8 by decide) ⟨Nat.le_trans (by omega) rm_c, Nat.le_trans (by omega) rm_s⟩ (by decide +kernel) (fun _ => ?_)
  refine l_icmpeq C (off := 1205) (tgt := 2222) (by decide +kernel) (by decide) ?_
  refine l_widen (k := cells + 7) (n := slots + 710) (by omega) (by omega) ?_
  exact kk dA2 dB2 hR2
end CASES
