theorem ini_RL : Cond.initialized RL ∈ TB := TB_in (List.mem_of_getElem? (i := 88) (by decide +kernel)) (by decide +kernel)
theorem ini_RX5 : Cond.initialized RX5 ∈ TB := TB_in (List.mem_of_getElem? (i := 89) (by decide +kernel)) (by decide +kernel)
theorem ini_RX1 : Cond.initialized RX1 ∈ TB := TB_in (List.mem_of_getElem? (i := 90) (by decide +kernel)) (by decide +kernel)
theorem ini_RJ7 : Cond.initialized RJ7 ∈ TB := TB_in (List.mem_of_getElem? (i := 91) (by decide +kernel)) (by decide +kernel)
theorem ini_RX3 : Cond.initialized RX3 ∈ TB := TB_in (List.mem_of_getElem? (i := 92) (by decide +kernel)) (by decide +kernel)
theorem ini_RX0 : Cond.initialized RX0 ∈ TB := TB_in (List.mem_of_getElem? (i := 93) (by decide +kernel)) (by decide +kernel)
theorem ini_RX2 : Cond.initialized RX2 ∈ TB := TB_in (List.mem_of_getElem? (i := 94) (by decide +kernel)) (by decide +kernel)
theorem ini_RX4 : Cond.initialized RX4 ∈ TB := TB_in (List.mem_of_getElem? (i := 95) (by decide +kernel)) (by decide +kernel)
theorem ini_RX6 : Cond.initialized RX6 ∈ TB := TB_in (List.mem_of_getElem? (i := 96) (by decide +kernel)) (by decide +kernel)
theorem ini_RJ0 : Cond.initialized RJ0 ∈ TB := TB_in (List.mem_of_getElem? (i := 101) (by decide +kernel)) (by decide +kernel)
theorem ini_RJ1 : Cond.initialized RJ1 ∈ TB := TB_in (List.mem_of_getElem? (i := 102) (by decide +kernel)) (by decide +kernel)
theorem ini_RJ3 : Cond.initialized RJ3 ∈ TB := TB_in (List.mem_of_getElem? (i := 103) (by decide +kernel)) (by decide +kernel)
theorem ini_RJ2 : Cond.initialized RJ2 ∈ TB := TB_in (List.mem_of_getElem? (i := 104) (by decide +kernel)) (by decide +kernel)
theorem ini_RJ9 : Cond.initialized RJ9 ∈ TB := TB_in (List.mem_of_getElem? (i := 105) (by decide +kernel)) (by decide +kernel)
theorem ini_RJ10 : Cond.initialized RJ10 ∈ TB := TB_in (List.mem_of_getElem? (i := 106) (by decide +kernel)) (by decide +kernel)
theorem ini_RJ6 : Cond.initialized RJ6 ∈ TB := TB_in (List.mem_of_getElem? (i := 109) (by decide +kernel)) (by decide +kernel)
abbrev mX0_init : Mt := (yX0_init, cX0_init, 2, none, [])
theorem mdmX0_init : Md mX0_init 1 := ⟨TB_in (List.mem_of_getElem? (i := 199) (by decide +kernel)) (by decide +kernel), ini_RX0, ⟨by decide +kernel, by decide +kernel, by decide +kernel⟩, rfl, by decide⟩
theorem mimX0_init : MdI mX0_init 1 := ⟨mdmX0_init, TB_in (List.mem_of_getElem? (i := 198) (by decide +kernel)) (by decide +kernel), rfl, rfl⟩
abbrev mX0_learn : Mt := (yX0_learn, cX0_learn, 1, none, [])
theorem mdmX0_learn : Md mX0_learn 0 := ⟨TB_in (List.mem_of_getElem? (i := 352) (by decide +kernel)) (by decide +kernel), ini_RX0, ⟨by decide +kernel, by decide +kernel, by decide +kernel⟩, rfl, by decide⟩
theorem mvmX0_learn : MdV mX0_learn 0 := ⟨mdmX0_learn, TB_in (List.mem_of_getElem? (i := 350) (by decide +kernel)) (by decide +kernel), TB_in (List.mem_of_getElem? (i := 351) (by decide +kernel)) (by decide +kernel)⟩
abbrev mX0_greatestIn : Mt := (yX0_greatestIn, cX0_greatestIn, 2, (some .long), [])
theorem mdmX0_greatestIn : Md mX0_greatestIn 1 := ⟨TB_in (List.mem_of_getElem? (i := 374) (by decide +kernel)) (by decide +kernel), ini_RX0, ⟨by decide +kernel, by decide +kernel, by decide +kernel⟩, rfl, by decide⟩
theorem mvmX0_greatestIn : MdV mX0_greatestIn 1 := ⟨mdmX0_greatestIn, TB_in (List.mem_of_getElem? (i := 373) (by decide +kernel)) (by decide +kernel), TB_in (List.mem_of_getElem? (i := 3) (by decide +kernel)) (by decide +kernel)⟩
abbrev mX0_greatestBelow : Mt := (yX0_greatestBelow, cX0_greatestBelow, 3, (some .long), [])
theorem mdmX0_greatestBelow : Md mX0_greatestBelow 2 := ⟨TB_in (List.mem_of_getElem? (i := 378) (by decide +kernel)) (by decide +kernel), ini_RX0, ⟨by decide +kernel, by decide +kernel, by decide +kernel⟩, rfl, by decide⟩
theorem mvmX0_greatestBelow : MdV mX0_greatestBelow 2 := ⟨mdmX0_greatestBelow, TB_in (List.mem_of_getElem? (i := 377) (by decide +kernel)) (by decide +kernel), TB_in (List.mem_of_getElem? (i := 4) (by decide +kernel)) (by decide +kernel)⟩
abbrev mX0_workOut : Mt := (yX0_workOut, cX0_workOut, 9, (some .long), [])
theorem mdmX0_workOut : Md mX0_workOut 2 := ⟨TB_in (List.mem_of_getElem? (i := 385) (by decide +kernel)) (by decide +kernel), ini_RX0, ⟨by decide +kernel, by decide +kernel, by decide +kernel⟩, rfl, by decide⟩
theorem mvmX0_workOut : MdV mX0_workOut 2 := ⟨mdmX0_workOut, TB_in (List.mem_of_getElem? (i := 384) (by decide +kernel)) (by decide +kernel), TB_in (List.mem_of_getElem? (i := 5) (by decide +kernel)) (by decide +kernel)⟩
abbrev mX0_both : Mt := (yX0_both, cX0_both, 4, (some .long), [])
theorem mdmX0_both : Md mX0_both 2 := ⟨TB_in (List.mem_of_getElem? (i := 392) (by decide +kernel)) (by decide +kernel), ini_RX0, ⟨by decide +kernel, by decide +kernel, by decide +kernel⟩, rfl, by decide⟩
theorem msmX0_both : MdS mX0_both 2 := ⟨mdmX0_both, TB_in (List.mem_of_getElem? (i := 391) (by decide +kernel)) (by decide +kernel)⟩
abbrev mX0_pack : Mt := (yX0_pack, cX0_pack, 4, (some .long), [])
theorem mdmX0_pack : Md mX0_pack 4 := ⟨TB_in (List.mem_of_getElem? (i := 381) (by decide +kernel)) (by decide +kernel), ini_RX0, ⟨by decide +kernel, by decide +kernel, by decide +kernel⟩, rfl, by decide⟩
theorem msmX0_pack : MdS mX0_pack 4 := ⟨mdmX0_pack, TB_in (List.mem_of_getElem? (i := 380) (by decide +kernel)) (by decide +kernel)⟩
abbrev mX0_sizeIn : Mt := (yX0_sizeIn, cX0_sizeIn, 2, (some .int), [])
theorem mdmX0_sizeIn : Md mX0_sizeIn 1 := ⟨TB_in (List.mem_of_getElem? (i := 395) (by decide +kernel)) (by decide +kernel), ini_RX0, ⟨by decide +kernel, by decide +kernel, by decide +kernel⟩, rfl, by decide⟩
theorem msmX0_sizeIn : MdS mX0_sizeIn 1 := ⟨mdmX0_sizeIn, TB_in (List.mem_of_getElem? (i := 394) (by decide +kernel)) (by decide +kernel)⟩
abbrev mX0_countIn : Mt := (yX0_countIn, cX0_countIn, 2, (some .int), [])
theorem mdmX0_countIn : Md mX0_countIn 1 := ⟨TB_in (List.mem_of_getElem? (i := 399) (by decide +kernel)) (by decide +kernel), ini_RX0, ⟨by decide +kernel, by decide +kernel, by decide +kernel⟩, rfl, by decide⟩
theorem msmX0_countIn : MdS mX0_countIn 1 := ⟨mdmX0_countIn, TB_in (List.mem_of_getElem? (i := 398) (by decide +kernel)) (by decide +kernel)⟩
abbrev mX0_heaviestIn : Mt := (yX0_heaviestIn, cX0_heaviestIn, 2, (some .int), [])
theorem mdmX0_heaviestIn : Md mX0_heaviestIn 1 := ⟨TB_in (List.mem_of_getElem? (i := 402) (by decide +kernel)) (by decide +kernel), ini_RX0, ⟨by decide +kernel, by decide +kernel, by decide +kernel⟩, rfl, by decide⟩
theorem msmX0_heaviestIn : MdS mX0_heaviestIn 1 := ⟨mdmX0_heaviestIn, TB_in (List.mem_of_getElem? (i := 401) (by decide +kernel)) (by decide +kernel)⟩
abbrev mX0_lightestIn : Mt := (yX0_lightestIn, cX0_lightestIn, 2, (some .int), [])
theorem mdmX0_lightestIn : Md mX0_lightestIn 1 := ⟨TB_in (List.mem_of_getElem? (i := 408) (by decide +kernel)) (by decide +kernel), ini_RX0, ⟨by decide +kernel, by decide +kernel, by decide +kernel⟩, rfl, by decide⟩
theorem msmX0_lightestIn : MdS mX0_lightestIn 1 := ⟨mdmX0_lightestIn, TB_in (List.mem_of_getElem? (i := 407) (by decide +kernel)) (by decide +kernel)⟩
abbrev mX0_size : Mt := (yX0_size, cX0_size, 1, (some .int), [])
theorem mdmX0_size : Md mX0_size 0 := ⟨TB_in (List.mem_of_getElem? (i := 859) (by decide +kernel)) (by decide +kernel), ini_RX0, ⟨by decide +kernel, by decide +kernel, by decide +kernel⟩, rfl, by decide⟩
theorem mvmX0_size : MdV mX0_size 0 := ⟨mdmX0_size, TB_in (List.mem_of_getElem? (i := 857) (by decide +kernel)) (by decide +kernel), TB_in (List.mem_of_getElem? (i := 858) (by decide +kernel)) (by decide +kernel)⟩
abbrev mX0_missing : Mt := (yX0_missing, cX0_missing, 1, (some .int), [])
theorem mdmX0_missing : Md mX0_missing 0 := ⟨TB_in (List.mem_of_getElem? (i := 863) (by decide +kernel)) (by decide +kernel), ini_RX0, ⟨by decide +kernel, by decide +kernel, by decide +kernel⟩, rfl, by decide⟩
theorem mvmX0_missing : MdV mX0_missing 0 := ⟨mdmX0_missing, TB_in (List.mem_of_getElem? (i := 861) (by decide +kernel)) (by decide +kernel), TB_in (List.mem_of_getElem? (i := 862) (by decide +kernel)) (by decide +kernel)⟩
abbrev mX0_count : Mt := (yX0_count, cX0_count, 1, (some .int), [])
theorem mdmX0_count : Md mX0_count 0 := ⟨TB_in (List.mem_of_getElem? (i := 447) (by decide +kernel)) (by decide +kernel), ini_RX0, ⟨by decide +kernel, by decide +kernel, by decide +kernel⟩, rfl, by decide⟩
theorem mvmX0_count : MdV mX0_count 0 := ⟨mdmX0_count, TB_in (List.mem_of_getElem? (i := 445) (by decide +kernel)) (by decide +kernel), TB_in (List.mem_of_getElem? (i := 446) (by decide +kernel)) (by decide +kernel)⟩
abbrev mX0_mostWeight : Mt := (yX0_mostWeight, cX0_mostWeight, 1, (some .int), [])
theorem mdmX0_mostWeight : Md mX0_mostWeight 0 := ⟨TB_in (List.mem_of_getElem? (i := 999) (by decide +kernel)) (by decide +kernel), ini_RX0, ⟨by decide +kernel, by decide +kernel, by decide +kernel⟩, rfl, by decide⟩
theorem mvmX0_mostWeight : MdV mX0_mostWeight 0 := ⟨mdmX0_mostWeight, TB_in (List.mem_of_getElem? (i := 997) (by decide +kernel)) (by decide +kernel), TB_in (List.mem_of_getElem? (i := 998) (by decide +kernel)) (by decide +kernel)⟩
abbrev mX0_leastWeight : Mt := (yX0_leastWeight, cX0_leastWeight, 1, (some .int), [])
theorem mdmX0_leastWeight : Md mX0_leastWeight 0 := ⟨TB_in (List.mem_of_getElem? (i := 1003) (by decide +kernel)) (by decide +kernel), ini_RX0, ⟨by decide +kernel, by decide +kernel, by decide +kernel⟩, rfl, by decide⟩
theorem mvmX0_leastWeight : MdV mX0_leastWeight 0 := ⟨mdmX0_leastWeight, TB_in (List.mem_of_getElem? (i := 1001) (by decide +kernel)) (by decide +kernel), TB_in (List.mem_of_getElem? (i := 1002) (by decide +kernel)) (by decide +kernel)⟩
abbrev mX0_someHave : Mt := (yX0_someHave, cX0_someHave, 3, (some .boolean), [])
theorem mdmX0_someHave : Md mX0_someHave 2 := ⟨TB_in (List.mem_of_getElem? (i := 883) (by decide +kernel)) (by decide +kernel), ini_RX0, ⟨by decide +kernel, by decide +kernel, by decide +kernel⟩, rfl, by decide⟩
theorem mvmX0_someHave : MdV mX0_someHave 2 := ⟨mdmX0_someHave, TB_in (List.mem_of_getElem? (i := 881) (by decide +kernel)) (by decide +kernel), TB_in (List.mem_of_getElem? (i := 882) (by decide +kernel)) (by decide +kernel)⟩
abbrev mX0_allHave : Mt := (yX0_allHave, cX0_allHave, 3, (some .boolean), [])
theorem mdmX0_allHave : Md mX0_allHave 2 := ⟨TB_in (List.mem_of_getElem? (i := 891) (by decide +kernel)) (by decide +kernel), ini_RX0, ⟨by decide +kernel, by decide +kernel, by decide +kernel⟩, rfl, by decide⟩
theorem mvmX0_allHave : MdV mX0_allHave 2 := ⟨mdmX0_allHave, TB_in (List.mem_of_getElem? (i := 889) (by decide +kernel)) (by decide +kernel), TB_in (List.mem_of_getElem? (i := 890) (by decide +kernel)) (by decide +kernel)⟩
abbrev mX0_without : Mt := (yX0_without, cX0_without, 3, (some .int), [])
theorem mdmX0_without : Md mX0_without 2 := ⟨TB_in (List.mem_of_getElem? (i := 887) (by decide +kernel)) (by decide +kernel), ini_RX0, ⟨by decide +kernel, by decide +kernel, by decide +kernel⟩, rfl, by decide⟩
theorem mvmX0_without : MdV mX0_without 2 := ⟨mdmX0_without, TB_in (List.mem_of_getElem? (i := 886) (by decide +kernel)) (by decide +kernel), TB_in (List.mem_of_getElem? (i := 38) (by decide +kernel)) (by decide +kernel)⟩
abbrev mX0_bitsOfSet : Mt := (yX0_bitsOfSet, cX0_bitsOfSet, 5, (some .int), [])
theorem mdmX0_bitsOfSet : Md mX0_bitsOfSet 1 := ⟨TB_in (List.mem_of_getElem? (i := 927) (by decide +kernel)) (by decide +kernel), ini_RX0, ⟨by decide +kernel, by decide +kernel, by decide +kernel⟩, rfl, by decide⟩
theorem mvmX0_bitsOfSet : MdV mX0_bitsOfSet 1 := ⟨mdmX0_bitsOfSet, TB_in (List.mem_of_getElem? (i := 925) (by decide +kernel)) (by decide +kernel), TB_in (List.mem_of_getElem? (i := 926) (by decide +kernel)) (by decide +kernel)⟩
abbrev mX0_fillFirst : Mt := (yX0_fillFirst, cX0_fillFirst, 4, none, [])
theorem mdmX0_fillFirst : Md mX0_fillFirst 0 := ⟨TB_in (List.mem_of_getElem? (i := 359) (by decide +kernel)) (by decide +kernel), ini_RX0, ⟨by decide +kernel, by decide +kernel, by decide +kernel⟩, rfl, by decide⟩
theorem mvmX0_fillFirst : MdV mX0_fillFirst 0 := ⟨mdmX0_fillFirst, TB_in (List.mem_of_getElem? (i := 357) (by decide +kernel)) (by decide +kernel), TB_in (List.mem_of_getElem? (i := 358) (by decide +kernel)) (by decide +kernel)⟩
abbrev mX0_firstMate : Mt := (yX0_firstMate, cX0_firstMate, 4, (some .int), [])
theorem mdmX0_firstMate : Md mX0_firstMate 2 := ⟨TB_in (List.mem_of_getElem? (i := 369) (by decide +kernel)) (by decide +kernel), ini_RX0, ⟨by decide +kernel, by decide +kernel, by decide +kernel⟩, rfl, by decide⟩
theorem mvmX0_firstMate : MdV mX0_firstMate 2 := ⟨mdmX0_firstMate, TB_in (List.mem_of_getElem? (i := 368) (by decide +kernel)) (by decide +kernel), TB_in (List.mem_of_getElem? (i := 2) (by decide +kernel)) (by decide +kernel)⟩
abbrev mX1_init : Mt := (yX1_init, cX1_init, 1, none, [])
theorem mdmX1_init : Md mX1_init 0 := ⟨TB_in (List.mem_of_getElem? (i := 122) (by decide +kernel)) (by decide +kernel), ini_RX1, ⟨by decide +kernel, by decide +kernel, by decide +kernel⟩, rfl, by decide⟩
theorem mimX1_init : MdI mX1_init 0 := ⟨mdmX1_init, TB_in (List.mem_of_getElem? (i := 121) (by decide +kernel)) (by decide +kernel), rfl, rfl⟩
abbrev mX1_clear : Mt := (yX1_clear, cX1_clear, 2, none, [])
theorem mdmX1_clear : Md mX1_clear 1 := ⟨TB_in (List.mem_of_getElem? (i := 127) (by decide +kernel)) (by decide +kernel), ini_RX1, ⟨by decide +kernel, by decide +kernel, by decide +kernel⟩, rfl, by decide⟩
theorem mvmX1_clear : MdV mX1_clear 1 := ⟨mdmX1_clear, TB_in (List.mem_of_getElem? (i := 125) (by decide +kernel)) (by decide +kernel), TB_in (List.mem_of_getElem? (i := 126) (by decide +kernel)) (by decide +kernel)⟩
abbrev mX1_copyFrom : Mt := (yX1_copyFrom, cX1_copyFrom, 2, none, [])
theorem mdmX1_copyFrom : Md mX1_copyFrom 1 := ⟨TB_in (List.mem_of_getElem? (i := 427) (by decide +kernel)) (by decide +kernel), ini_RX1, ⟨by decide +kernel, by decide +kernel, by decide +kernel⟩, rfl, by decide⟩
theorem mvmX1_copyFrom : MdV mX1_copyFrom 1 := ⟨mdmX1_copyFrom, TB_in (List.mem_of_getElem? (i := 425) (by decide +kernel)) (by decide +kernel), TB_in (List.mem_of_getElem? (i := 426) (by decide +kernel)) (by decide +kernel)⟩
abbrev mX1_all : Mt := (yX1_all, cX1_all, 1, (some .int), [])
theorem mdmX1_all : Md mX1_all 0 := ⟨TB_in (List.mem_of_getElem? (i := 364) (by decide +kernel)) (by decide +kernel), ini_RX1, ⟨by decide +kernel, by decide +kernel, by decide +kernel⟩, rfl, by decide⟩
theorem mvmX1_all : MdV mX1_all 0 := ⟨mdmX1_all, TB_in (List.mem_of_getElem? (i := 362) (by decide +kernel)) (by decide +kernel), TB_in (List.mem_of_getElem? (i := 363) (by decide +kernel)) (by decide +kernel)⟩
abbrev mX1_holds : Mt := (yX1_holds, cX1_holds, 2, (some .boolean), [])
theorem mdmX1_holds : Md mX1_holds 1 := ⟨TB_in (List.mem_of_getElem? (i := 698) (by decide +kernel)) (by decide +kernel), ini_RX1, ⟨by decide +kernel, by decide +kernel, by decide +kernel⟩, rfl, by decide⟩
theorem mvmX1_holds : MdV mX1_holds 1 := ⟨mdmX1_holds, TB_in (List.mem_of_getElem? (i := 696) (by decide +kernel)) (by decide +kernel), TB_in (List.mem_of_getElem? (i := 697) (by decide +kernel)) (by decide +kernel)⟩
abbrev mX1_isLine : Mt := (yX1_isLine, cX1_isLine, 3, (some .boolean), [])
theorem mdmX1_isLine : Md mX1_isLine 2 := ⟨TB_in (List.mem_of_getElem? (i := 284) (by decide +kernel)) (by decide +kernel), ini_RX1, ⟨by decide +kernel, by decide +kernel, by decide +kernel⟩, rfl, by decide⟩
theorem mvmX1_isLine : MdV mX1_isLine 2 := ⟨mdmX1_isLine, TB_in (List.mem_of_getElem? (i := 282) (by decide +kernel)) (by decide +kernel), TB_in (List.mem_of_getElem? (i := 283) (by decide +kernel)) (by decide +kernel)⟩
abbrev mX1_isFree : Mt := (yX1_isFree, cX1_isFree, 2, (some .boolean), [])
theorem mdmX1_isFree : Md mX1_isFree 1 := ⟨TB_in (List.mem_of_getElem? (i := 666) (by decide +kernel)) (by decide +kernel), ini_RX1, ⟨by decide +kernel, by decide +kernel, by decide +kernel⟩, rfl, by decide⟩
theorem mvmX1_isFree : MdV mX1_isFree 1 := ⟨mdmX1_isFree, TB_in (List.mem_of_getElem? (i := 664) (by decide +kernel)) (by decide +kernel), TB_in (List.mem_of_getElem? (i := 665) (by decide +kernel)) (by decide +kernel)⟩
abbrev mX1_weightOf : Mt := (yX1_weightOf, cX1_weightOf, 3, (some .int), [])
theorem mdmX1_weightOf : Md mX1_weightOf 2 := ⟨TB_in (List.mem_of_getElem? (i := 389) (by decide +kernel)) (by decide +kernel), ini_RX1, ⟨by decide +kernel, by decide +kernel, by decide +kernel⟩, rfl, by decide⟩
theorem mvmX1_weightOf : MdV mX1_weightOf 2 := ⟨mdmX1_weightOf, TB_in (List.mem_of_getElem? (i := 387) (by decide +kernel)) (by decide +kernel), TB_in (List.mem_of_getElem? (i := 388) (by decide +kernel)) (by decide +kernel)⟩
abbrev mX1_putLine : Mt := (yX1_putLine, cX1_putLine, 4, none, [])
theorem mdmX1_putLine : Md mX1_putLine 3 := ⟨TB_in (List.mem_of_getElem? (i := 280) (by decide +kernel)) (by decide +kernel), ini_RX1, ⟨by decide +kernel, by decide +kernel, by decide +kernel⟩, rfl, by decide⟩
theorem mvmX1_putLine : MdV mX1_putLine 3 := ⟨mdmX1_putLine, TB_in (List.mem_of_getElem? (i := 278) (by decide +kernel)) (by decide +kernel), TB_in (List.mem_of_getElem? (i := 279) (by decide +kernel)) (by decide +kernel)⟩
abbrev mX1_putLineIfNone : Mt := (yX1_putLineIfNone, cX1_putLineIfNone, 3, none, [])
theorem mdmX1_putLineIfNone : Md mX1_putLineIfNone 2 := ⟨TB_in (List.mem_of_getElem? (i := 651) (by decide +kernel)) (by decide +kernel), ini_RX1, ⟨by decide +kernel, by decide +kernel, by decide +kernel⟩, rfl, by decide⟩
theorem mvmX1_putLineIfNone : MdV mX1_putLineIfNone 2 := ⟨mdmX1_putLineIfNone, TB_in (List.mem_of_getElem? (i := 649) (by decide +kernel)) (by decide +kernel), TB_in (List.mem_of_getElem? (i := 650) (by decide +kernel)) (by decide +kernel)⟩
abbrev mX1_removeLine : Mt := (yX1_removeLine, cX1_removeLine, 3, none, [])
theorem mdmX1_removeLine : Md mX1_removeLine 2 := ⟨TB_in (List.mem_of_getElem? (i := 750) (by decide +kernel)) (by decide +kernel), ini_RX1, ⟨by decide +kernel, by decide +kernel, by decide +kernel⟩, rfl, by decide⟩
theorem mvmX1_removeLine : MdV mX1_removeLine 2 := ⟨mdmX1_removeLine, TB_in (List.mem_of_getElem? (i := 748) (by decide +kernel)) (by decide +kernel), TB_in (List.mem_of_getElem? (i := 749) (by decide +kernel)) (by decide +kernel)⟩
abbrev mX1_setWeight : Mt := (yX1_setWeight, cX1_setWeight, 4, none, [])
theorem mdmX1_setWeight : Md mX1_setWeight 3 := ⟨TB_in (List.mem_of_getElem? (i := 291) (by decide +kernel)) (by decide +kernel), ini_RX1, ⟨by decide +kernel, by decide +kernel, by decide +kernel⟩, rfl, by decide⟩
theorem mvmX1_setWeight : MdV mX1_setWeight 3 := ⟨mdmX1_setWeight, TB_in (List.mem_of_getElem? (i := 289) (by decide +kernel)) (by decide +kernel), TB_in (List.mem_of_getElem? (i := 290) (by decide +kernel)) (by decide +kernel)⟩
abbrev mX1_putPair : Mt := (yX1_putPair, cX1_putPair, 3, none, [])
theorem mdmX1_putPair : Md mX1_putPair 2 := ⟨TB_in (List.mem_of_getElem? (i := 670) (by decide +kernel)) (by decide +kernel), ini_RX1, ⟨by decide +kernel, by decide +kernel, by decide +kernel⟩, rfl, by decide⟩
theorem mvmX1_putPair : MdV mX1_putPair 2 := ⟨mdmX1_putPair, TB_in (List.mem_of_getElem? (i := 668) (by decide +kernel)) (by decide +kernel), TB_in (List.mem_of_getElem? (i := 669) (by decide +kernel)) (by decide +kernel)⟩
abbrev mX1_removePair : Mt := (yX1_removePair, cX1_removePair, 3, none, [])
theorem mdmX1_removePair : Md mX1_removePair 1 := ⟨TB_in (List.mem_of_getElem? (i := 754) (by decide +kernel)) (by decide +kernel), ini_RX1, ⟨by decide +kernel, by decide +kernel, by decide +kernel⟩, rfl, by decide⟩
theorem mvmX1_removePair : MdV mX1_removePair 1 := ⟨mdmX1_removePair, TB_in (List.mem_of_getElem? (i := 752) (by decide +kernel)) (by decide +kernel), TB_in (List.mem_of_getElem? (i := 753) (by decide +kernel)) (by decide +kernel)⟩
abbrev mX1_countPairs : Mt := (yX1_countPairs, cX1_countPairs, 3, (some .int), [])
theorem mdmX1_countPairs : Md mX1_countPairs 0 := ⟨TB_in (List.mem_of_getElem? (i := 415) (by decide +kernel)) (by decide +kernel), ini_RX1, ⟨by decide +kernel, by decide +kernel, by decide +kernel⟩, rfl, by decide⟩
theorem mvmX1_countPairs : MdV mX1_countPairs 0 := ⟨mdmX1_countPairs, TB_in (List.mem_of_getElem? (i := 413) (by decide +kernel)) (by decide +kernel), TB_in (List.mem_of_getElem? (i := 414) (by decide +kernel)) (by decide +kernel)⟩
abbrev mX1_weighPairs : Mt := (yX1_weighPairs, cX1_weighPairs, 3, (some .int), [])
theorem mdmX1_weighPairs : Md mX1_weighPairs 0 := ⟨TB_in (List.mem_of_getElem? (i := 868) (by decide +kernel)) (by decide +kernel), ini_RX1, ⟨by decide +kernel, by decide +kernel, by decide +kernel⟩, rfl, by decide⟩
theorem mvmX1_weighPairs : MdV mX1_weighPairs 0 := ⟨mdmX1_weighPairs, TB_in (List.mem_of_getElem? (i := 866) (by decide +kernel)) (by decide +kernel), TB_in (List.mem_of_getElem? (i := 867) (by decide +kernel)) (by decide +kernel)⟩
abbrev mX1_pairsAreLines : Mt := (yX1_pairsAreLines, cX1_pairsAreLines, 2, (some .boolean), [])
theorem mdmX1_pairsAreLines : Md mX1_pairsAreLines 0 := ⟨TB_in (List.mem_of_getElem? (i := 674) (by decide +kernel)) (by decide +kernel), ini_RX1, ⟨by decide +kernel, by decide +kernel, by decide +kernel⟩, rfl, by decide⟩
theorem mvmX1_pairsAreLines : MdV mX1_pairsAreLines 0 := ⟨mdmX1_pairsAreLines, TB_in (List.mem_of_getElem? (i := 672) (by decide +kernel)) (by decide +kernel), TB_in (List.mem_of_getElem? (i := 673) (by decide +kernel)) (by decide +kernel)⟩
abbrev mX2_init : Mt := (yX2_init, cX2_init, 1, none, [])
theorem mdmX2_init : Md mX2_init 0 := ⟨TB_in (List.mem_of_getElem? (i := 221) (by decide +kernel)) (by decide +kernel), ini_RX2, ⟨by decide +kernel, by decide +kernel, by decide +kernel⟩, rfl, by decide⟩
theorem mimX2_init : MdI mX2_init 0 := ⟨mdmX2_init, TB_in (List.mem_of_getElem? (i := 220) (by decide +kernel)) (by decide +kernel), rfl, rfl⟩
abbrev mX2_learn : Mt := (yX2_learn, cX2_learn, 4, none, [])
theorem mdmX2_learn : Md mX2_learn 1 := ⟨TB_in (List.mem_of_getElem? (i := 946) (by decide +kernel)) (by decide +kernel), ini_RX2, ⟨by decide +kernel, by decide +kernel, by decide +kernel⟩, rfl, by decide⟩
theorem mvmX2_learn : MdV mX2_learn 1 := ⟨mdmX2_learn, TB_in (List.mem_of_getElem? (i := 944) (by decide +kernel)) (by decide +kernel), TB_in (List.mem_of_getElem? (i := 945) (by decide +kernel)) (by decide +kernel)⟩
abbrev mX2_learnSet : Mt := (yX2_learnSet, cX2_learnSet, 6, none, [])
theorem mdmX2_learnSet : Md mX2_learnSet 3 := ⟨TB_in (List.mem_of_getElem? (i := 951) (by decide +kernel)) (by decide +kernel), ini_RX2, ⟨by decide +kernel, by decide +kernel, by decide +kernel⟩, rfl, by decide⟩
theorem mvmX2_learnSet : MdV mX2_learnSet 3 := ⟨mdmX2_learnSet, TB_in (List.mem_of_getElem? (i := 950) (by decide +kernel)) (by decide +kernel), TB_in (List.mem_of_getElem? (i := 42) (by decide +kernel)) (by decide +kernel)⟩
abbrev mX2_aroundOf : Mt := (yX2_aroundOf, cX2_aroundOf, 2, (some .int), [])
theorem mdmX2_aroundOf : Md mX2_aroundOf 1 := ⟨TB_in (List.mem_of_getElem? (i := 955) (by decide +kernel)) (by decide +kernel), ini_RX2, ⟨by decide +kernel, by decide +kernel, by decide +kernel⟩, rfl, by decide⟩
theorem mvmX2_aroundOf : MdV mX2_aroundOf 1 := ⟨mdmX2_aroundOf, TB_in (List.mem_of_getElem? (i := 954) (by decide +kernel)) (by decide +kernel), TB_in (List.mem_of_getElem? (i := 43) (by decide +kernel)) (by decide +kernel)⟩
abbrev mX2_oddIn : Mt := (yX2_oddIn, cX2_oddIn, 2, (some .int), [])
theorem mdmX2_oddIn : Md mX2_oddIn 1 := ⟨TB_in (List.mem_of_getElem? (i := 963) (by decide +kernel)) (by decide +kernel), ini_RX2, ⟨by decide +kernel, by decide +kernel, by decide +kernel⟩, rfl, by decide⟩
theorem mvmX2_oddIn : MdV mX2_oddIn 1 := ⟨mdmX2_oddIn, TB_in (List.mem_of_getElem? (i := 962) (by decide +kernel)) (by decide +kernel), TB_in (List.mem_of_getElem? (i := 45) (by decide +kernel)) (by decide +kernel)⟩
abbrev mX2_partOf : Mt := (yX2_partOf, cX2_partOf, 6, (some .int), [])
theorem mdmX2_partOf : Md mX2_partOf 2 := ⟨TB_in (List.mem_of_getElem? (i := 959) (by decide +kernel)) (by decide +kernel), ini_RX2, ⟨by decide +kernel, by decide +kernel, by decide +kernel⟩, rfl, by decide⟩
theorem mvmX2_partOf : MdV mX2_partOf 2 := ⟨mdmX2_partOf, TB_in (List.mem_of_getElem? (i := 958) (by decide +kernel)) (by decide +kernel), TB_in (List.mem_of_getElem? (i := 44) (by decide +kernel)) (by decide +kernel)⟩
abbrev mX2_oddWithout : Mt := (yX2_oddWithout, cX2_oddWithout, 2, (some .int), [])
theorem mdmX2_oddWithout : Md mX2_oddWithout 1 := ⟨TB_in (List.mem_of_getElem? (i := 968) (by decide +kernel)) (by decide +kernel), ini_RX2, ⟨by decide +kernel, by decide +kernel, by decide +kernel⟩, rfl, by decide⟩
theorem mvmX2_oddWithout : MdV mX2_oddWithout 1 := ⟨mdmX2_oddWithout, TB_in (List.mem_of_getElem? (i := 966) (by decide +kernel)) (by decide +kernel), TB_in (List.mem_of_getElem? (i := 967) (by decide +kernel)) (by decide +kernel)⟩
abbrev mX2_isBarrier : Mt := (yX2_isBarrier, cX2_isBarrier, 3, (some .boolean), [])
theorem mdmX2_isBarrier : Md mX2_isBarrier 2 := ⟨TB_in (List.mem_of_getElem? (i := 983) (by decide +kernel)) (by decide +kernel), ini_RX2, ⟨by decide +kernel, by decide +kernel, by decide +kernel⟩, rfl, by decide⟩
theorem mvmX2_isBarrier : MdV mX2_isBarrier 2 := ⟨mdmX2_isBarrier, TB_in (List.mem_of_getElem? (i := 982) (by decide +kernel)) (by decide +kernel), TB_in (List.mem_of_getElem? (i := 46) (by decide +kernel)) (by decide +kernel)⟩
abbrev mX2_smallestBarrier : Mt := (yX2_smallestBarrier, cX2_smallestBarrier, 6, (some .int), [])
theorem mdmX2_smallestBarrier : Md mX2_smallestBarrier 1 := ⟨TB_in (List.mem_of_getElem? (i := 979) (by decide +kernel)) (by decide +kernel), ini_RX2, ⟨by decide +kernel, by decide +kernel, by decide +kernel⟩, rfl, by decide⟩
theorem mvmX2_smallestBarrier : MdV mX2_smallestBarrier 1 := ⟨mdmX2_smallestBarrier, TB_in (List.mem_of_getElem? (i := 977) (by decide +kernel)) (by decide +kernel), TB_in (List.mem_of_getElem? (i := 978) (by decide +kernel)) (by decide +kernel)⟩
abbrev mX2_greatestBarrier : Mt := (yX2_greatestBarrier, cX2_greatestBarrier, 6, (some .int), [])
theorem mdmX2_greatestBarrier : Md mX2_greatestBarrier 1 := ⟨TB_in (List.mem_of_getElem? (i := 988) (by decide +kernel)) (by decide +kernel), ini_RX2, ⟨by decide +kernel, by decide +kernel, by decide +kernel⟩, rfl, by decide⟩
theorem mvmX2_greatestBarrier : MdV mX2_greatestBarrier 1 := ⟨mdmX2_greatestBarrier, TB_in (List.mem_of_getElem? (i := 986) (by decide +kernel)) (by decide +kernel), TB_in (List.mem_of_getElem? (i := 987) (by decide +kernel)) (by decide +kernel)⟩
abbrev mX3_init : Mt := (yX3_init, cX3_init, 1, none, [])
theorem mdmX3_init : Md mX3_init 0 := ⟨TB_in (List.mem_of_getElem? (i := 166) (by decide +kernel)) (by decide +kernel), ini_RX3, ⟨by decide +kernel, by decide +kernel, by decide +kernel⟩, rfl, by decide⟩
theorem mimX3_init : MdI mX3_init 0 := ⟨mdmX3_init, TB_in (List.mem_of_getElem? (i := 165) (by decide +kernel)) (by decide +kernel), rfl, rfl⟩
abbrev mX3_read : Mt := (yX3_read, cX3_read, 5, none, [])
theorem mdmX3_read : Md mX3_read 3 := ⟨TB_in (List.mem_of_getElem? (i := 541) (by decide +kernel)) (by decide +kernel), ini_RX3, ⟨by decide +kernel, by decide +kernel, by decide +kernel⟩, rfl, by decide⟩
theorem mvmX3_read : MdV mX3_read 3 := ⟨mdmX3_read, TB_in (List.mem_of_getElem? (i := 539) (by decide +kernel)) (by decide +kernel), TB_in (List.mem_of_getElem? (i := 540) (by decide +kernel)) (by decide +kernel)⟩
abbrev mX3_readNodes : Mt := (yX3_readNodes, cX3_readNodes, 3, none, [])
theorem mdmX3_readNodes : Md mX3_readNodes 1 := ⟨TB_in (List.mem_of_getElem? (i := 545) (by decide +kernel)) (by decide +kernel), ini_RX3, ⟨by decide +kernel, by decide +kernel, by decide +kernel⟩, rfl, by decide⟩
theorem mvmX3_readNodes : MdV mX3_readNodes 1 := ⟨mdmX3_readNodes, TB_in (List.mem_of_getElem? (i := 544) (by decide +kernel)) (by decide +kernel), TB_in (List.mem_of_getElem? (i := 11) (by decide +kernel)) (by decide +kernel)⟩
abbrev mX3_readStatement : Mt := (yX3_readStatement, cX3_readStatement, 2, none, [])
theorem mdmX3_readStatement : Md mX3_readStatement 1 := ⟨TB_in (List.mem_of_getElem? (i := 631) (by decide +kernel)) (by decide +kernel), ini_RX3, ⟨by decide +kernel, by decide +kernel, by decide +kernel⟩, rfl, by decide⟩
theorem mvmX3_readStatement : MdV mX3_readStatement 1 := ⟨mdmX3_readStatement, TB_in (List.mem_of_getElem? (i := 630) (by decide +kernel)) (by decide +kernel), TB_in (List.mem_of_getElem? (i := 19) (by decide +kernel)) (by decide +kernel)⟩
abbrev mX3_readLine : Mt := (yX3_readLine, cX3_readLine, 5, none, [])
theorem mdmX3_readLine : Md mX3_readLine 1 := ⟨TB_in (List.mem_of_getElem? (i := 636) (by decide +kernel)) (by decide +kernel), ini_RX3, ⟨by decide +kernel, by decide +kernel, by decide +kernel⟩, rfl, by decide⟩
theorem mvmX3_readLine : MdV mX3_readLine 1 := ⟨mdmX3_readLine, TB_in (List.mem_of_getElem? (i := 635) (by decide +kernel)) (by decide +kernel), TB_in (List.mem_of_getElem? (i := 20) (by decide +kernel)) (by decide +kernel)⟩
abbrev mX3_readRing : Mt := (yX3_readRing, cX3_readRing, 5, none, [])
theorem mdmX3_readRing : Md mX3_readRing 1 := ⟨TB_in (List.mem_of_getElem? (i := 646) (by decide +kernel)) (by decide +kernel), ini_RX3, ⟨by decide +kernel, by decide +kernel, by decide +kernel⟩, rfl, by decide⟩
theorem mvmX3_readRing : MdV mX3_readRing 1 := ⟨mdmX3_readRing, TB_in (List.mem_of_getElem? (i := 645) (by decide +kernel)) (by decide +kernel), TB_in (List.mem_of_getElem? (i := 22) (by decide +kernel)) (by decide +kernel)⟩
abbrev mX3_readAll : Mt := (yX3_readAll, cX3_readAll, 4, none, [])
theorem mdmX3_readAll : Md mX3_readAll 1 := ⟨TB_in (List.mem_of_getElem? (i := 657) (by decide +kernel)) (by decide +kernel), ini_RX3, ⟨by decide +kernel, by decide +kernel, by decide +kernel⟩, rfl, by decide⟩
theorem mvmX3_readAll : MdV mX3_readAll 1 := ⟨mdmX3_readAll, TB_in (List.mem_of_getElem? (i := 656) (by decide +kernel)) (by decide +kernel), TB_in (List.mem_of_getElem? (i := 23) (by decide +kernel)) (by decide +kernel)⟩
abbrev mX3_readPair : Mt := (yX3_readPair, cX3_readPair, 4, none, [])
theorem mdmX3_readPair : Md mX3_readPair 1 := ⟨TB_in (List.mem_of_getElem? (i := 662) (by decide +kernel)) (by decide +kernel), ini_RX3, ⟨by decide +kernel, by decide +kernel, by decide +kernel⟩, rfl, by decide⟩
theorem mvmX3_readPair : MdV mX3_readPair 1 := ⟨mdmX3_readPair, TB_in (List.mem_of_getElem? (i := 661) (by decide +kernel)) (by decide +kernel), TB_in (List.mem_of_getElem? (i := 24) (by decide +kernel)) (by decide +kernel)⟩
abbrev mX3_needUnlike : Mt := (yX3_needUnlike, cX3_needUnlike, 3, none, [])
theorem mdmX3_needUnlike : Md mX3_needUnlike 2 := ⟨TB_in (List.mem_of_getElem? (i := 640) (by decide +kernel)) (by decide +kernel), ini_RX3, ⟨by decide +kernel, by decide +kernel, by decide +kernel⟩, rfl, by decide⟩
theorem mvmX3_needUnlike : MdV mX3_needUnlike 2 := ⟨mdmX3_needUnlike, TB_in (List.mem_of_getElem? (i := 639) (by decide +kernel)) (by decide +kernel), TB_in (List.mem_of_getElem? (i := 21) (by decide +kernel)) (by decide +kernel)⟩
abbrev mX3_takeWord : Mt := (yX3_takeWord, cX3_takeWord, 4, (some .boolean), [])
theorem mdmX3_takeWord : Md mX3_takeWord 1 := ⟨TB_in (List.mem_of_getElem? (i := 550) (by decide +kernel)) (by decide +kernel), ini_RX3, ⟨by decide +kernel, by decide +kernel, by decide +kernel⟩, rfl, by decide⟩
theorem mvmX3_takeWord : MdV mX3_takeWord 1 := ⟨mdmX3_takeWord, TB_in (List.mem_of_getElem? (i := 549) (by decide +kernel)) (by decide +kernel), TB_in (List.mem_of_getElem? (i := 12) (by decide +kernel)) (by decide +kernel)⟩
abbrev mX3_takeNumber : Mt := (yX3_takeNumber, cX3_takeNumber, 4, (some .int), [])
theorem mdmX3_takeNumber : Md mX3_takeNumber 2 := ⟨TB_in (List.mem_of_getElem? (i := 610) (by decide +kernel)) (by decide +kernel), ini_RX3, ⟨by decide +kernel, by decide +kernel, by decide +kernel⟩, rfl, by decide⟩
theorem mvmX3_takeNumber : MdV mX3_takeNumber 2 := ⟨mdmX3_takeNumber, TB_in (List.mem_of_getElem? (i := 609) (by decide +kernel)) (by decide +kernel), TB_in (List.mem_of_getElem? (i := 15) (by decide +kernel)) (by decide +kernel)⟩
abbrev mX3_takeEnd : Mt := (yX3_takeEnd, cX3_takeEnd, 1, none, [])
theorem mdmX3_takeEnd : Md mX3_takeEnd 0 := ⟨TB_in (List.mem_of_getElem? (i := 622) (by decide +kernel)) (by decide +kernel), ini_RX3, ⟨by decide +kernel, by decide +kernel, by decide +kernel⟩, rfl, by decide⟩
theorem mvmX3_takeEnd : MdV mX3_takeEnd 0 := ⟨mdmX3_takeEnd, TB_in (List.mem_of_getElem? (i := 621) (by decide +kernel)) (by decide +kernel), TB_in (List.mem_of_getElem? (i := 17) (by decide +kernel)) (by decide +kernel)⟩
abbrev mX3_isNumberAhead : Mt := (yX3_isNumberAhead, cX3_isNumberAhead, 1, (some .boolean), [])
theorem mdmX3_isNumberAhead : Md mX3_isNumberAhead 0 := ⟨TB_in (List.mem_of_getElem? (i := 614) (by decide +kernel)) (by decide +kernel), ini_RX3, ⟨by decide +kernel, by decide +kernel, by decide +kernel⟩, rfl, by decide⟩
theorem mvmX3_isNumberAhead : MdV mX3_isNumberAhead 0 := ⟨mdmX3_isNumberAhead, TB_in (List.mem_of_getElem? (i := 613) (by decide +kernel)) (by decide +kernel), TB_in (List.mem_of_getElem? (i := 16) (by decide +kernel)) (by decide +kernel)⟩
abbrev mX3_isAtEnd : Mt := (yX3_isAtEnd, cX3_isAtEnd, 1, (some .boolean), [])
theorem mdmX3_isAtEnd : Md mX3_isAtEnd 0 := ⟨TB_in (List.mem_of_getElem? (i := 627) (by decide +kernel)) (by decide +kernel), ini_RX3, ⟨by decide +kernel, by decide +kernel, by decide +kernel⟩, rfl, by decide⟩
theorem mvmX3_isAtEnd : MdV mX3_isAtEnd 0 := ⟨mdmX3_isAtEnd, TB_in (List.mem_of_getElem? (i := 626) (by decide +kernel)) (by decide +kernel), TB_in (List.mem_of_getElem? (i := 18) (by decide +kernel)) (by decide +kernel)⟩
abbrev mX3_skipBlanks : Mt := (yX3_skipBlanks, cX3_skipBlanks, 1, none, [])
theorem mdmX3_skipBlanks : Md mX3_skipBlanks 0 := ⟨TB_in (List.mem_of_getElem? (i := 554) (by decide +kernel)) (by decide +kernel), ini_RX3, ⟨by decide +kernel, by decide +kernel, by decide +kernel⟩, rfl, by decide⟩
theorem mvmX3_skipBlanks : MdV mX3_skipBlanks 0 := ⟨mdmX3_skipBlanks, TB_in (List.mem_of_getElem? (i := 553) (by decide +kernel)) (by decide +kernel), TB_in (List.mem_of_getElem? (i := 13) (by decide +kernel)) (by decide +kernel)⟩
abbrev mX3_isDigit : Mt := (yX3_isDigit, cX3_isDigit, 1, (some .boolean), [])
theorem mdmX3_isDigit : Md mX3_isDigit 1 := ⟨TB_in (List.mem_of_getElem? (i := 617) (by decide +kernel)) (by decide +kernel), ini_RX3, ⟨by decide +kernel, by decide +kernel, by decide +kernel⟩, rfl, by decide⟩
theorem msmX3_isDigit : MdS mX3_isDigit 1 := ⟨mdmX3_isDigit, TB_in (List.mem_of_getElem? (i := 616) (by decide +kernel)) (by decide +kernel)⟩
abbrev mX3_fail : Mt := (yX3_fail, cX3_fail, 3, none, [])
theorem mdmX3_fail : Md mX3_fail 2 := ⟨TB_in (List.mem_of_getElem? (i := 606) (by decide +kernel)) (by decide +kernel), ini_RX3, ⟨by decide +kernel, by decide +kernel, by decide +kernel⟩, rfl, by decide⟩
theorem mvmX3_fail : MdV mX3_fail 2 := ⟨mdmX3_fail, TB_in (List.mem_of_getElem? (i := 605) (by decide +kernel)) (by decide +kernel), TB_in (List.mem_of_getElem? (i := 14) (by decide +kernel)) (by decide +kernel)⟩
abbrev mX4_init : Mt := (yX4_init, cX4_init, 1, none, [])
theorem mdmX4_init : Md mX4_init 0 := ⟨TB_in (List.mem_of_getElem? (i := 238) (by decide +kernel)) (by decide +kernel), ini_RX4, ⟨by decide +kernel, by decide +kernel, by decide +kernel⟩, rfl, by decide⟩
theorem mimX4_init : MdI mX4_init 0 := ⟨mdmX4_init, TB_in (List.mem_of_getElem? (i := 237) (by decide +kernel)) (by decide +kernel), rfl, rfl⟩
abbrev mX4_spread : Mt := (yX4_spread, cX4_spread, 4, none, [])
theorem mdmX4_spread : Md mX4_spread 2 := ⟨TB_in (List.mem_of_getElem? (i := 787) (by decide +kernel)) (by decide +kernel), ini_RX4, ⟨by decide +kernel, by decide +kernel, by decide +kernel⟩, rfl, by decide⟩
theorem mvmX4_spread : MdV mX4_spread 2 := ⟨mdmX4_spread, TB_in (List.mem_of_getElem? (i := 786) (by decide +kernel)) (by decide +kernel), TB_in (List.mem_of_getElem? (i := 30) (by decide +kernel)) (by decide +kernel)⟩
abbrev mX4_numberPairs : Mt := (yX4_numberPairs, cX4_numberPairs, 6, none, [])
theorem mdmX4_numberPairs : Md mX4_numberPairs 2 := ⟨TB_in (List.mem_of_getElem? (i := 791) (by decide +kernel)) (by decide +kernel), ini_RX4, ⟨by decide +kernel, by decide +kernel, by decide +kernel⟩, rfl, by decide⟩
theorem mvmX4_numberPairs : MdV mX4_numberPairs 2 := ⟨mdmX4_numberPairs, TB_in (List.mem_of_getElem? (i := 790) (by decide +kernel)) (by decide +kernel), TB_in (List.mem_of_getElem? (i := 31) (by decide +kernel)) (by decide +kernel)⟩
abbrev mX4_goOn : Mt := (yX4_goOn, cX4_goOn, 6, none, [])
theorem mdmX4_goOn : Md mX4_goOn 2 := ⟨TB_in (List.mem_of_getElem? (i := 801) (by decide +kernel)) (by decide +kernel), ini_RX4, ⟨by decide +kernel, by decide +kernel, by decide +kernel⟩, rfl, by decide⟩
theorem mvmX4_goOn : MdV mX4_goOn 2 := ⟨mdmX4_goOn, TB_in (List.mem_of_getElem? (i := 800) (by decide +kernel)) (by decide +kernel), TB_in (List.mem_of_getElem? (i := 33) (by decide +kernel)) (by decide +kernel)⟩
abbrev mX4_add : Mt := (yX4_add, cX4_add, 5, none, [])
theorem mdmX4_add : Md mX4_add 4 := ⟨TB_in (List.mem_of_getElem? (i := 796) (by decide +kernel)) (by decide +kernel), ini_RX4, ⟨by decide +kernel, by decide +kernel, by decide +kernel⟩, rfl, by decide⟩
theorem mvmX4_add : MdV mX4_add 4 := ⟨mdmX4_add, TB_in (List.mem_of_getElem? (i := 795) (by decide +kernel)) (by decide +kernel), TB_in (List.mem_of_getElem? (i := 32) (by decide +kernel)) (by decide +kernel)⟩
abbrev mX4_findBetterPath : Mt := (yX4_findBetterPath, cX4_findBetterPath, 5, (some .boolean), [])
theorem mdmX4_findBetterPath : Md mX4_findBetterPath 2 := ⟨TB_in (List.mem_of_getElem? (i := 782) (by decide +kernel)) (by decide +kernel), ini_RX4, ⟨by decide +kernel, by decide +kernel, by decide +kernel⟩, rfl, by decide⟩
theorem mvmX4_findBetterPath : MdV mX4_findBetterPath 2 := ⟨mdmX4_findBetterPath, TB_in (List.mem_of_getElem? (i := 780) (by decide +kernel)) (by decide +kernel), TB_in (List.mem_of_getElem? (i := 781) (by decide +kernel)) (by decide +kernel)⟩
abbrev mX4_freeBeside : Mt := (yX4_freeBeside, cX4_freeBeside, 5, (some .int), [])
theorem mdmX4_freeBeside : Md mX4_freeBeside 3 := ⟨TB_in (List.mem_of_getElem? (i := 805) (by decide +kernel)) (by decide +kernel), ini_RX4, ⟨by decide +kernel, by decide +kernel, by decide +kernel⟩, rfl, by decide⟩
theorem mvmX4_freeBeside : MdV mX4_freeBeside 3 := ⟨mdmX4_freeBeside, TB_in (List.mem_of_getElem? (i := 804) (by decide +kernel)) (by decide +kernel), TB_in (List.mem_of_getElem? (i := 34) (by decide +kernel)) (by decide +kernel)⟩
abbrev mX4_findFlower : Mt := (yX4_findFlower, cX4_findFlower, 4, (some .boolean), [])
theorem mdmX4_findFlower : Md mX4_findFlower 2 := ⟨TB_in (List.mem_of_getElem? (i := 836) (by decide +kernel)) (by decide +kernel), ini_RX4, ⟨by decide +kernel, by decide +kernel, by decide +kernel⟩, rfl, by decide⟩
theorem mvmX4_findFlower : MdV mX4_findFlower 2 := ⟨mdmX4_findFlower, TB_in (List.mem_of_getElem? (i := 834) (by decide +kernel)) (by decide +kernel), TB_in (List.mem_of_getElem? (i := 835) (by decide +kernel)) (by decide +kernel)⟩
abbrev mX4_fillRow : Mt := (yX4_fillRow, cX4_fillRow, 5, none, [])
theorem mdmX4_fillRow : Md mX4_fillRow 2 := ⟨TB_in (List.mem_of_getElem? (i := 810) (by decide +kernel)) (by decide +kernel), ini_RX4, ⟨by decide +kernel, by decide +kernel, by decide +kernel⟩, rfl, by decide⟩
theorem mvmX4_fillRow : MdV mX4_fillRow 2 := ⟨mdmX4_fillRow, TB_in (List.mem_of_getElem? (i := 809) (by decide +kernel)) (by decide +kernel), TB_in (List.mem_of_getElem? (i := 35) (by decide +kernel)) (by decide +kernel)⟩
abbrev mX4_addToRow : Mt := (yX4_addToRow, cX4_addToRow, 2, none, [])
theorem mdmX4_addToRow : Md mX4_addToRow 1 := ⟨TB_in (List.mem_of_getElem? (i := 820) (by decide +kernel)) (by decide +kernel), ini_RX4, ⟨by decide +kernel, by decide +kernel, by decide +kernel⟩, rfl, by decide⟩
theorem mvmX4_addToRow : MdV mX4_addToRow 1 := ⟨mdmX4_addToRow, TB_in (List.mem_of_getElem? (i := 819) (by decide +kernel)) (by decide +kernel), TB_in (List.mem_of_getElem? (i := 36) (by decide +kernel)) (by decide +kernel)⟩
abbrev mX4_betterPairs : Mt := (yX4_betterPairs, cX4_betterPairs, 3, none, [])
theorem mdmX4_betterPairs : Md mX4_betterPairs 1 := ⟨TB_in (List.mem_of_getElem? (i := 824) (by decide +kernel)) (by decide +kernel), ini_RX4, ⟨by decide +kernel, by decide +kernel, by decide +kernel⟩, rfl, by decide⟩
theorem mvmX4_betterPairs : MdV mX4_betterPairs 1 := ⟨mdmX4_betterPairs, TB_in (List.mem_of_getElem? (i := 822) (by decide +kernel)) (by decide +kernel), TB_in (List.mem_of_getElem? (i := 823) (by decide +kernel)) (by decide +kernel)⟩
abbrev mX4_shrinkInto : Mt := (yX4_shrinkInto, cX4_shrinkInto, 8, none, [])
theorem mdmX4_shrinkInto : Md mX4_shrinkInto 2 := ⟨TB_in (List.mem_of_getElem? (i := 840) (by decide +kernel)) (by decide +kernel), ini_RX4, ⟨by decide +kernel, by decide +kernel, by decide +kernel⟩, rfl, by decide⟩
theorem mvmX4_shrinkInto : MdV mX4_shrinkInto 2 := ⟨mdmX4_shrinkInto, TB_in (List.mem_of_getElem? (i := 838) (by decide +kernel)) (by decide +kernel), TB_in (List.mem_of_getElem? (i := 839) (by decide +kernel)) (by decide +kernel)⟩
abbrev mX4_numberAnew : Mt := (yX4_numberAnew, cX4_numberAnew, 4, (some .int), [])
theorem mdmX4_numberAnew : Md mX4_numberAnew 2 := ⟨TB_in (List.mem_of_getElem? (i := 845) (by decide +kernel)) (by decide +kernel), ini_RX4, ⟨by decide +kernel, by decide +kernel, by decide +kernel⟩, rfl, by decide⟩
theorem mvmX4_numberAnew : MdV mX4_numberAnew 2 := ⟨mdmX4_numberAnew, TB_in (List.mem_of_getElem? (i := 844) (by decide +kernel)) (by decide +kernel), TB_in (List.mem_of_getElem? (i := 37) (by decide +kernel)) (by decide +kernel)⟩
abbrev mX4_label : Mt := (yX4_label, cX4_label, 3, none, [])
theorem mdmX4_label : Md mX4_label 1 := ⟨TB_in (List.mem_of_getElem? (i := 909) (by decide +kernel)) (by decide +kernel), ini_RX4, ⟨by decide +kernel, by decide +kernel, by decide +kernel⟩, rfl, by decide⟩
theorem mvmX4_label : MdV mX4_label 1 := ⟨mdmX4_label, TB_in (List.mem_of_getElem? (i := 907) (by decide +kernel)) (by decide +kernel), TB_in (List.mem_of_getElem? (i := 908) (by decide +kernel)) (by decide +kernel)⟩
abbrev mX4_markEnds : Mt := (yX4_markEnds, cX4_markEnds, 3, none, [])
theorem mdmX4_markEnds : Md mX4_markEnds 1 := ⟨TB_in (List.mem_of_getElem? (i := 913) (by decide +kernel)) (by decide +kernel), ini_RX4, ⟨by decide +kernel, by decide +kernel, by decide +kernel⟩, rfl, by decide⟩
theorem mvmX4_markEnds : MdV mX4_markEnds 1 := ⟨mdmX4_markEnds, TB_in (List.mem_of_getElem? (i := 912) (by decide +kernel)) (by decide +kernel), TB_in (List.mem_of_getElem? (i := 40) (by decide +kernel)) (by decide +kernel)⟩
abbrev mX4_bitsOfLabel : Mt := (yX4_bitsOfLabel, cX4_bitsOfLabel, 3, (some .int), [])
theorem mdmX4_bitsOfLabel : Md mX4_bitsOfLabel 2 := ⟨TB_in (List.mem_of_getElem? (i := 917) (by decide +kernel)) (by decide +kernel), ini_RX4, ⟨by decide +kernel, by decide +kernel, by decide +kernel⟩, rfl, by decide⟩
theorem mvmX4_bitsOfLabel : MdV mX4_bitsOfLabel 2 := ⟨mdmX4_bitsOfLabel, TB_in (List.mem_of_getElem? (i := 915) (by decide +kernel)) (by decide +kernel), TB_in (List.mem_of_getElem? (i := 916) (by decide +kernel)) (by decide +kernel)⟩
abbrev mX5_init : Mt := (yX5_init, cX5_init, 2, none, [])
theorem mdmX5_init : Md mX5_init 0 := ⟨TB_in (List.mem_of_getElem? (i := 114) (by decide +kernel)) (by decide +kernel), ini_RX5, ⟨by decide +kernel, by decide +kernel, by decide +kernel⟩, rfl, by decide⟩
theorem mimX5_init : MdI mX5_init 0 := ⟨mdmX5_init, TB_in (List.mem_of_getElem? (i := 113) (by decide +kernel)) (by decide +kernel), rfl, rfl⟩
abbrev mX5_feed : Mt := (yX5_feed, cX5_feed, 6, (some .int), [])
theorem mdmX5_feed : Md mX5_feed 5 := ⟨TB_in (List.mem_of_getElem? (i := 332) (by decide +kernel)) (by decide +kernel), ini_RX5, ⟨by decide +kernel, by decide +kernel, by decide +kernel⟩, rfl, by decide⟩
theorem mvmX5_feed : MdV mX5_feed 5 := ⟨mdmX5_feed, TB_in (List.mem_of_getElem? (i := 330) (by decide +kernel)) (by decide +kernel), TB_in (List.mem_of_getElem? (i := 331) (by decide +kernel)) (by decide +kernel)⟩
abbrev mX5_text : Mt := (yX5_text, cX5_text, 2, (some .int), [])
theorem mdmX5_text : Md mX5_text 1 := ⟨TB_in (List.mem_of_getElem? (i := 466) (by decide +kernel)) (by decide +kernel), ini_RX5, ⟨by decide +kernel, by decide +kernel, by decide +kernel⟩, rfl, by decide⟩
theorem mvmX5_text : MdV mX5_text 1 := ⟨mdmX5_text, TB_in (List.mem_of_getElem? (i := 464) (by decide +kernel)) (by decide +kernel), TB_in (List.mem_of_getElem? (i := 465) (by decide +kernel)) (by decide +kernel)⟩
abbrev mX5_fault : Mt := (yX5_fault, cX5_fault, 1, (some .int), [])
theorem mdmX5_fault : Md mX5_fault 0 := ⟨TB_in (List.mem_of_getElem? (i := 340) (by decide +kernel)) (by decide +kernel), ini_RX5, ⟨by decide +kernel, by decide +kernel, by decide +kernel⟩, rfl, by decide⟩
theorem mvmX5_fault : MdV mX5_fault 0 := ⟨mdmX5_fault, TB_in (List.mem_of_getElem? (i := 338) (by decide +kernel)) (by decide +kernel), TB_in (List.mem_of_getElem? (i := 339) (by decide +kernel)) (by decide +kernel)⟩
abbrev mX5_join : Mt := (yX5_join, cX5_join, 4, (some .int), [])
theorem mdmX5_join : Md mX5_join 3 := ⟨TB_in (List.mem_of_getElem? (i := 690) (by decide +kernel)) (by decide +kernel), ini_RX5, ⟨by decide +kernel, by decide +kernel, by decide +kernel⟩, rfl, by decide⟩
theorem mvmX5_join : MdV mX5_join 3 := ⟨mdmX5_join, TB_in (List.mem_of_getElem? (i := 688) (by decide +kernel)) (by decide +kernel), TB_in (List.mem_of_getElem? (i := 689) (by decide +kernel)) (by decide +kernel)⟩
abbrev mX5_cut : Mt := (yX5_cut, cX5_cut, 3, (some .int), [])
theorem mdmX5_cut : Md mX5_cut 2 := ⟨TB_in (List.mem_of_getElem? (i := 722) (by decide +kernel)) (by decide +kernel), ini_RX5, ⟨by decide +kernel, by decide +kernel, by decide +kernel⟩, rfl, by decide⟩
theorem mvmX5_cut : MdV mX5_cut 2 := ⟨mdmX5_cut, TB_in (List.mem_of_getElem? (i := 720) (by decide +kernel)) (by decide +kernel), TB_in (List.mem_of_getElem? (i := 721) (by decide +kernel)) (by decide +kernel)⟩
abbrev mX5_pair : Mt := (yX5_pair, cX5_pair, 3, (some .int), [])
theorem mdmX5_pair : Md mX5_pair 2 := ⟨TB_in (List.mem_of_getElem? (i := 761) (by decide +kernel)) (by decide +kernel), ini_RX5, ⟨by decide +kernel, by decide +kernel, by decide +kernel⟩, rfl, by decide⟩
theorem mvmX5_pair : MdV mX5_pair 2 := ⟨mdmX5_pair, TB_in (List.mem_of_getElem? (i := 759) (by decide +kernel)) (by decide +kernel), TB_in (List.mem_of_getElem? (i := 760) (by decide +kernel)) (by decide +kernel)⟩
abbrev mX5_part : Mt := (yX5_part, cX5_part, 3, (some .int), [])
theorem mdmX5_part : Md mX5_part 1 := ⟨TB_in (List.mem_of_getElem? (i := 770) (by decide +kernel)) (by decide +kernel), ini_RX5, ⟨by decide +kernel, by decide +kernel, by decide +kernel⟩, rfl, by decide⟩
theorem mvmX5_part : MdV mX5_part 1 := ⟨mdmX5_part, TB_in (List.mem_of_getElem? (i := 768) (by decide +kernel)) (by decide +kernel), TB_in (List.mem_of_getElem? (i := 769) (by decide +kernel)) (by decide +kernel)⟩
abbrev mX5_better : Mt := (yX5_better, cX5_better, 2, (some .int), [])
theorem mdmX5_better : Md mX5_better 1 := ⟨TB_in (List.mem_of_getElem? (i := 778) (by decide +kernel)) (by decide +kernel), ini_RX5, ⟨by decide +kernel, by decide +kernel, by decide +kernel⟩, rfl, by decide⟩
theorem mvmX5_better : MdV mX5_better 1 := ⟨mdmX5_better, TB_in (List.mem_of_getElem? (i := 776) (by decide +kernel)) (by decide +kernel), TB_in (List.mem_of_getElem? (i := 777) (by decide +kernel)) (by decide +kernel)⟩
abbrev mX5_finish : Mt := (yX5_finish, cX5_finish, 2, (some .int), [])
theorem mdmX5_finish : Md mX5_finish 0 := ⟨TB_in (List.mem_of_getElem? (i := 344) (by decide +kernel)) (by decide +kernel), ini_RX5, ⟨by decide +kernel, by decide +kernel, by decide +kernel⟩, rfl, by decide⟩
theorem mvmX5_finish : MdV mX5_finish 0 := ⟨mdmX5_finish, TB_in (List.mem_of_getElem? (i := 342) (by decide +kernel)) (by decide +kernel), TB_in (List.mem_of_getElem? (i := 343) (by decide +kernel)) (by decide +kernel)⟩
abbrev mX5_shrink : Mt := (yX5_shrink, cX5_shrink, 2, (some .int), [])
theorem mdmX5_shrink : Md mX5_shrink 1 := ⟨TB_in (List.mem_of_getElem? (i := 832) (by decide +kernel)) (by decide +kernel), ini_RX5, ⟨by decide +kernel, by decide +kernel, by decide +kernel⟩, rfl, by decide⟩
theorem mvmX5_shrink : MdV mX5_shrink 1 := ⟨mdmX5_shrink, TB_in (List.mem_of_getElem? (i := 830) (by decide +kernel)) (by decide +kernel), TB_in (List.mem_of_getElem? (i := 831) (by decide +kernel)) (by decide +kernel)⟩
abbrev mX5_undo : Mt := (yX5_undo, cX5_undo, 1, (some .int), [])
theorem mdmX5_undo : Md mX5_undo 0 := ⟨TB_in (List.mem_of_getElem? (i := 435) (by decide +kernel)) (by decide +kernel), ini_RX5, ⟨by decide +kernel, by decide +kernel, by decide +kernel⟩, rfl, by decide⟩
theorem mvmX5_undo : MdV mX5_undo 0 := ⟨mdmX5_undo, TB_in (List.mem_of_getElem? (i := 433) (by decide +kernel)) (by decide +kernel), TB_in (List.mem_of_getElem? (i := 434) (by decide +kernel)) (by decide +kernel)⟩
abbrev mX5_told : Mt := (yX5_told, cX5_told, 2, (some .int), [])
theorem mdmX5_told : Md mX5_told 1 := ⟨TB_in (List.mem_of_getElem? (i := 855) (by decide +kernel)) (by decide +kernel), ini_RX5, ⟨by decide +kernel, by decide +kernel, by decide +kernel⟩, rfl, by decide⟩
theorem mvmX5_told : MdV mX5_told 1 := ⟨mdmX5_told, TB_in (List.mem_of_getElem? (i := 853) (by decide +kernel)) (by decide +kernel), TB_in (List.mem_of_getElem? (i := 854) (by decide +kernel)) (by decide +kernel)⟩
abbrev mX5_line : Mt := (yX5_line, cX5_line, 4, (some .int), [])
theorem mdmX5_line : Md mX5_line 3 := ⟨TB_in (List.mem_of_getElem? (i := 876) (by decide +kernel)) (by decide +kernel), ini_RX5, ⟨by decide +kernel, by decide +kernel, by decide +kernel⟩, rfl, by decide⟩
theorem mvmX5_line : MdV mX5_line 3 := ⟨mdmX5_line, TB_in (List.mem_of_getElem? (i := 874) (by decide +kernel)) (by decide +kernel), TB_in (List.mem_of_getElem? (i := 875) (by decide +kernel)) (by decide +kernel)⟩
abbrev mX5_node : Mt := (yX5_node, cX5_node, 3, (some .int), [])
theorem mdmX5_node : Md mX5_node 2 := ⟨TB_in (List.mem_of_getElem? (i := 900) (by decide +kernel)) (by decide +kernel), ini_RX5, ⟨by decide +kernel, by decide +kernel, by decide +kernel⟩, rfl, by decide⟩
theorem mvmX5_node : MdV mX5_node 2 := ⟨mdmX5_node, TB_in (List.mem_of_getElem? (i := 898) (by decide +kernel)) (by decide +kernel), TB_in (List.mem_of_getElem? (i := 899) (by decide +kernel)) (by decide +kernel)⟩
abbrev mX5_sets : Mt := (yX5_sets, cX5_sets, 2, (some .int), [])
theorem mdmX5_sets : Md mX5_sets 1 := ⟨TB_in (List.mem_of_getElem? (i := 934) (by decide +kernel)) (by decide +kernel), ini_RX5, ⟨by decide +kernel, by decide +kernel, by decide +kernel⟩, rfl, by decide⟩
theorem mvmX5_sets : MdV mX5_sets 1 := ⟨mdmX5_sets, TB_in (List.mem_of_getElem? (i := 932) (by decide +kernel)) (by decide +kernel), TB_in (List.mem_of_getElem? (i := 933) (by decide +kernel)) (by decide +kernel)⟩
abbrev mX5_odd : Mt := (yX5_odd, cX5_odd, 2, (some .int), [])
theorem mdmX5_odd : Md mX5_odd 1 := ⟨TB_in (List.mem_of_getElem? (i := 941) (by decide +kernel)) (by decide +kernel), ini_RX5, ⟨by decide +kernel, by decide +kernel, by decide +kernel⟩, rfl, by decide⟩
theorem mvmX5_odd : MdV mX5_odd 1 := ⟨mdmX5_odd, TB_in (List.mem_of_getElem? (i := 939) (by decide +kernel)) (by decide +kernel), TB_in (List.mem_of_getElem? (i := 940) (by decide +kernel)) (by decide +kernel)⟩
abbrev mX5_barrier : Mt := (yX5_barrier, cX5_barrier, 2, (some .int), [])
theorem mdmX5_barrier : Md mX5_barrier 1 := ⟨TB_in (List.mem_of_getElem? (i := 975) (by decide +kernel)) (by decide +kernel), ini_RX5, ⟨by decide +kernel, by decide +kernel, by decide +kernel⟩, rfl, by decide⟩
theorem mvmX5_barrier : MdV mX5_barrier 1 := ⟨mdmX5_barrier, TB_in (List.mem_of_getElem? (i := 973) (by decide +kernel)) (by decide +kernel), TB_in (List.mem_of_getElem? (i := 974) (by decide +kernel)) (by decide +kernel)⟩
abbrev mX5_ways : Mt := (yX5_ways, cX5_ways, 1, (some .int), [])
theorem mdmX5_ways : Md mX5_ways 0 := ⟨TB_in (List.mem_of_getElem? (i := 443) (by decide +kernel)) (by decide +kernel), ini_RX5, ⟨by decide +kernel, by decide +kernel, by decide +kernel⟩, rfl, by decide⟩
theorem mvmX5_ways : MdV mX5_ways 0 := ⟨mdmX5_ways, TB_in (List.mem_of_getElem? (i := 441) (by decide +kernel)) (by decide +kernel), TB_in (List.mem_of_getElem? (i := 442) (by decide +kernel)) (by decide +kernel)⟩
abbrev mX5_heavy : Mt := (yX5_heavy, cX5_heavy, 2, (some .int), [])
theorem mdmX5_heavy : Md mX5_heavy 1 := ⟨TB_in (List.mem_of_getElem? (i := 995) (by decide +kernel)) (by decide +kernel), ini_RX5, ⟨by decide +kernel, by decide +kernel, by decide +kernel⟩, rfl, by decide⟩
theorem mvmX5_heavy : MdV mX5_heavy 1 := ⟨mdmX5_heavy, TB_in (List.mem_of_getElem? (i := 993) (by decide +kernel)) (by decide +kernel), TB_in (List.mem_of_getElem? (i := 994) (by decide +kernel)) (by decide +kernel)⟩
abbrev mX5_path : Mt := (yX5_path, cX5_path, 3, (some .int), [])
theorem mdmX5_path : Md mX5_path 2 := ⟨TB_in (List.mem_of_getElem? (i := 1010) (by decide +kernel)) (by decide +kernel), ini_RX5, ⟨by decide +kernel, by decide +kernel, by decide +kernel⟩, rfl, by decide⟩
theorem mvmX5_path : MdV mX5_path 2 := ⟨mdmX5_path, TB_in (List.mem_of_getElem? (i := 1008) (by decide +kernel)) (by decide +kernel), TB_in (List.mem_of_getElem? (i := 1009) (by decide +kernel)) (by decide +kernel)⟩
abbrev mX5_flower : Mt := (yX5_flower, cX5_flower, 3, (some .int), [])
theorem mdmX5_flower : Md mX5_flower 2 := ⟨TB_in (List.mem_of_getElem? (i := 1022) (by decide +kernel)) (by decide +kernel), ini_RX5, ⟨by decide +kernel, by decide +kernel, by decide +kernel⟩, rfl, by decide⟩
theorem mvmX5_flower : MdV mX5_flower 2 := ⟨mdmX5_flower, TB_in (List.mem_of_getElem? (i := 1020) (by decide +kernel)) (by decide +kernel), TB_in (List.mem_of_getElem? (i := 1021) (by decide +kernel)) (by decide +kernel)⟩
abbrev mX5_print : Mt := (yX5_print, cX5_print, 5, (some .long), [])
theorem mdmX5_print : Md mX5_print 0 := ⟨TB_in (List.mem_of_getElem? (i := 451) (by decide +kernel)) (by decide +kernel), ini_RX5, ⟨by decide +kernel, by decide +kernel, by decide +kernel⟩, rfl, by decide⟩
theorem mvmX5_print : MdV mX5_print 0 := ⟨mdmX5_print, TB_in (List.mem_of_getElem? (i := 449) (by decide +kernel)) (by decide +kernel), TB_in (List.mem_of_getElem? (i := 450) (by decide +kernel)) (by decide +kernel)⟩
abbrev mX5_status : Mt := (yX5_status, cX5_status, 2, (some .int), [])
theorem mdmX5_status : Md mX5_status 1 := ⟨TB_in (List.mem_of_getElem? (i := 458) (by decide +kernel)) (by decide +kernel), ini_RX5, ⟨by decide +kernel, by decide +kernel, by decide +kernel⟩, rfl, by decide⟩
theorem mvmX5_status : MdV mX5_status 1 := ⟨mdmX5_status, TB_in (List.mem_of_getElem? (i := 456) (by decide +kernel)) (by decide +kernel), TB_in (List.mem_of_getElem? (i := 457) (by decide +kernel)) (by decide +kernel)⟩
abbrev mX5_putBytes : Mt := (yX5_putBytes, cX5_putBytes, 3, none, [])
theorem mdmX5_putBytes : Md mX5_putBytes 1 := ⟨TB_in (List.mem_of_getElem? (i := 336) (by decide +kernel)) (by decide +kernel), ini_RX5, ⟨by decide +kernel, by decide +kernel, by decide +kernel⟩, rfl, by decide⟩
theorem mvmX5_putBytes : MdV mX5_putBytes 1 := ⟨mdmX5_putBytes, TB_in (List.mem_of_getElem? (i := 335) (by decide +kernel)) (by decide +kernel), TB_in (List.mem_of_getElem? (i := 0) (by decide +kernel)) (by decide +kernel)⟩
abbrev mX5_needNode : Mt := (yX5_needNode, cX5_needNode, 2, none, [])
theorem mdmX5_needNode : Md mX5_needNode 1 := ⟨TB_in (List.mem_of_getElem? (i := 694) (by decide +kernel)) (by decide +kernel), ini_RX5, ⟨by decide +kernel, by decide +kernel, by decide +kernel⟩, rfl, by decide⟩
theorem mvmX5_needNode : MdV mX5_needNode 1 := ⟨mdmX5_needNode, TB_in (List.mem_of_getElem? (i := 693) (by decide +kernel)) (by decide +kernel), TB_in (List.mem_of_getElem? (i := 27) (by decide +kernel)) (by decide +kernel)⟩
abbrev mX5_needTwoNodes : Mt := (yX5_needTwoNodes, cX5_needTwoNodes, 3, none, [])
theorem mdmX5_needTwoNodes : Md mX5_needTwoNodes 2 := ⟨TB_in (List.mem_of_getElem? (i := 726) (by decide +kernel)) (by decide +kernel), ini_RX5, ⟨by decide +kernel, by decide +kernel, by decide +kernel⟩, rfl, by decide⟩
theorem mvmX5_needTwoNodes : MdV mX5_needTwoNodes 2 := ⟨mdmX5_needTwoNodes, TB_in (List.mem_of_getElem? (i := 725) (by decide +kernel)) (by decide +kernel), TB_in (List.mem_of_getElem? (i := 28) (by decide +kernel)) (by decide +kernel)⟩
abbrev mX5_needArgument : Mt := (yX5_needArgument, cX5_needArgument, 2, none, [])
theorem mdmX5_needArgument : Md mX5_needArgument 1 := ⟨TB_in (List.mem_of_getElem? (i := 470) (by decide +kernel)) (by decide +kernel), ini_RX5, ⟨by decide +kernel, by decide +kernel, by decide +kernel⟩, rfl, by decide⟩
theorem mvmX5_needArgument : MdV mX5_needArgument 1 := ⟨mdmX5_needArgument, TB_in (List.mem_of_getElem? (i := 469) (by decide +kernel)) (by decide +kernel), TB_in (List.mem_of_getElem? (i := 9) (by decide +kernel)) (by decide +kernel)⟩
abbrev mX5_needState : Mt := (yX5_needState, cX5_needState, 2, none, [])
theorem mdmX5_needState : Md mX5_needState 1 := ⟨TB_in (List.mem_of_getElem? (i := 730) (by decide +kernel)) (by decide +kernel), ini_RX5, ⟨by decide +kernel, by decide +kernel, by decide +kernel⟩, rfl, by decide⟩
theorem mvmX5_needState : MdV mX5_needState 1 := ⟨mdmX5_needState, TB_in (List.mem_of_getElem? (i := 729) (by decide +kernel)) (by decide +kernel), TB_in (List.mem_of_getElem? (i := 29) (by decide +kernel)) (by decide +kernel)⟩
abbrev mX5_placeInRow : Mt := (yX5_placeInRow, cX5_placeInRow, 2, (some .int), [])
theorem mdmX5_placeInRow : Md mX5_placeInRow 1 := ⟨TB_in (List.mem_of_getElem? (i := 1014) (by decide +kernel)) (by decide +kernel), ini_RX5, ⟨by decide +kernel, by decide +kernel, by decide +kernel⟩, rfl, by decide⟩
theorem mvmX5_placeInRow : MdV mX5_placeInRow 1 := ⟨mdmX5_placeInRow, TB_in (List.mem_of_getElem? (i := 1013) (by decide +kernel)) (by decide +kernel), TB_in (List.mem_of_getElem? (i := 47) (by decide +kernel)) (by decide +kernel)⟩
abbrev mX5_remember : Mt := (yX5_remember, cX5_remember, 1, none, [])
theorem mdmX5_remember : Md mX5_remember 0 := ⟨TB_in (List.mem_of_getElem? (i := 419) (by decide +kernel)) (by decide +kernel), ini_RX5, ⟨by decide +kernel, by decide +kernel, by decide +kernel⟩, rfl, by decide⟩
theorem mvmX5_remember : MdV mX5_remember 0 := ⟨mdmX5_remember, TB_in (List.mem_of_getElem? (i := 418) (by decide +kernel)) (by decide +kernel), TB_in (List.mem_of_getElem? (i := 6) (by decide +kernel)) (by decide +kernel)⟩
abbrev mX5_rememberLines : Mt := (yX5_rememberLines, cX5_rememberLines, 1, none, [])
theorem mdmX5_rememberLines : Md mX5_rememberLines 0 := ⟨TB_in (List.mem_of_getElem? (i := 682) (by decide +kernel)) (by decide +kernel), ini_RX5, ⟨by decide +kernel, by decide +kernel, by decide +kernel⟩, rfl, by decide⟩
theorem mvmX5_rememberLines : MdV mX5_rememberLines 0 := ⟨mdmX5_rememberLines, TB_in (List.mem_of_getElem? (i := 681) (by decide +kernel)) (by decide +kernel), TB_in (List.mem_of_getElem? (i := 26) (by decide +kernel)) (by decide +kernel)⟩
abbrev mX5_dropOldest : Mt := (yX5_dropOldest, cX5_dropOldest, 3, none, [])
theorem mdmX5_dropOldest : Md mX5_dropOldest 0 := ⟨TB_in (List.mem_of_getElem? (i := 423) (by decide +kernel)) (by decide +kernel), ini_RX5, ⟨by decide +kernel, by decide +kernel, by decide +kernel⟩, rfl, by decide⟩
theorem mvmX5_dropOldest : MdV mX5_dropOldest 0 := ⟨mdmX5_dropOldest, TB_in (List.mem_of_getElem? (i := 422) (by decide +kernel)) (by decide +kernel), TB_in (List.mem_of_getElem? (i := 7) (by decide +kernel)) (by decide +kernel)⟩
abbrev mX5_becomeDraft : Mt := (yX5_becomeDraft, cX5_becomeDraft, 1, none, [])
theorem mdmX5_becomeDraft : Md mX5_becomeDraft 0 := ⟨TB_in (List.mem_of_getElem? (i := 678) (by decide +kernel)) (by decide +kernel), ini_RX5, ⟨by decide +kernel, by decide +kernel, by decide +kernel⟩, rfl, by decide⟩
theorem mvmX5_becomeDraft : MdV mX5_becomeDraft 0 := ⟨mdmX5_becomeDraft, TB_in (List.mem_of_getElem? (i := 677) (by decide +kernel)) (by decide +kernel), TB_in (List.mem_of_getElem? (i := 25) (by decide +kernel)) (by decide +kernel)⟩
abbrev mX5_forgetAnswers : Mt := (yX5_forgetAnswers, cX5_forgetAnswers, 1, none, [])
theorem mdmX5_forgetAnswers : Md mX5_forgetAnswers 0 := ⟨TB_in (List.mem_of_getElem? (i := 439) (by decide +kernel)) (by decide +kernel), ini_RX5, ⟨by decide +kernel, by decide +kernel, by decide +kernel⟩, rfl, by decide⟩
theorem mvmX5_forgetAnswers : MdV mX5_forgetAnswers 0 := ⟨mdmX5_forgetAnswers, TB_in (List.mem_of_getElem? (i := 438) (by decide +kernel)) (by decide +kernel), TB_in (List.mem_of_getElem? (i := 8) (by decide +kernel)) (by decide +kernel)⟩
abbrev mX5_learn : Mt := (yX5_learn, cX5_learn, 1, none, [])
theorem mdmX5_learn : Md mX5_learn 0 := ⟨TB_in (List.mem_of_getElem? (i := 348) (by decide +kernel)) (by decide +kernel), ini_RX5, ⟨by decide +kernel, by decide +kernel, by decide +kernel⟩, rfl, by decide⟩
theorem mvmX5_learn : MdV mX5_learn 0 := ⟨mdmX5_learn, TB_in (List.mem_of_getElem? (i := 347) (by decide +kernel)) (by decide +kernel), TB_in (List.mem_of_getElem? (i := 1) (by decide +kernel)) (by decide +kernel)⟩
abbrev mX5_labelOf : Mt := (yX5_labelOf, cX5_labelOf, 3, (some .int), [])
theorem mdmX5_labelOf : Md mX5_labelOf 1 := ⟨TB_in (List.mem_of_getElem? (i := 905) (by decide +kernel)) (by decide +kernel), ini_RX5, ⟨by decide +kernel, by decide +kernel, by decide +kernel⟩, rfl, by decide⟩
theorem mvmX5_labelOf : MdV mX5_labelOf 1 := ⟨mdmX5_labelOf, TB_in (List.mem_of_getElem? (i := 904) (by decide +kernel)) (by decide +kernel), TB_in (List.mem_of_getElem? (i := 39) (by decide +kernel)) (by decide +kernel)⟩
abbrev mX5_setOf : Mt := (yX5_setOf, cX5_setOf, 3, (some .int), [])
theorem mdmX5_setOf : Md mX5_setOf 1 := ⟨TB_in (List.mem_of_getElem? (i := 923) (by decide +kernel)) (by decide +kernel), ini_RX5, ⟨by decide +kernel, by decide +kernel, by decide +kernel⟩, rfl, by decide⟩
theorem mvmX5_setOf : MdV mX5_setOf 1 := ⟨mdmX5_setOf, TB_in (List.mem_of_getElem? (i := 922) (by decide +kernel)) (by decide +kernel), TB_in (List.mem_of_getElem? (i := 41) (by decide +kernel)) (by decide +kernel)⟩
abbrev mX5_hasBit : Mt := (yX5_hasBit, cX5_hasBit, 2, (some .boolean), [])
theorem mdmX5_hasBit : Md mX5_hasBit 2 := ⟨TB_in (List.mem_of_getElem? (i := 287) (by decide +kernel)) (by decide +kernel), ini_RX5, ⟨by decide +kernel, by decide +kernel, by decide +kernel⟩, rfl, by decide⟩
theorem msmX5_hasBit : MdS mX5_hasBit 2 := ⟨mdmX5_hasBit, TB_in (List.mem_of_getElem? (i := 286) (by decide +kernel)) (by decide +kernel)⟩
abbrev mX5_asNumber : Mt := (yX5_asNumber, cX5_asNumber, 1, (some .int), [])
theorem mdmX5_asNumber : Md mX5_asNumber 1 := ⟨TB_in (List.mem_of_getElem? (i := 879) (by decide +kernel)) (by decide +kernel), ini_RX5, ⟨by decide +kernel, by decide +kernel, by decide +kernel⟩, rfl, by decide⟩
theorem msmX5_asNumber : MdS mX5_asNumber 1 := ⟨mdmX5_asNumber, TB_in (List.mem_of_getElem? (i := 878) (by decide +kernel)) (by decide +kernel)⟩
abbrev mX6_init : Mt := (yX6_init, cX6_init, 1, none, [])
theorem mdmX6_init : Md mX6_init 0 := ⟨TB_in (List.mem_of_getElem? (i := 1027) (by decide +kernel)) (by decide +kernel), ini_RX6, ⟨by decide +kernel, by decide +kernel, by decide +kernel⟩, rfl, by decide⟩
theorem mimX6_init : MdI mX6_init 0 := ⟨mdmX6_init, TB_in (List.mem_of_getElem? (i := 1026) (by decide +kernel)) (by decide +kernel), rfl, rfl⟩
abbrev mX6_begins : Mt := (yX6_begins, cX6_begins, 2, none, [])
theorem mdmX6_begins : Md mX6_begins 1 := ⟨TB_in (List.mem_of_getElem? (i := 1034) (by decide +kernel)) (by decide +kernel), ini_RX6, ⟨by decide +kernel, by decide +kernel, by decide +kernel⟩, rfl, by decide⟩
theorem msmX6_begins : MdS mX6_begins 1 := ⟨mdmX6_begins, TB_in (List.mem_of_getElem? (i := 1033) (by decide +kernel)) (by decide +kernel)⟩
abbrev mX6_thrown : Mt := (yX6_thrown, cX6_thrown, 1, (some .int), [])
theorem mdmX6_thrown : Md mX6_thrown 0 := ⟨TB_in (List.mem_of_getElem? (i := 1128) (by decide +kernel)) (by decide +kernel), ini_RX6, ⟨by decide +kernel, by decide +kernel, by decide +kernel⟩, rfl, by decide⟩
theorem mvmX6_thrown : MdV mX6_thrown 0 := ⟨mdmX6_thrown, TB_in (List.mem_of_getElem? (i := 1126) (by decide +kernel)) (by decide +kernel), TB_in (List.mem_of_getElem? (i := 1127) (by decide +kernel)) (by decide +kernel)⟩
abbrev mX6_bad : Mt := (yX6_bad, cX6_bad, 4, (some .boolean), [])
theorem mdmX6_bad : Md mX6_bad 3 := ⟨TB_in (List.mem_of_getElem? (i := 1143) (by decide +kernel)) (by decide +kernel), ini_RX6, ⟨by decide +kernel, by decide +kernel, by decide +kernel⟩, rfl, by decide⟩
theorem mvmX6_bad : MdV mX6_bad 3 := ⟨mdmX6_bad, TB_in (List.mem_of_getElem? (i := 1142) (by decide +kernel)) (by decide +kernel), TB_in (List.mem_of_getElem? (i := 49) (by decide +kernel)) (by decide +kernel)⟩
abbrev mX6_in : Mt := (yX6_in, cX6_in, 3, (some .boolean), [])
theorem mdmX6_in : Md mX6_in 3 := ⟨TB_in (List.mem_of_getElem? (i := 1139) (by decide +kernel)) (by decide +kernel), ini_RX6, ⟨by decide +kernel, by decide +kernel, by decide +kernel⟩, rfl, by decide⟩
theorem msmX6_in : MdS mX6_in 3 := ⟨mdmX6_in, TB_in (List.mem_of_getElem? (i := 1138) (by decide +kernel)) (by decide +kernel)⟩
abbrev mX6_less : Mt := (yX6_less, cX6_less, 2, (some .int), [])
theorem mdmX6_less : Md mX6_less 2 := ⟨TB_in (List.mem_of_getElem? (i := 1177) (by decide +kernel)) (by decide +kernel), ini_RX6, ⟨by decide +kernel, by decide +kernel, by decide +kernel⟩, rfl, by decide⟩
theorem msmX6_less : MdS mX6_less 2 := ⟨mdmX6_less, TB_in (List.mem_of_getElem? (i := 1176) (by decide +kernel)) (by decide +kernel)⟩
abbrev mX6_feed : Mt := (yX6_feed, cX6_feed, 8, (some .int), [])
theorem mdmX6_feed : Md mX6_feed 5 := ⟨TB_in (List.mem_of_getElem? (i := 1132) (by decide +kernel)) (by decide +kernel), ini_RX6, ⟨by decide +kernel, by decide +kernel, by decide +kernel⟩, rfl, by decide⟩
theorem mvmX6_feed : MdV mX6_feed 5 := ⟨mdmX6_feed, TB_in (List.mem_of_getElem? (i := 1130) (by decide +kernel)) (by decide +kernel), TB_in (List.mem_of_getElem? (i := 1131) (by decide +kernel)) (by decide +kernel)⟩
abbrev mX6_copies : Mt := (yX6_copies, cX6_copies, 3, none, [])
theorem mdmX6_copies : Md mX6_copies 2 := ⟨TB_in (List.mem_of_getElem? (i := 1212) (by decide +kernel)) (by decide +kernel), ini_RX6, ⟨by decide +kernel, by decide +kernel, by decide +kernel⟩, rfl, by decide⟩
theorem msmX6_copies : MdS mX6_copies 2 := ⟨mdmX6_copies, TB_in (List.mem_of_getElem? (i := 1211) (by decide +kernel)) (by decide +kernel)⟩
abbrev mX6_joins : Mt := (yX6_joins, cX6_joins, 4, none, [])
theorem mdmX6_joins : Md mX6_joins 4 := ⟨TB_in (List.mem_of_getElem? (i := 1037) (by decide +kernel)) (by decide +kernel), ini_RX6, ⟨by decide +kernel, by decide +kernel, by decide +kernel⟩, rfl, by decide⟩
theorem msmX6_joins : MdS mX6_joins 4 := ⟨mdmX6_joins, TB_in (List.mem_of_getElem? (i := 1036) (by decide +kernel)) (by decide +kernel)⟩
abbrev mX6_byteAt : Mt := (yX6_byteAt, cX6_byteAt, 2, (some .int), [])
theorem mdmX6_byteAt : Md mX6_byteAt 1 := ⟨TB_in (List.mem_of_getElem? (i := 1160) (by decide +kernel)) (by decide +kernel), ini_RX6, ⟨by decide +kernel, by decide +kernel, by decide +kernel⟩, rfl, by decide⟩
theorem mvmX6_byteAt : MdV mX6_byteAt 1 := ⟨mdmX6_byteAt, TB_in (List.mem_of_getElem? (i := 1159) (by decide +kernel)) (by decide +kernel), TB_in (List.mem_of_getElem? (i := 53) (by decide +kernel)) (by decide +kernel)⟩
abbrev mX6_here : Mt := (yX6_here, cX6_here, 1, (some .int), [])
theorem mdmX6_here : Md mX6_here 0 := ⟨TB_in (List.mem_of_getElem? (i := 1156) (by decide +kernel)) (by decide +kernel), ini_RX6, ⟨by decide +kernel, by decide +kernel, by decide +kernel⟩, rfl, by decide⟩
theorem mvmX6_here : MdV mX6_here 0 := ⟨mdmX6_here, TB_in (List.mem_of_getElem? (i := 1155) (by decide +kernel)) (by decide +kernel), TB_in (List.mem_of_getElem? (i := 52) (by decide +kernel)) (by decide +kernel)⟩
abbrev mX6_fine : Mt := (yX6_fine, cX6_fine, 1, (some .boolean), [])
theorem mdmX6_fine : Md mX6_fine 0 := ⟨TB_in (List.mem_of_getElem? (i := 1152) (by decide +kernel)) (by decide +kernel), ini_RX6, ⟨by decide +kernel, by decide +kernel, by decide +kernel⟩, rfl, by decide⟩
theorem mvmX6_fine : MdV mX6_fine 0 := ⟨mdmX6_fine, TB_in (List.mem_of_getElem? (i := 1151) (by decide +kernel)) (by decide +kernel), TB_in (List.mem_of_getElem? (i := 51) (by decide +kernel)) (by decide +kernel)⟩
abbrev mX6_wrong : Mt := (yX6_wrong, cX6_wrong, 3, none, [])
theorem mdmX6_wrong : Md mX6_wrong 2 := ⟨TB_in (List.mem_of_getElem? (i := 1166) (by decide +kernel)) (by decide +kernel), ini_RX6, ⟨by decide +kernel, by decide +kernel, by decide +kernel⟩, rfl, by decide⟩
theorem mvmX6_wrong : MdV mX6_wrong 2 := ⟨mdmX6_wrong, TB_in (List.mem_of_getElem? (i := 1165) (by decide +kernel)) (by decide +kernel), TB_in (List.mem_of_getElem? (i := 54) (by decide +kernel)) (by decide +kernel)⟩
abbrev mX6_isDigit : Mt := (yX6_isDigit, cX6_isDigit, 1, (some .boolean), [])
theorem mdmX6_isDigit : Md mX6_isDigit 1 := ⟨TB_in (List.mem_of_getElem? (i := 1173) (by decide +kernel)) (by decide +kernel), ini_RX6, ⟨by decide +kernel, by decide +kernel, by decide +kernel⟩, rfl, by decide⟩
theorem msmX6_isDigit : MdS mX6_isDigit 1 := ⟨mdmX6_isDigit, TB_in (List.mem_of_getElem? (i := 1172) (by decide +kernel)) (by decide +kernel)⟩
abbrev mX6_takes : Mt := (yX6_takes, cX6_takes, 3, (some .boolean), [])
theorem mdmX6_takes : Md mX6_takes 1 := ⟨TB_in (List.mem_of_getElem? (i := 1148) (by decide +kernel)) (by decide +kernel), ini_RX6, ⟨by decide +kernel, by decide +kernel, by decide +kernel⟩, rfl, by decide⟩
theorem mvmX6_takes : MdV mX6_takes 1 := ⟨mdmX6_takes, TB_in (List.mem_of_getElem? (i := 1147) (by decide +kernel)) (by decide +kernel), TB_in (List.mem_of_getElem? (i := 50) (by decide +kernel)) (by decide +kernel)⟩
abbrev mX6_must : Mt := (yX6_must, cX6_must, 2, none, [])
theorem mdmX6_must : Md mX6_must 1 := ⟨TB_in (List.mem_of_getElem? (i := 1181) (by decide +kernel)) (by decide +kernel), ini_RX6, ⟨by decide +kernel, by decide +kernel, by decide +kernel⟩, rfl, by decide⟩
theorem mvmX6_must : MdV mX6_must 1 := ⟨mdmX6_must, TB_in (List.mem_of_getElem? (i := 1180) (by decide +kernel)) (by decide +kernel), TB_in (List.mem_of_getElem? (i := 56) (by decide +kernel)) (by decide +kernel)⟩
abbrev mX6_number : Mt := (yX6_number, cX6_number, 6, (some .int), [])
theorem mdmX6_number : Md mX6_number 3 := ⟨TB_in (List.mem_of_getElem? (i := 1170) (by decide +kernel)) (by decide +kernel), ini_RX6, ⟨by decide +kernel, by decide +kernel, by decide +kernel⟩, rfl, by decide⟩
theorem mvmX6_number : MdV mX6_number 3 := ⟨mdmX6_number, TB_in (List.mem_of_getElem? (i := 1169) (by decide +kernel)) (by decide +kernel), TB_in (List.mem_of_getElem? (i := 55) (by decide +kernel)) (by decide +kernel)⟩
abbrev mX6_nodeTold : Mt := (yX6_nodeTold, cX6_nodeTold, 2, (some .int), [])
theorem mdmX6_nodeTold : Md mX6_nodeTold 1 := ⟨TB_in (List.mem_of_getElem? (i := 1190) (by decide +kernel)) (by decide +kernel), ini_RX6, ⟨by decide +kernel, by decide +kernel, by decide +kernel⟩, rfl, by decide⟩
theorem mvmX6_nodeTold : MdV mX6_nodeTold 1 := ⟨mdmX6_nodeTold, TB_in (List.mem_of_getElem? (i := 1189) (by decide +kernel)) (by decide +kernel), TB_in (List.mem_of_getElem? (i := 58) (by decide +kernel)) (by decide +kernel)⟩
abbrev mX6_comes : Mt := (yX6_comes, cX6_comes, 3, none, [])
theorem mdmX6_comes : Md mX6_comes 2 := ⟨TB_in (List.mem_of_getElem? (i := 1199) (by decide +kernel)) (by decide +kernel), ini_RX6, ⟨by decide +kernel, by decide +kernel, by decide +kernel⟩, rfl, by decide⟩
theorem mvmX6_comes : MdV mX6_comes 2 := ⟨mdmX6_comes, TB_in (List.mem_of_getElem? (i := 1198) (by decide +kernel)) (by decide +kernel), TB_in (List.mem_of_getElem? (i := 60) (by decide +kernel)) (by decide +kernel)⟩
abbrev mX6_readsRing : Mt := (yX6_readsRing, cX6_readsRing, 6, none, [])
theorem mdmX6_readsRing : Md mX6_readsRing 0 := ⟨TB_in (List.mem_of_getElem? (i := 1195) (by decide +kernel)) (by decide +kernel), ini_RX6, ⟨by decide +kernel, by decide +kernel, by decide +kernel⟩, rfl, by decide⟩
theorem mvmX6_readsRing : MdV mX6_readsRing 0 := ⟨mdmX6_readsRing, TB_in (List.mem_of_getElem? (i := 1194) (by decide +kernel)) (by decide +kernel), TB_in (List.mem_of_getElem? (i := 59) (by decide +kernel)) (by decide +kernel)⟩
abbrev mX6_readsLine : Mt := (yX6_readsLine, cX6_readsLine, 5, none, [])
theorem mdmX6_readsLine : Md mX6_readsLine 0 := ⟨TB_in (List.mem_of_getElem? (i := 1185) (by decide +kernel)) (by decide +kernel), ini_RX6, ⟨by decide +kernel, by decide +kernel, by decide +kernel⟩, rfl, by decide⟩
theorem mvmX6_readsLine : MdV mX6_readsLine 0 := ⟨mdmX6_readsLine, TB_in (List.mem_of_getElem? (i := 1184) (by decide +kernel)) (by decide +kernel), TB_in (List.mem_of_getElem? (i := 57) (by decide +kernel)) (by decide +kernel)⟩
abbrev mX6_arePairs : Mt := (yX6_arePairs, cX6_arePairs, 4, (some .boolean), [])
theorem mdmX6_arePairs : Md mX6_arePairs 0 := ⟨TB_in (List.mem_of_getElem? (i := 1205) (by decide +kernel)) (by decide +kernel), ini_RX6, ⟨by decide +kernel, by decide +kernel, by decide +kernel⟩, rfl, by decide⟩
theorem mvmX6_arePairs : MdV mX6_arePairs 0 := ⟨mdmX6_arePairs, TB_in (List.mem_of_getElem? (i := 1204) (by decide +kernel)) (by decide +kernel), TB_in (List.mem_of_getElem? (i := 61) (by decide +kernel)) (by decide +kernel)⟩
abbrev mX6_text : Mt := (yX6_text, cX6_text, 2, (some .int), [])
theorem mdmX6_text : Md mX6_text 1 := ⟨TB_in (List.mem_of_getElem? (i := 1136) (by decide +kernel)) (by decide +kernel), ini_RX6, ⟨by decide +kernel, by decide +kernel, by decide +kernel⟩, rfl, by decide⟩
theorem mvmX6_text : MdV mX6_text 1 := ⟨mdmX6_text, TB_in (List.mem_of_getElem? (i := 1134) (by decide +kernel)) (by decide +kernel), TB_in (List.mem_of_getElem? (i := 1135) (by decide +kernel)) (by decide +kernel)⟩
abbrev mX6_fault : Mt := (yX6_fault, cX6_fault, 1, (some .int), [])
theorem mdmX6_fault : Md mX6_fault 0 := ⟨TB_in (List.mem_of_getElem? (i := 1228) (by decide +kernel)) (by decide +kernel), ini_RX6, ⟨by decide +kernel, by decide +kernel, by decide +kernel⟩, rfl, by decide⟩
theorem mvmX6_fault : MdV mX6_fault 0 := ⟨mdmX6_fault, TB_in (List.mem_of_getElem? (i := 1226) (by decide +kernel)) (by decide +kernel), TB_in (List.mem_of_getElem? (i := 1227) (by decide +kernel)) (by decide +kernel)⟩
abbrev mX6_nodes : Mt := (yX6_nodes, cX6_nodes, 1, (some .int), [])
theorem mdmX6_nodes : Md mX6_nodes 0 := ⟨TB_in (List.mem_of_getElem? (i := 1220) (by decide +kernel)) (by decide +kernel), ini_RX6, ⟨by decide +kernel, by decide +kernel, by decide +kernel⟩, rfl, by decide⟩
theorem mvmX6_nodes : MdV mX6_nodes 0 := ⟨mdmX6_nodes, TB_in (List.mem_of_getElem? (i := 1219) (by decide +kernel)) (by decide +kernel), TB_in (List.mem_of_getElem? (i := 64) (by decide +kernel)) (by decide +kernel)⟩
abbrev mX6_all : Mt := (yX6_all, cX6_all, 1, (some .int), [])
theorem mdmX6_all : Md mX6_all 0 := ⟨TB_in (List.mem_of_getElem? (i := 1299) (by decide +kernel)) (by decide +kernel), ini_RX6, ⟨by decide +kernel, by decide +kernel, by decide +kernel⟩, rfl, by decide⟩
theorem mvmX6_all : MdV mX6_all 0 := ⟨mdmX6_all, TB_in (List.mem_of_getElem? (i := 1298) (by decide +kernel)) (by decide +kernel), TB_in (List.mem_of_getElem? (i := 75) (by decide +kernel)) (by decide +kernel)⟩
abbrev mX6_mate : Mt := (yX6_mate, cX6_mate, 2, (some .int), [])
theorem mdmX6_mate : Md mX6_mate 1 := ⟨TB_in (List.mem_of_getElem? (i := 1248) (by decide +kernel)) (by decide +kernel), ini_RX6, ⟨by decide +kernel, by decide +kernel, by decide +kernel⟩, rfl, by decide⟩
theorem mvmX6_mate : MdV mX6_mate 1 := ⟨mdmX6_mate, TB_in (List.mem_of_getElem? (i := 1247) (by decide +kernel)) (by decide +kernel), TB_in (List.mem_of_getElem? (i := 67) (by decide +kernel)) (by decide +kernel)⟩
abbrev mX6_weight : Mt := (yX6_weight, cX6_weight, 3, (some .int), [])
theorem mdmX6_weight : Md mX6_weight 2 := ⟨TB_in (List.mem_of_getElem? (i := 1224) (by decide +kernel)) (by decide +kernel), ini_RX6, ⟨by decide +kernel, by decide +kernel, by decide +kernel⟩, rfl, by decide⟩
theorem mvmX6_weight : MdV mX6_weight 2 := ⟨mdmX6_weight, TB_in (List.mem_of_getElem? (i := 1223) (by decide +kernel)) (by decide +kernel), TB_in (List.mem_of_getElem? (i := 65) (by decide +kernel)) (by decide +kernel)⟩
abbrev mX6_has : Mt := (yX6_has, cX6_has, 2, (some .boolean), [])
theorem mdmX6_has : Md mX6_has 2 := ⟨TB_in (List.mem_of_getElem? (i := 1283) (by decide +kernel)) (by decide +kernel), ini_RX6, ⟨by decide +kernel, by decide +kernel, by decide +kernel⟩, rfl, by decide⟩
theorem msmX6_has : MdS mX6_has 2 := ⟨mdmX6_has, TB_in (List.mem_of_getElem? (i := 1282) (by decide +kernel)) (by decide +kernel)⟩
abbrev mX6_bits : Mt := (yX6_bits, cX6_bits, 3, (some .int), [])
theorem mdmX6_bits : Md mX6_bits 1 := ⟨TB_in (List.mem_of_getElem? (i := 1346) (by decide +kernel)) (by decide +kernel), ini_RX6, ⟨by decide +kernel, by decide +kernel, by decide +kernel⟩, rfl, by decide⟩
theorem msmX6_bits : MdS mX6_bits 1 := ⟨mdmX6_bits, TB_in (List.mem_of_getElem? (i := 1345) (by decide +kernel)) (by decide +kernel)⟩
abbrev mX6_first : Mt := (yX6_first, cX6_first, 2, (some .int), [])
theorem mdmX6_first : Md mX6_first 1 := ⟨TB_in (List.mem_of_getElem? (i := 1302) (by decide +kernel)) (by decide +kernel), ini_RX6, ⟨by decide +kernel, by decide +kernel, by decide +kernel⟩, rfl, by decide⟩
theorem msmX6_first : MdS mX6_first 1 := ⟨mdmX6_first, TB_in (List.mem_of_getElem? (i := 1301) (by decide +kernel)) (by decide +kernel)⟩
abbrev mX6_changes : Mt := (yX6_changes, cX6_changes, 1, none, [])
theorem mdmX6_changes : Md mX6_changes 0 := ⟨TB_in (List.mem_of_getElem? (i := 1041) (by decide +kernel)) (by decide +kernel), ini_RX6, ⟨by decide +kernel, by decide +kernel, by decide +kernel⟩, rfl, by decide⟩
theorem mvmX6_changes : MdV mX6_changes 0 := ⟨mdmX6_changes, TB_in (List.mem_of_getElem? (i := 1040) (by decide +kernel)) (by decide +kernel), TB_in (List.mem_of_getElem? (i := 48) (by decide +kernel)) (by decide +kernel)⟩
abbrev mX6_adds : Mt := (yX6_adds, cX6_adds, 6, none, [])
theorem mdmX6_adds : Md mX6_adds 4 := ⟨TB_in (List.mem_of_getElem? (i := 1306) (by decide +kernel)) (by decide +kernel), ini_RX6, ⟨by decide +kernel, by decide +kernel, by decide +kernel⟩, rfl, by decide⟩
theorem mvmX6_adds : MdV mX6_adds 4 := ⟨mdmX6_adds, TB_in (List.mem_of_getElem? (i := 1305) (by decide +kernel)) (by decide +kernel), TB_in (List.mem_of_getElem? (i := 76) (by decide +kernel)) (by decide +kernel)⟩
abbrev mX6_lays : Mt := (yX6_lays, cX6_lays, 5, none, [])
theorem mdmX6_lays : Md mX6_lays 0 := ⟨TB_in (List.mem_of_getElem? (i := 1295) (by decide +kernel)) (by decide +kernel), ini_RX6, ⟨by decide +kernel, by decide +kernel, by decide +kernel⟩, rfl, by decide⟩
theorem mvmX6_lays : MdV mX6_lays 0 := ⟨mdmX6_lays, TB_in (List.mem_of_getElem? (i := 1294) (by decide +kernel)) (by decide +kernel), TB_in (List.mem_of_getElem? (i := 74) (by decide +kernel)) (by decide +kernel)⟩
abbrev mX6_missing : Mt := (yX6_missing, cX6_missing, 1, (some .int), [])
theorem mdmX6_missing : Md mX6_missing 0 := ⟨TB_in (List.mem_of_getElem? (i := 1327) (by decide +kernel)) (by decide +kernel), ini_RX6, ⟨by decide +kernel, by decide +kernel, by decide +kernel⟩, rfl, by decide⟩
theorem mvmX6_missing : MdV mX6_missing 0 := ⟨mdmX6_missing, TB_in (List.mem_of_getElem? (i := 1326) (by decide +kernel)) (by decide +kernel), TB_in (List.mem_of_getElem? (i := 79) (by decide +kernel)) (by decide +kernel)⟩
abbrev mX6_lines : Mt := (yX6_lines, cX6_lines, 4, (some .int), [])
theorem mdmX6_lines : Md mX6_lines 0 := ⟨TB_in (List.mem_of_getElem? (i := 1216) (by decide +kernel)) (by decide +kernel), ini_RX6, ⟨by decide +kernel, by decide +kernel, by decide +kernel⟩, rfl, by decide⟩
theorem mvmX6_lines : MdV mX6_lines 0 := ⟨mdmX6_lines, TB_in (List.mem_of_getElem? (i := 1215) (by decide +kernel)) (by decide +kernel), TB_in (List.mem_of_getElem? (i := 63) (by decide +kernel)) (by decide +kernel)⟩
abbrev mX6_pairsNow : Mt := (yX6_pairsNow, cX6_pairsNow, 3, (some .int), [])
theorem mdmX6_pairsNow : Md mX6_pairsNow 0 := ⟨TB_in (List.mem_of_getElem? (i := 1264) (by decide +kernel)) (by decide +kernel), ini_RX6, ⟨by decide +kernel, by decide +kernel, by decide +kernel⟩, rfl, by decide⟩
theorem mvmX6_pairsNow : MdV mX6_pairsNow 0 := ⟨mdmX6_pairsNow, TB_in (List.mem_of_getElem? (i := 1263) (by decide +kernel)) (by decide +kernel), TB_in (List.mem_of_getElem? (i := 70) (by decide +kernel)) (by decide +kernel)⟩
abbrev mX6_laysFirst : Mt := (yX6_laysFirst, cX6_laysFirst, 5, none, [])
theorem mdmX6_laysFirst : Md mX6_laysFirst 0 := ⟨TB_in (List.mem_of_getElem? (i := 1291) (by decide +kernel)) (by decide +kernel), ini_RX6, ⟨by decide +kernel, by decide +kernel, by decide +kernel⟩, rfl, by decide⟩
theorem mvmX6_laysFirst : MdV mX6_laysFirst 0 := ⟨mdmX6_laysFirst, TB_in (List.mem_of_getElem? (i := 1290) (by decide +kernel)) (by decide +kernel), TB_in (List.mem_of_getElem? (i := 73) (by decide +kernel)) (by decide +kernel)⟩
abbrev mX6_missed : Mt := (yX6_missed, cX6_missed, 3, (some .int), [])
theorem mdmX6_missed : Md mX6_missed 0 := ⟨TB_in (List.mem_of_getElem? (i := 1354) (by decide +kernel)) (by decide +kernel), ini_RX6, ⟨by decide +kernel, by decide +kernel, by decide +kernel⟩, rfl, by decide⟩
theorem mvmX6_missed : MdV mX6_missed 0 := ⟨mdmX6_missed, TB_in (List.mem_of_getElem? (i := 1353) (by decide +kernel)) (by decide +kernel), TB_in (List.mem_of_getElem? (i := 83) (by decide +kernel)) (by decide +kernel)⟩
abbrev mX6_beside : Mt := (yX6_beside, cX6_beside, 5, (some .int), [])
theorem mdmX6_beside : Md mX6_beside 1 := ⟨TB_in (List.mem_of_getElem? (i := 1358) (by decide +kernel)) (by decide +kernel), ini_RX6, ⟨by decide +kernel, by decide +kernel, by decide +kernel⟩, rfl, by decide⟩
theorem mvmX6_beside : MdV mX6_beside 1 := ⟨mdmX6_beside, TB_in (List.mem_of_getElem? (i := 1357) (by decide +kernel)) (by decide +kernel), TB_in (List.mem_of_getElem? (i := 84) (by decide +kernel)) (by decide +kernel)⟩
abbrev mX6_setOf : Mt := (yX6_setOf, cX6_setOf, 4, (some .int), [])
theorem mdmX6_setOf : Md mX6_setOf 1 := ⟨TB_in (List.mem_of_getElem? (i := 1350) (by decide +kernel)) (by decide +kernel), ini_RX6, ⟨by decide +kernel, by decide +kernel, by decide +kernel⟩, rfl, by decide⟩
theorem mvmX6_setOf : MdV mX6_setOf 1 := ⟨mdmX6_setOf, TB_in (List.mem_of_getElem? (i := 1349) (by decide +kernel)) (by decide +kernel), TB_in (List.mem_of_getElem? (i := 82) (by decide +kernel)) (by decide +kernel)⟩
abbrev mX6_partOf : Mt := (yX6_partOf, cX6_partOf, 7, (some .int), [])
theorem mdmX6_partOf : Md mX6_partOf 2 := ⟨TB_in (List.mem_of_getElem? (i := 1374) (by decide +kernel)) (by decide +kernel), ini_RX6, ⟨by decide +kernel, by decide +kernel, by decide +kernel⟩, rfl, by decide⟩
theorem mvmX6_partOf : MdV mX6_partOf 2 := ⟨mdmX6_partOf, TB_in (List.mem_of_getElem? (i := 1373) (by decide +kernel)) (by decide +kernel), TB_in (List.mem_of_getElem? (i := 86) (by decide +kernel)) (by decide +kernel)⟩
abbrev mX6_oddOf : Mt := (yX6_oddOf, cX6_oddOf, 5, (some .int), [])
theorem mdmX6_oddOf : Md mX6_oddOf 1 := ⟨TB_in (List.mem_of_getElem? (i := 1370) (by decide +kernel)) (by decide +kernel), ini_RX6, ⟨by decide +kernel, by decide +kernel, by decide +kernel⟩, rfl, by decide⟩
theorem mvmX6_oddOf : MdV mX6_oddOf 1 := ⟨mdmX6_oddOf, TB_in (List.mem_of_getElem? (i := 1369) (by decide +kernel)) (by decide +kernel), TB_in (List.mem_of_getElem? (i := 85) (by decide +kernel)) (by decide +kernel)⟩
abbrev mX6_goes : Mt := (yX6_goes, cX6_goes, 5, none, [])
theorem mdmX6_goes : Md mX6_goes 2 := ⟨TB_in (List.mem_of_getElem? (i := 1343) (by decide +kernel)) (by decide +kernel), ini_RX6, ⟨by decide +kernel, by decide +kernel, by decide +kernel⟩, rfl, by decide⟩
theorem mvmX6_goes : MdV mX6_goes 2 := ⟨mdmX6_goes, TB_in (List.mem_of_getElem? (i := 1342) (by decide +kernel)) (by decide +kernel), TB_in (List.mem_of_getElem? (i := 81) (by decide +kernel)) (by decide +kernel)⟩
abbrev mX6_labels : Mt := (yX6_labels, cX6_labels, 2, none, [])
theorem mdmX6_labels : Md mX6_labels 0 := ⟨TB_in (List.mem_of_getElem? (i := 1339) (by decide +kernel)) (by decide +kernel), ini_RX6, ⟨by decide +kernel, by decide +kernel, by decide +kernel⟩, rfl, by decide⟩
theorem mvmX6_labels : MdV mX6_labels 0 := ⟨mdmX6_labels, TB_in (List.mem_of_getElem? (i := 1338) (by decide +kernel)) (by decide +kernel), TB_in (List.mem_of_getElem? (i := 80) (by decide +kernel)) (by decide +kernel)⟩
abbrev mX6_betters : Mt := (yX6_betters, cX6_betters, 6, (some .boolean), [])
theorem mdmX6_betters : Md mX6_betters 3 := ⟨TB_in (List.mem_of_getElem? (i := 1280) (by decide +kernel)) (by decide +kernel), ini_RX6, ⟨by decide +kernel, by decide +kernel, by decide +kernel⟩, rfl, by decide⟩
theorem mvmX6_betters : MdV mX6_betters 3 := ⟨mdmX6_betters, TB_in (List.mem_of_getElem? (i := 1279) (by decide +kernel)) (by decide +kernel), TB_in (List.mem_of_getElem? (i := 72) (by decide +kernel)) (by decide +kernel)⟩
abbrev mX6_findsPath : Mt := (yX6_findsPath, cX6_findsPath, 2, (some .boolean), [])
theorem mdmX6_findsPath : Md mX6_findsPath 1 := ⟨TB_in (List.mem_of_getElem? (i := 1276) (by decide +kernel)) (by decide +kernel), ini_RX6, ⟨by decide +kernel, by decide +kernel, by decide +kernel⟩, rfl, by decide⟩
theorem mvmX6_findsPath : MdV mX6_findsPath 1 := ⟨mdmX6_findsPath, TB_in (List.mem_of_getElem? (i := 1275) (by decide +kernel)) (by decide +kernel), TB_in (List.mem_of_getElem? (i := 71) (by decide +kernel)) (by decide +kernel)⟩
abbrev mX6_rings : Mt := (yX6_rings, cX6_rings, 6, (some .boolean), [])
theorem mdmX6_rings : Md mX6_rings 3 := ⟨TB_in (List.mem_of_getElem? (i := 1319) (by decide +kernel)) (by decide +kernel), ini_RX6, ⟨by decide +kernel, by decide +kernel, by decide +kernel⟩, rfl, by decide⟩
theorem mvmX6_rings : MdV mX6_rings 3 := ⟨mdmX6_rings, TB_in (List.mem_of_getElem? (i := 1318) (by decide +kernel)) (by decide +kernel), TB_in (List.mem_of_getElem? (i := 78) (by decide +kernel)) (by decide +kernel)⟩
abbrev mX6_findsFlower : Mt := (yX6_findsFlower, cX6_findsFlower, 2, (some .boolean), [])
theorem mdmX6_findsFlower : Md mX6_findsFlower 1 := ⟨TB_in (List.mem_of_getElem? (i := 1315) (by decide +kernel)) (by decide +kernel), ini_RX6, ⟨by decide +kernel, by decide +kernel, by decide +kernel⟩, rfl, by decide⟩
theorem mvmX6_findsFlower : MdV mX6_findsFlower 1 := ⟨mdmX6_findsFlower, TB_in (List.mem_of_getElem? (i := 1314) (by decide +kernel)) (by decide +kernel), TB_in (List.mem_of_getElem? (i := 77) (by decide +kernel)) (by decide +kernel)⟩
abbrev mX6_remembers : Mt := (yX6_remembers, cX6_remembers, 2, none, [])
theorem mdmX6_remembers : Md mX6_remembers 0 := ⟨TB_in (List.mem_of_getElem? (i := 1209) (by decide +kernel)) (by decide +kernel), ini_RX6, ⟨by decide +kernel, by decide +kernel, by decide +kernel⟩, rfl, by decide⟩
theorem mvmX6_remembers : MdV mX6_remembers 0 := ⟨mdmX6_remembers, TB_in (List.mem_of_getElem? (i := 1208) (by decide +kernel)) (by decide +kernel), TB_in (List.mem_of_getElem? (i := 62) (by decide +kernel)) (by decide +kernel)⟩
abbrev mX6_undo : Mt := (yX6_undo, cX6_undo, 1, (some .int), [])
theorem mdmX6_undo : Md mX6_undo 0 := ⟨TB_in (List.mem_of_getElem? (i := 1232) (by decide +kernel)) (by decide +kernel), ini_RX6, ⟨by decide +kernel, by decide +kernel, by decide +kernel⟩, rfl, by decide⟩
theorem mvmX6_undo : MdV mX6_undo 0 := ⟨mdmX6_undo, TB_in (List.mem_of_getElem? (i := 1230) (by decide +kernel)) (by decide +kernel), TB_in (List.mem_of_getElem? (i := 1231) (by decide +kernel)) (by decide +kernel)⟩
abbrev mX6_isNode : Mt := (yX6_isNode, cX6_isNode, 2, (some .boolean), [])
theorem mdmX6_isNode : Md mX6_isNode 1 := ⟨TB_in (List.mem_of_getElem? (i := 1240) (by decide +kernel)) (by decide +kernel), ini_RX6, ⟨by decide +kernel, by decide +kernel, by decide +kernel⟩, rfl, by decide⟩
theorem mvmX6_isNode : MdV mX6_isNode 1 := ⟨mdmX6_isNode, TB_in (List.mem_of_getElem? (i := 1239) (by decide +kernel)) (by decide +kernel), TB_in (List.mem_of_getElem? (i := 66) (by decide +kernel)) (by decide +kernel)⟩
abbrev mX6_join : Mt := (yX6_join, cX6_join, 4, (some .int), [])
theorem mdmX6_join : Md mX6_join 3 := ⟨TB_in (List.mem_of_getElem? (i := 1236) (by decide +kernel)) (by decide +kernel), ini_RX6, ⟨by decide +kernel, by decide +kernel, by decide +kernel⟩, rfl, by decide⟩
theorem mvmX6_join : MdV mX6_join 3 := ⟨mdmX6_join, TB_in (List.mem_of_getElem? (i := 1234) (by decide +kernel)) (by decide +kernel), TB_in (List.mem_of_getElem? (i := 1235) (by decide +kernel)) (by decide +kernel)⟩
abbrev mX6_parts : Mt := (yX6_parts, cX6_parts, 3, none, [])
theorem mdmX6_parts : Md mX6_parts 1 := ⟨TB_in (List.mem_of_getElem? (i := 1252) (by decide +kernel)) (by decide +kernel), ini_RX6, ⟨by decide +kernel, by decide +kernel, by decide +kernel⟩, rfl, by decide⟩
theorem mvmX6_parts : MdV mX6_parts 1 := ⟨mdmX6_parts, TB_in (List.mem_of_getElem? (i := 1251) (by decide +kernel)) (by decide +kernel), TB_in (List.mem_of_getElem? (i := 68) (by decide +kernel)) (by decide +kernel)⟩
abbrev mX6_cut : Mt := (yX6_cut, cX6_cut, 3, (some .int), [])
theorem mdmX6_cut : Md mX6_cut 2 := ⟨TB_in (List.mem_of_getElem? (i := 1244) (by decide +kernel)) (by decide +kernel), ini_RX6, ⟨by decide +kernel, by decide +kernel, by decide +kernel⟩, rfl, by decide⟩
theorem mvmX6_cut : MdV mX6_cut 2 := ⟨mdmX6_cut, TB_in (List.mem_of_getElem? (i := 1242) (by decide +kernel)) (by decide +kernel), TB_in (List.mem_of_getElem? (i := 1243) (by decide +kernel)) (by decide +kernel)⟩
abbrev mX6_mates : Mt := (yX6_mates, cX6_mates, 3, none, [])
theorem mdmX6_mates : Md mX6_mates 2 := ⟨TB_in (List.mem_of_getElem? (i := 1260) (by decide +kernel)) (by decide +kernel), ini_RX6, ⟨by decide +kernel, by decide +kernel, by decide +kernel⟩, rfl, by decide⟩
theorem mvmX6_mates : MdV mX6_mates 2 := ⟨mdmX6_mates, TB_in (List.mem_of_getElem? (i := 1259) (by decide +kernel)) (by decide +kernel), TB_in (List.mem_of_getElem? (i := 69) (by decide +kernel)) (by decide +kernel)⟩
abbrev mX6_pair : Mt := (yX6_pair, cX6_pair, 3, (some .int), [])
theorem mdmX6_pair : Md mX6_pair 2 := ⟨TB_in (List.mem_of_getElem? (i := 1256) (by decide +kernel)) (by decide +kernel), ini_RX6, ⟨by decide +kernel, by decide +kernel, by decide +kernel⟩, rfl, by decide⟩
theorem mvmX6_pair : MdV mX6_pair 2 := ⟨mdmX6_pair, TB_in (List.mem_of_getElem? (i := 1254) (by decide +kernel)) (by decide +kernel), TB_in (List.mem_of_getElem? (i := 1255) (by decide +kernel)) (by decide +kernel)⟩
abbrev mX6_part : Mt := (yX6_part, cX6_part, 3, (some .int), [])
theorem mdmX6_part : Md mX6_part 1 := ⟨TB_in (List.mem_of_getElem? (i := 1268) (by decide +kernel)) (by decide +kernel), ini_RX6, ⟨by decide +kernel, by decide +kernel, by decide +kernel⟩, rfl, by decide⟩
theorem mvmX6_part : MdV mX6_part 1 := ⟨mdmX6_part, TB_in (List.mem_of_getElem? (i := 1266) (by decide +kernel)) (by decide +kernel), TB_in (List.mem_of_getElem? (i := 1267) (by decide +kernel)) (by decide +kernel)⟩
abbrev mX6_better : Mt := (yX6_better, cX6_better, 3, (some .int), [])
theorem mdmX6_better : Md mX6_better 1 := ⟨TB_in (List.mem_of_getElem? (i := 1272) (by decide +kernel)) (by decide +kernel), ini_RX6, ⟨by decide +kernel, by decide +kernel, by decide +kernel⟩, rfl, by decide⟩
theorem mvmX6_better : MdV mX6_better 1 := ⟨mdmX6_better, TB_in (List.mem_of_getElem? (i := 1270) (by decide +kernel)) (by decide +kernel), TB_in (List.mem_of_getElem? (i := 1271) (by decide +kernel)) (by decide +kernel)⟩
abbrev mX6_finish : Mt := (yX6_finish, cX6_finish, 3, (some .int), [])
theorem mdmX6_finish : Md mX6_finish 0 := ⟨TB_in (List.mem_of_getElem? (i := 1287) (by decide +kernel)) (by decide +kernel), ini_RX6, ⟨by decide +kernel, by decide +kernel, by decide +kernel⟩, rfl, by decide⟩
theorem mvmX6_finish : MdV mX6_finish 0 := ⟨mdmX6_finish, TB_in (List.mem_of_getElem? (i := 1285) (by decide +kernel)) (by decide +kernel), TB_in (List.mem_of_getElem? (i := 1286) (by decide +kernel)) (by decide +kernel)⟩
abbrev mX6_shrink : Mt := (yX6_shrink, cX6_shrink, 6, (some .int), [])
theorem mdmX6_shrink : Md mX6_shrink 1 := ⟨TB_in (List.mem_of_getElem? (i := 1311) (by decide +kernel)) (by decide +kernel), ini_RX6, ⟨by decide +kernel, by decide +kernel, by decide +kernel⟩, rfl, by decide⟩
theorem mvmX6_shrink : MdV mX6_shrink 1 := ⟨mdmX6_shrink, TB_in (List.mem_of_getElem? (i := 1309) (by decide +kernel)) (by decide +kernel), TB_in (List.mem_of_getElem? (i := 1310) (by decide +kernel)) (by decide +kernel)⟩
abbrev mX6_told : Mt := (yX6_told, cX6_told, 4, (some .int), [])
theorem mdmX6_told : Md mX6_told 1 := ⟨TB_in (List.mem_of_getElem? (i := 1323) (by decide +kernel)) (by decide +kernel), ini_RX6, ⟨by decide +kernel, by decide +kernel, by decide +kernel⟩, rfl, by decide⟩
theorem mvmX6_told : MdV mX6_told 1 := ⟨mdmX6_told, TB_in (List.mem_of_getElem? (i := 1321) (by decide +kernel)) (by decide +kernel), TB_in (List.mem_of_getElem? (i := 1322) (by decide +kernel)) (by decide +kernel)⟩
abbrev mX6_line : Mt := (yX6_line, cX6_line, 7, (some .int), [])
theorem mdmX6_line : Md mX6_line 3 := ⟨TB_in (List.mem_of_getElem? (i := 1331) (by decide +kernel)) (by decide +kernel), ini_RX6, ⟨by decide +kernel, by decide +kernel, by decide +kernel⟩, rfl, by decide⟩
theorem mvmX6_line : MdV mX6_line 3 := ⟨mdmX6_line, TB_in (List.mem_of_getElem? (i := 1329) (by decide +kernel)) (by decide +kernel), TB_in (List.mem_of_getElem? (i := 1330) (by decide +kernel)) (by decide +kernel)⟩
abbrev mX6_node : Mt := (yX6_node, cX6_node, 5, (some .int), [])
theorem mdmX6_node : Md mX6_node 2 := ⟨TB_in (List.mem_of_getElem? (i := 1335) (by decide +kernel)) (by decide +kernel), ini_RX6, ⟨by decide +kernel, by decide +kernel, by decide +kernel⟩, rfl, by decide⟩
theorem mvmX6_node : MdV mX6_node 2 := ⟨mdmX6_node, TB_in (List.mem_of_getElem? (i := 1333) (by decide +kernel)) (by decide +kernel), TB_in (List.mem_of_getElem? (i := 1334) (by decide +kernel)) (by decide +kernel)⟩
abbrev mX6_sets : Mt := (yX6_sets, cX6_sets, 2, (some .int), [])
theorem mdmX6_sets : Md mX6_sets 1 := ⟨TB_in (List.mem_of_getElem? (i := 1362) (by decide +kernel)) (by decide +kernel), ini_RX6, ⟨by decide +kernel, by decide +kernel, by decide +kernel⟩, rfl, by decide⟩
theorem mvmX6_sets : MdV mX6_sets 1 := ⟨mdmX6_sets, TB_in (List.mem_of_getElem? (i := 1360) (by decide +kernel)) (by decide +kernel), TB_in (List.mem_of_getElem? (i := 1361) (by decide +kernel)) (by decide +kernel)⟩
abbrev mX6_odd : Mt := (yX6_odd, cX6_odd, 2, (some .int), [])
theorem mdmX6_odd : Md mX6_odd 1 := ⟨TB_in (List.mem_of_getElem? (i := 1366) (by decide +kernel)) (by decide +kernel), ini_RX6, ⟨by decide +kernel, by decide +kernel, by decide +kernel⟩, rfl, by decide⟩
theorem mvmX6_odd : MdV mX6_odd 1 := ⟨mdmX6_odd, TB_in (List.mem_of_getElem? (i := 1364) (by decide +kernel)) (by decide +kernel), TB_in (List.mem_of_getElem? (i := 1365) (by decide +kernel)) (by decide +kernel)⟩
abbrev mX6_barrier : Mt := (yX6_barrier, cX6_barrier, 4, (some .int), [])
theorem mdmX6_barrier : Md mX6_barrier 1 := ⟨TB_in (List.mem_of_getElem? (i := 1378) (by decide +kernel)) (by decide +kernel), ini_RX6, ⟨by decide +kernel, by decide +kernel, by decide +kernel⟩, rfl, by decide⟩
theorem mvmX6_barrier : MdV mX6_barrier 1 := ⟨mdmX6_barrier, TB_in (List.mem_of_getElem? (i := 1376) (by decide +kernel)) (by decide +kernel), TB_in (List.mem_of_getElem? (i := 1377) (by decide +kernel)) (by decide +kernel)⟩
abbrev mX6_ways : Mt := (yX6_ways, cX6_ways, 1, (some .int), [])
theorem mdmX6_ways : Md mX6_ways 0 := ⟨TB_in (List.mem_of_getElem? (i := 1382) (by decide +kernel)) (by decide +kernel), ini_RX6, ⟨by decide +kernel, by decide +kernel, by decide +kernel⟩, rfl, by decide⟩
theorem mvmX6_ways : MdV mX6_ways 0 := ⟨mdmX6_ways, TB_in (List.mem_of_getElem? (i := 1380) (by decide +kernel)) (by decide +kernel), TB_in (List.mem_of_getElem? (i := 1381) (by decide +kernel)) (by decide +kernel)⟩
abbrev mX6_heavy : Mt := (yX6_heavy, cX6_heavy, 2, (some .int), [])
theorem mdmX6_heavy : Md mX6_heavy 1 := ⟨TB_in (List.mem_of_getElem? (i := 1386) (by decide +kernel)) (by decide +kernel), ini_RX6, ⟨by decide +kernel, by decide +kernel, by decide +kernel⟩, rfl, by decide⟩
theorem mvmX6_heavy : MdV mX6_heavy 1 := ⟨mdmX6_heavy, TB_in (List.mem_of_getElem? (i := 1384) (by decide +kernel)) (by decide +kernel), TB_in (List.mem_of_getElem? (i := 1385) (by decide +kernel)) (by decide +kernel)⟩
abbrev mX6_rowAt : Mt := (yX6_rowAt, cX6_rowAt, 4, (some .int), [])
theorem mdmX6_rowAt : Md mX6_rowAt 3 := ⟨TB_in (List.mem_of_getElem? (i := 1394) (by decide +kernel)) (by decide +kernel), ini_RX6, ⟨by decide +kernel, by decide +kernel, by decide +kernel⟩, rfl, by decide⟩
theorem mvmX6_rowAt : MdV mX6_rowAt 3 := ⟨mdmX6_rowAt, TB_in (List.mem_of_getElem? (i := 1393) (by decide +kernel)) (by decide +kernel), TB_in (List.mem_of_getElem? (i := 87) (by decide +kernel)) (by decide +kernel)⟩
abbrev mX6_path : Mt := (yX6_path, cX6_path, 4, (some .int), [])
theorem mdmX6_path : Md mX6_path 2 := ⟨TB_in (List.mem_of_getElem? (i := 1390) (by decide +kernel)) (by decide +kernel), ini_RX6, ⟨by decide +kernel, by decide +kernel, by decide +kernel⟩, rfl, by decide⟩
theorem mvmX6_path : MdV mX6_path 2 := ⟨mdmX6_path, TB_in (List.mem_of_getElem? (i := 1388) (by decide +kernel)) (by decide +kernel), TB_in (List.mem_of_getElem? (i := 1389) (by decide +kernel)) (by decide +kernel)⟩
abbrev mX6_flower : Mt := (yX6_flower, cX6_flower, 4, (some .int), [])
theorem mdmX6_flower : Md mX6_flower 2 := ⟨TB_in (List.mem_of_getElem? (i := 1398) (by decide +kernel)) (by decide +kernel), ini_RX6, ⟨by decide +kernel, by decide +kernel, by decide +kernel⟩, rfl, by decide⟩
theorem mvmX6_flower : MdV mX6_flower 2 := ⟨mdmX6_flower, TB_in (List.mem_of_getElem? (i := 1396) (by decide +kernel)) (by decide +kernel), TB_in (List.mem_of_getElem? (i := 1397) (by decide +kernel)) (by decide +kernel)⟩
abbrev mX6_print : Mt := (yX6_print, cX6_print, 5, (some .long), [])
theorem mdmX6_print : Md mX6_print 0 := ⟨TB_in (List.mem_of_getElem? (i := 1402) (by decide +kernel)) (by decide +kernel), ini_RX6, ⟨by decide +kernel, by decide +kernel, by decide +kernel⟩, rfl, by decide⟩
theorem mvmX6_print : MdV mX6_print 0 := ⟨mdmX6_print, TB_in (List.mem_of_getElem? (i := 1400) (by decide +kernel)) (by decide +kernel), TB_in (List.mem_of_getElem? (i := 1401) (by decide +kernel)) (by decide +kernel)⟩
abbrev mX6_status : Mt := (yX6_status, cX6_status, 2, (some .int), [])
theorem mdmX6_status : Md mX6_status 1 := ⟨TB_in (List.mem_of_getElem? (i := 1407) (by decide +kernel)) (by decide +kernel), ini_RX6, ⟨by decide +kernel, by decide +kernel, by decide +kernel⟩, rfl, by decide⟩
theorem mvmX6_status : MdV mX6_status 1 := ⟨mdmX6_status, TB_in (List.mem_of_getElem? (i := 1405) (by decide +kernel)) (by decide +kernel), TB_in (List.mem_of_getElem? (i := 1406) (by decide +kernel)) (by decide +kernel)⟩
abbrev mJ6_bitCount_0f7a4 : Mt := (yJ6_bitCount_0f7a4, cJ6_bitCount_0f7a4, 1, (some .int), [])
theorem mdmJ6_bitCount_0f7a4 : Md mJ6_bitCount_0f7a4 1 := ⟨TB_in (List.mem_of_getElem? (i := 813) (by decide +kernel)) (by decide +kernel), ini_RJ6, ⟨by decide +kernel, by decide +kernel, by decide +kernel⟩, rfl, by decide⟩
theorem msmJ6_bitCount_0f7a4 : MdS mJ6_bitCount_0f7a4 1 := ⟨mdmJ6_bitCount_0f7a4, TB_in (List.mem_of_getElem? (i := 812) (by decide +kernel)) (by decide +kernel)⟩
abbrev mJ9_max_7cf53 : Mt := (yJ9_max_7cf53, cJ9_max_7cf53, 2, (some .int), [])
theorem mdmJ9_max_7cf53 : Md mJ9_max_7cf53 2 := ⟨TB_in (List.mem_of_getElem? (i := 405) (by decide +kernel)) (by decide +kernel), ini_RJ9, ⟨by decide +kernel, by decide +kernel, by decide +kernel⟩, rfl, by decide⟩
theorem msmJ9_max_7cf53 : MdS mJ9_max_7cf53 2 := ⟨mdmJ9_max_7cf53, TB_in (List.mem_of_getElem? (i := 404) (by decide +kernel)) (by decide +kernel)⟩
abbrev mJ9_min_7cf53 : Mt := (yJ9_min_7cf53, cJ9_min_7cf53, 2, (some .int), [])
theorem mdmJ9_min_7cf53 : Md mJ9_min_7cf53 2 := ⟨TB_in (List.mem_of_getElem? (i := 411) (by decide +kernel)) (by decide +kernel), ini_RJ9, ⟨by decide +kernel, by decide +kernel, by decide +kernel⟩, rfl, by decide⟩
theorem msmJ9_min_7cf53 : MdS mJ9_min_7cf53 2 := ⟨mdmJ9_min_7cf53, TB_in (List.mem_of_getElem? (i := 410) (by decide +kernel)) (by decide +kernel)⟩
abbrev mJ0_length_8abf5 : Mt := (yJ0_length_8abf5, cJ0_length_8abf5, 1, (some .int), [])
theorem mdmJ0_length_8abf5 : Md mJ0_length_8abf5 0 := ⟨TB_in (List.mem_of_getElem? (i := 558) (by decide +kernel)) (by decide +kernel), ini_RJ0, ⟨by decide +kernel, by decide +kernel, by decide +kernel⟩, rfl, by decide⟩
theorem mvmJ0_length_8abf5 : MdV mJ0_length_8abf5 0 := ⟨mdmJ0_length_8abf5, TB_in (List.mem_of_getElem? (i := 556) (by decide +kernel)) (by decide +kernel), TB_in (List.mem_of_getElem? (i := 557) (by decide +kernel)) (by decide +kernel)⟩
abbrev mJ0_charAt_5068e : Mt := (yJ0_charAt_5068e, cJ0_charAt_5068e, 2, (some .char), [])
theorem mdmJ0_charAt_5068e : Md mJ0_charAt_5068e 1 := ⟨TB_in (List.mem_of_getElem? (i := 568) (by decide +kernel)) (by decide +kernel), ini_RJ0, ⟨by decide +kernel, by decide +kernel, by decide +kernel⟩, rfl, by decide⟩
theorem mvmJ0_charAt_5068e : MdV mJ0_charAt_5068e 1 := ⟨mdmJ0_charAt_5068e, TB_in (List.mem_of_getElem? (i := 566) (by decide +kernel)) (by decide +kernel), TB_in (List.mem_of_getElem? (i := 567) (by decide +kernel)) (by decide +kernel)⟩
abbrev mJ0_coder_7d493 : Mt := (yJ0_coder_7d493, cJ0_coder_7d493, 1, (some .byte), [])
theorem mdmJ0_coder_7d493 : Md mJ0_coder_7d493 0 := ⟨TB_in (List.mem_of_getElem? (i := 562) (by decide +kernel)) (by decide +kernel), ini_RJ0, ⟨by decide +kernel, by decide +kernel, by decide +kernel⟩, rfl, by decide⟩
theorem mvmJ0_coder_7d493 : MdV mJ0_coder_7d493 0 := ⟨mdmJ0_coder_7d493, TB_in (List.mem_of_getElem? (i := 560) (by decide +kernel)) (by decide +kernel), TB_in (List.mem_of_getElem? (i := 561) (by decide +kernel)) (by decide +kernel)⟩
abbrev mJ0_isLatin1_aae02 : Mt := (yJ0_isLatin1_aae02, cJ0_isLatin1_aae02, 1, (some .boolean), [])
theorem mdmJ0_isLatin1_aae02 : Md mJ0_isLatin1_aae02 0 := ⟨TB_in (List.mem_of_getElem? (i := 572) (by decide +kernel)) (by decide +kernel), ini_RJ0, ⟨by decide +kernel, by decide +kernel, by decide +kernel⟩, rfl, by decide⟩
theorem mvmJ0_isLatin1_aae02 : MdV mJ0_isLatin1_aae02 0 := ⟨mdmJ0_isLatin1_aae02, TB_in (List.mem_of_getElem? (i := 570) (by decide +kernel)) (by decide +kernel), TB_in (List.mem_of_getElem? (i := 571) (by decide +kernel)) (by decide +kernel)⟩
abbrev mJ0_checkIndex_df160 : Mt := (yJ0_checkIndex_df160, cJ0_checkIndex_df160, 2, none, [])
theorem mdmJ0_checkIndex_df160 : Md mJ0_checkIndex_df160 2 := ⟨TB_in (List.mem_of_getElem? (i := 578) (by decide +kernel)) (by decide +kernel), ini_RJ0, ⟨by decide +kernel, by decide +kernel, by decide +kernel⟩, rfl, by decide⟩
theorem msmJ0_checkIndex_df160 : MdS mJ0_checkIndex_df160 2 := ⟨mdmJ0_checkIndex_df160, TB_in (List.mem_of_getElem? (i := 577) (by decide +kernel)) (by decide +kernel)⟩
abbrev mJ1_charAt_3b067 : Mt := (yJ1_charAt_3b067, cJ1_charAt_3b067, 2, (some .char), [])
theorem mdmJ1_charAt_3b067 : Md mJ1_charAt_3b067 2 := ⟨TB_in (List.mem_of_getElem? (i := 575) (by decide +kernel)) (by decide +kernel), ini_RJ1, ⟨by decide +kernel, by decide +kernel, by decide +kernel⟩, rfl, by decide⟩
theorem msmJ1_charAt_3b067 : MdS mJ1_charAt_3b067 2 := ⟨mdmJ1_charAt_3b067, TB_in (List.mem_of_getElem? (i := 574) (by decide +kernel)) (by decide +kernel)⟩
abbrev mJ2_getChar_3b067 : Mt := (yJ2_getChar_3b067, cJ2_getChar_3b067, 2, (some .char), [])
theorem mdmJ2_getChar_3b067 : Md mJ2_getChar_3b067 2 := ⟨TB_in (List.mem_of_getElem? (i := 596) (by decide +kernel)) (by decide +kernel), ini_RJ2, ⟨by decide +kernel, by decide +kernel, by decide +kernel⟩, rfl, by decide⟩
theorem msmJ2_getChar_3b067 : MdS mJ2_getChar_3b067 2 := ⟨mdmJ2_getChar_3b067, TB_in (List.mem_of_getElem? (i := 595) (by decide +kernel)) (by decide +kernel)⟩
abbrev mJ2_length_9d52b : Mt := (yJ2_length_9d52b, cJ2_length_9d52b, 1, (some .int), [])
theorem mdmJ2_length_9d52b : Md mJ2_length_9d52b 1 := ⟨TB_in (List.mem_of_getElem? (i := 592) (by decide +kernel)) (by decide +kernel), ini_RJ2, ⟨by decide +kernel, by decide +kernel, by decide +kernel⟩, rfl, by decide⟩
theorem msmJ2_length_9d52b : MdS mJ2_length_9d52b 1 := ⟨mdmJ2_length_9d52b, TB_in (List.mem_of_getElem? (i := 591) (by decide +kernel)) (by decide +kernel)⟩
abbrev mJ2_charAt_3b067 : Mt := (yJ2_charAt_3b067, cJ2_charAt_3b067, 2, (some .char), [])
theorem mdmJ2_charAt_3b067 : Md mJ2_charAt_3b067 2 := ⟨TB_in (List.mem_of_getElem? (i := 586) (by decide +kernel)) (by decide +kernel), ini_RJ2, ⟨by decide +kernel, by decide +kernel, by decide +kernel⟩, rfl, by decide⟩
theorem msmJ2_charAt_3b067 : MdS mJ2_charAt_3b067 2 := ⟨mdmJ2_charAt_3b067, TB_in (List.mem_of_getElem? (i := 585) (by decide +kernel)) (by decide +kernel)⟩
abbrev mJ2_checkIndex_2214a : Mt := (yJ2_checkIndex_2214a, cJ2_checkIndex_2214a, 2, none, [])
theorem mdmJ2_checkIndex_2214a : Md mJ2_checkIndex_2214a 2 := ⟨TB_in (List.mem_of_getElem? (i := 589) (by decide +kernel)) (by decide +kernel), ini_RJ2, ⟨by decide +kernel, by decide +kernel, by decide +kernel⟩, rfl, by decide⟩
theorem msmJ2_checkIndex_2214a : MdS mJ2_checkIndex_2214a 2 := ⟨mdmJ2_checkIndex_2214a, TB_in (List.mem_of_getElem? (i := 588) (by decide +kernel)) (by decide +kernel)⟩
abbrev mJ7_fill_d0a16 : Mt := (yJ7_fill_d0a16, cJ7_fill_d0a16, 5, none, [])
theorem mdmJ7_fill_d0a16 : Md mJ7_fill_d0a16 2 := ⟨TB_in (List.mem_of_getElem? (i := 355) (by decide +kernel)) (by decide +kernel), ini_RJ7, ⟨by decide +kernel, by decide +kernel, by decide +kernel⟩, rfl, by decide⟩
theorem msmJ7_fill_d0a16 : MdS mJ7_fill_d0a16 2 := ⟨mdmJ7_fill_d0a16, TB_in (List.mem_of_getElem? (i := 354) (by decide +kernel)) (by decide +kernel)⟩
abbrev mJ7_fill_53178 : Mt := (yJ7_fill_53178, cJ7_fill_53178, 4, none, [])
theorem mdmJ7_fill_53178 : Md mJ7_fill_53178 2 := ⟨TB_in (List.mem_of_getElem? (i := 130) (by decide +kernel)) (by decide +kernel), ini_RJ7, ⟨by decide +kernel, by decide +kernel, by decide +kernel⟩, rfl, by decide⟩
theorem msmJ7_fill_53178 : MdS mJ7_fill_53178 2 := ⟨mdmJ7_fill_53178, TB_in (List.mem_of_getElem? (i := 129) (by decide +kernel)) (by decide +kernel)⟩
abbrev mJ3_checkIndex_8e157 : Mt := (yJ3_checkIndex_8e157, cJ3_checkIndex_8e157, 3, (some .int), [])
theorem mdmJ3_checkIndex_8e157 : Md mJ3_checkIndex_8e157 3 := ⟨TB_in (List.mem_of_getElem? (i := 583) (by decide +kernel)) (by decide +kernel), ini_RJ3, ⟨by decide +kernel, by decide +kernel, by decide +kernel⟩, rfl, by decide⟩
theorem msmJ3_checkIndex_8e157 : MdS mJ3_checkIndex_8e157 3 := ⟨mdmJ3_checkIndex_8e157, TB_in (List.mem_of_getElem? (i := 582) (by decide +kernel)) (by decide +kernel)⟩
abbrev mL_text : Mt := (yL_text, cL_text, 4, (some .int), [(0, 9, 12, 13)])
theorem cwmL_text : Cond.codeWith yL_text cL_text 4 (some .int) [(0, 9, 12, 13)] ∈ TB := TB_in (List.mem_of_getElem? (i := 461) (by decide +kernel)) (by decide +kernel)
theorem stmL_text : Cond.static yL_text ∈ TB := TB_in (List.mem_of_getElem? (i := 460) (by decide +kernel)) (by decide +kernel)
abbrev mL_join : Mt := (yL_join, cL_join, 6, (some .int), [(0, 12, 15, 19), (0, 12, 19, 13)])
theorem cwmL_join : Cond.codeWith yL_join cL_join 6 (some .int) [(0, 12, 15, 19), (0, 12, 19, 13)] ∈ TB := TB_in (List.mem_of_getElem? (i := 685) (by decide +kernel)) (by decide +kernel)
theorem stmL_join : Cond.static yL_join ∈ TB := TB_in (List.mem_of_getElem? (i := 684) (by decide +kernel)) (by decide +kernel)
abbrev mL_cut : Mt := (yL_cut, cL_cut, 5, (some .int), [(0, 10, 13, 19), (0, 10, 17, 13), (0, 10, 21, 25)])
theorem cwmL_cut : Cond.codeWith yL_cut cL_cut 5 (some .int) [(0, 10, 13, 19), (0, 10, 17, 13), (0, 10, 21, 25)] ∈ TB := TB_in (List.mem_of_getElem? (i := 717) (by decide +kernel)) (by decide +kernel)
theorem stmL_cut : Cond.static yL_cut ∈ TB := TB_in (List.mem_of_getElem? (i := 716) (by decide +kernel)) (by decide +kernel)
abbrev mL_pair : Mt := (yL_pair, cL_pair, 5, (some .int), [(0, 10, 13, 19), (0, 10, 17, 13), (0, 10, 21, 25)])
theorem cwmL_pair : Cond.codeWith yL_pair cL_pair 5 (some .int) [(0, 10, 13, 19), (0, 10, 17, 13), (0, 10, 21, 25)] ∈ TB := TB_in (List.mem_of_getElem? (i := 757) (by decide +kernel)) (by decide +kernel)
theorem stmL_pair : Cond.static yL_pair ∈ TB := TB_in (List.mem_of_getElem? (i := 756) (by decide +kernel)) (by decide +kernel)
abbrev mL_part : Mt := (yL_part, cL_part, 4, (some .int), [(0, 9, 12, 19), (0, 9, 15, 25)])
theorem cwmL_part : Cond.codeWith yL_part cL_part 4 (some .int) [(0, 9, 12, 19), (0, 9, 15, 25)] ∈ TB := TB_in (List.mem_of_getElem? (i := 766) (by decide +kernel)) (by decide +kernel)
theorem stmL_part : Cond.static yL_part ∈ TB := TB_in (List.mem_of_getElem? (i := 765) (by decide +kernel)) (by decide +kernel)
abbrev mL_better : Mt := (yL_better, cL_better, 4, (some .int), [(0, 9, 12, 19), (0, 9, 15, 25)])
theorem cwmL_better : Cond.codeWith yL_better cL_better 4 (some .int) [(0, 9, 12, 19), (0, 9, 15, 25)] ∈ TB := TB_in (List.mem_of_getElem? (i := 774) (by decide +kernel)) (by decide +kernel)
theorem stmL_better : Cond.static yL_better ∈ TB := TB_in (List.mem_of_getElem? (i := 773) (by decide +kernel)) (by decide +kernel)
abbrev mL_shrink : Mt := (yL_shrink, cL_shrink, 4, (some .int), [(0, 9, 12, 19), (0, 9, 15, 25)])
theorem cwmL_shrink : Cond.codeWith yL_shrink cL_shrink 4 (some .int) [(0, 9, 12, 19), (0, 9, 15, 25)] ∈ TB := TB_in (List.mem_of_getElem? (i := 828) (by decide +kernel)) (by decide +kernel)
theorem stmL_shrink : Cond.static yL_shrink ∈ TB := TB_in (List.mem_of_getElem? (i := 827) (by decide +kernel)) (by decide +kernel)
abbrev mL_told : Mt := (yL_told, cL_told, 4, (some .int), [(0, 9, 12, 13)])
theorem cwmL_told : Cond.codeWith yL_told cL_told 4 (some .int) [(0, 9, 12, 13)] ∈ TB := TB_in (List.mem_of_getElem? (i := 851) (by decide +kernel)) (by decide +kernel)
theorem stmL_told : Cond.static yL_told ∈ TB := TB_in (List.mem_of_getElem? (i := 850) (by decide +kernel)) (by decide +kernel)
abbrev mL_line : Mt := (yL_line, cL_line, 6, (some .int), [(0, 12, 15, 19), (0, 12, 19, 13)])
theorem cwmL_line : Cond.codeWith yL_line cL_line 6 (some .int) [(0, 12, 15, 19), (0, 12, 19, 13)] ∈ TB := TB_in (List.mem_of_getElem? (i := 872) (by decide +kernel)) (by decide +kernel)
theorem stmL_line : Cond.static yL_line ∈ TB := TB_in (List.mem_of_getElem? (i := 871) (by decide +kernel)) (by decide +kernel)
abbrev mL_node : Mt := (yL_node, cL_node, 5, (some .int), [(0, 10, 13, 19), (0, 10, 17, 13)])
theorem cwmL_node : Cond.codeWith yL_node cL_node 5 (some .int) [(0, 10, 13, 19), (0, 10, 17, 13)] ∈ TB := TB_in (List.mem_of_getElem? (i := 896) (by decide +kernel)) (by decide +kernel)
theorem stmL_node : Cond.static yL_node ∈ TB := TB_in (List.mem_of_getElem? (i := 895) (by decide +kernel)) (by decide +kernel)
abbrev mL_sets : Mt := (yL_sets, cL_sets, 4, (some .int), [(0, 9, 12, 13)])
theorem cwmL_sets : Cond.codeWith yL_sets cL_sets 4 (some .int) [(0, 9, 12, 13)] ∈ TB := TB_in (List.mem_of_getElem? (i := 930) (by decide +kernel)) (by decide +kernel)
theorem stmL_sets : Cond.static yL_sets ∈ TB := TB_in (List.mem_of_getElem? (i := 929) (by decide +kernel)) (by decide +kernel)
abbrev mL_odd : Mt := (yL_odd, cL_odd, 4, (some .int), [(0, 9, 12, 13)])
theorem cwmL_odd : Cond.codeWith yL_odd cL_odd 4 (some .int) [(0, 9, 12, 13)] ∈ TB := TB_in (List.mem_of_getElem? (i := 937) (by decide +kernel)) (by decide +kernel)
theorem stmL_odd : Cond.static yL_odd ∈ TB := TB_in (List.mem_of_getElem? (i := 936) (by decide +kernel)) (by decide +kernel)
abbrev mL_barrier : Mt := (yL_barrier, cL_barrier, 4, (some .int), [(0, 9, 12, 13)])
theorem cwmL_barrier : Cond.codeWith yL_barrier cL_barrier 4 (some .int) [(0, 9, 12, 13)] ∈ TB := TB_in (List.mem_of_getElem? (i := 971) (by decide +kernel)) (by decide +kernel)
theorem stmL_barrier : Cond.static yL_barrier ∈ TB := TB_in (List.mem_of_getElem? (i := 970) (by decide +kernel)) (by decide +kernel)
abbrev mL_heavy : Mt := (yL_heavy, cL_heavy, 4, (some .int), [(0, 9, 12, 13)])
theorem cwmL_heavy : Cond.codeWith yL_heavy cL_heavy 4 (some .int) [(0, 9, 12, 13)] ∈ TB := TB_in (List.mem_of_getElem? (i := 991) (by decide +kernel)) (by decide +kernel)
theorem stmL_heavy : Cond.static yL_heavy ∈ TB := TB_in (List.mem_of_getElem? (i := 990) (by decide +kernel)) (by decide +kernel)
abbrev mL_path : Mt := (yL_path, cL_path, 5, (some .int), [(0, 10, 13, 19)])
theorem cwmL_path : Cond.codeWith yL_path cL_path 5 (some .int) [(0, 10, 13, 19)] ∈ TB := TB_in (List.mem_of_getElem? (i := 1006) (by decide +kernel)) (by decide +kernel)
theorem stmL_path : Cond.static yL_path ∈ TB := TB_in (List.mem_of_getElem? (i := 1005) (by decide +kernel)) (by decide +kernel)
abbrev mL_flower : Mt := (yL_flower, cL_flower, 5, (some .int), [(0, 10, 13, 19)])
theorem cwmL_flower : Cond.codeWith yL_flower cL_flower 5 (some .int) [(0, 10, 13, 19)] ∈ TB := TB_in (List.mem_of_getElem? (i := 1018) (by decide +kernel)) (by decide +kernel)
theorem stmL_flower : Cond.static yL_flower ∈ TB := TB_in (List.mem_of_getElem? (i := 1017) (by decide +kernel)) (by decide +kernel)
theorem lkRL_66 : Cond.methodLink RL 66 yX5_init ∈ TB := TB_in (List.mem_of_getElem? (i := 112) (by decide +kernel)) (by decide +kernel)
theorem lkRX5_22 : Cond.methodLink RX5 22 yX1_init ∈ TB := TB_in (List.mem_of_getElem? (i := 120) (by decide +kernel)) (by decide +kernel)
theorem lkRX1_21 : Cond.methodLink RX1 21 yX1_clear ∈ TB := TB_in (List.mem_of_getElem? (i := 124) (by decide +kernel)) (by decide +kernel)
theorem lkRX1_32 : Cond.methodLink RX1 32 yJ7_fill_53178 ∈ TB := TB_in (List.mem_of_getElem? (i := 128) (by decide +kernel)) (by decide +kernel)
theorem lkRX5_39 : Cond.methodLink RX5 39 yX3_init ∈ TB := TB_in (List.mem_of_getElem? (i := 164) (by decide +kernel)) (by decide +kernel)
theorem lkRX5_46 : Cond.methodLink RX5 46 yX0_init ∈ TB := TB_in (List.mem_of_getElem? (i := 197) (by decide +kernel)) (by decide +kernel)
theorem lkRX5_71 : Cond.methodLink RX5 71 yX1_clear ∈ TB := TB_in (List.mem_of_getElem? (i := 276) (by decide +kernel)) (by decide +kernel)
theorem lkRX5_75 : Cond.methodLink RX5 75 yX1_putLine ∈ TB := TB_in (List.mem_of_getElem? (i := 277) (by decide +kernel)) (by decide +kernel)
theorem lkRX1_48 : Cond.methodLink RX1 48 yX1_isLine ∈ TB := TB_in (List.mem_of_getElem? (i := 281) (by decide +kernel)) (by decide +kernel)
theorem lkRX1_51 : Cond.methodLink RX1 51 yX1_setWeight ∈ TB := TB_in (List.mem_of_getElem? (i := 288) (by decide +kernel)) (by decide +kernel)
theorem lkRL_70 : Cond.methodLink RL 70 yX5_feed ∈ TB := TB_in (List.mem_of_getElem? (i := 329) (by decide +kernel)) (by decide +kernel)
theorem lkRX5_79 : Cond.methodLink RX5 79 yX5_putBytes ∈ TB := TB_in (List.mem_of_getElem? (i := 333) (by decide +kernel)) (by decide +kernel)
theorem lkRL_85 : Cond.methodLink RL 85 yX5_fault ∈ TB := TB_in (List.mem_of_getElem? (i := 337) (by decide +kernel)) (by decide +kernel)
theorem lkRL_106 : Cond.methodLink RL 106 yX5_finish ∈ TB := TB_in (List.mem_of_getElem? (i := 341) (by decide +kernel)) (by decide +kernel)
theorem lkRX5_149 : Cond.methodLink RX5 149 yX5_learn ∈ TB := TB_in (List.mem_of_getElem? (i := 345) (by decide +kernel)) (by decide +kernel)
theorem lkRX5_292 : Cond.methodLink RX5 292 yX0_learn ∈ TB := TB_in (List.mem_of_getElem? (i := 349) (by decide +kernel)) (by decide +kernel)
theorem lkRX0_27 : Cond.methodLink RX0 27 yJ7_fill_d0a16 ∈ TB := TB_in (List.mem_of_getElem? (i := 353) (by decide +kernel)) (by decide +kernel)
theorem lkRX5_152 : Cond.methodLink RX5 152 yX0_fillFirst ∈ TB := TB_in (List.mem_of_getElem? (i := 356) (by decide +kernel)) (by decide +kernel)
theorem lkRX0_111 : Cond.methodLink RX0 111 yJ7_fill_53178 ∈ TB := TB_in (List.mem_of_getElem? (i := 360) (by decide +kernel)) (by decide +kernel)
theorem lkRX0_88 : Cond.methodLink RX0 88 yX1_all ∈ TB := TB_in (List.mem_of_getElem? (i := 361) (by decide +kernel)) (by decide +kernel)
theorem lkRX0_114 : Cond.methodLink RX0 114 yX0_firstMate ∈ TB := TB_in (List.mem_of_getElem? (i := 366) (by decide +kernel)) (by decide +kernel)
theorem lkRX0_99 : Cond.methodLink RX0 99 yX1_isLine ∈ TB := TB_in (List.mem_of_getElem? (i := 370) (by decide +kernel)) (by decide +kernel)
theorem lkRX0_92 : Cond.methodLink RX0 92 yX0_greatestIn ∈ TB := TB_in (List.mem_of_getElem? (i := 371) (by decide +kernel)) (by decide +kernel)
theorem lkRX0_39 : Cond.methodLink RX0 39 yX0_greatestBelow ∈ TB := TB_in (List.mem_of_getElem? (i := 375) (by decide +kernel)) (by decide +kernel)
theorem lkRX0_43 : Cond.methodLink RX0 43 yX0_pack ∈ TB := TB_in (List.mem_of_getElem? (i := 379) (by decide +kernel)) (by decide +kernel)
theorem lkRX0_47 : Cond.methodLink RX0 47 yX0_workOut ∈ TB := TB_in (List.mem_of_getElem? (i := 382) (by decide +kernel)) (by decide +kernel)
theorem lkRX0_57 : Cond.methodLink RX0 57 yX1_weightOf ∈ TB := TB_in (List.mem_of_getElem? (i := 386) (by decide +kernel)) (by decide +kernel)
theorem lkRX0_61 : Cond.methodLink RX0 61 yX0_both ∈ TB := TB_in (List.mem_of_getElem? (i := 390) (by decide +kernel)) (by decide +kernel)
theorem lkRX0_65 : Cond.methodLink RX0 65 yX0_sizeIn ∈ TB := TB_in (List.mem_of_getElem? (i := 393) (by decide +kernel)) (by decide +kernel)
theorem lkRX0_69 : Cond.methodLink RX0 69 yX0_countIn ∈ TB := TB_in (List.mem_of_getElem? (i := 397) (by decide +kernel)) (by decide +kernel)
theorem lkRX0_72 : Cond.methodLink RX0 72 yX0_heaviestIn ∈ TB := TB_in (List.mem_of_getElem? (i := 400) (by decide +kernel)) (by decide +kernel)
theorem lkRX0_75 : Cond.methodLink RX0 75 yJ9_max_7cf53 ∈ TB := TB_in (List.mem_of_getElem? (i := 403) (by decide +kernel)) (by decide +kernel)
theorem lkRX0_80 : Cond.methodLink RX0 80 yX0_lightestIn ∈ TB := TB_in (List.mem_of_getElem? (i := 406) (by decide +kernel)) (by decide +kernel)
theorem lkRX0_83 : Cond.methodLink RX0 83 yJ9_min_7cf53 ∈ TB := TB_in (List.mem_of_getElem? (i := 409) (by decide +kernel)) (by decide +kernel)
theorem lkRX5_132 : Cond.methodLink RX5 132 yX1_countPairs ∈ TB := TB_in (List.mem_of_getElem? (i := 412) (by decide +kernel)) (by decide +kernel)
theorem lkRX5_126 : Cond.methodLink RX5 126 yX5_remember ∈ TB := TB_in (List.mem_of_getElem? (i := 416) (by decide +kernel)) (by decide +kernel)
theorem lkRX5_284 : Cond.methodLink RX5 284 yX5_dropOldest ∈ TB := TB_in (List.mem_of_getElem? (i := 420) (by decide +kernel)) (by decide +kernel)
theorem lkRX5_174 : Cond.methodLink RX5 174 yX1_copyFrom ∈ TB := TB_in (List.mem_of_getElem? (i := 424) (by decide +kernel)) (by decide +kernel)
theorem lkRL_113 : Cond.methodLink RL 113 yX5_undo ∈ TB := TB_in (List.mem_of_getElem? (i := 432) (by decide +kernel)) (by decide +kernel)
theorem lkRX5_177 : Cond.methodLink RX5 177 yX5_forgetAnswers ∈ TB := TB_in (List.mem_of_getElem? (i := 436) (by decide +kernel)) (by decide +kernel)
theorem lkRL_135 : Cond.methodLink RL 135 yX5_ways ∈ TB := TB_in (List.mem_of_getElem? (i := 440) (by decide +kernel)) (by decide +kernel)
theorem lkRX5_242 : Cond.methodLink RX5 242 yX0_count ∈ TB := TB_in (List.mem_of_getElem? (i := 444) (by decide +kernel)) (by decide +kernel)
theorem lkRL_148 : Cond.methodLink RL 148 yX5_print ∈ TB := TB_in (List.mem_of_getElem? (i := 448) (by decide +kernel)) (by decide +kernel)
theorem lkRX5_112 : Cond.methodLink RX5 112 yX1_isLine ∈ TB := TB_in (List.mem_of_getElem? (i := 453) (by decide +kernel)) (by decide +kernel)
theorem lkRX5_193 : Cond.methodLink RX5 193 yX1_weightOf ∈ TB := TB_in (List.mem_of_getElem? (i := 454) (by decide +kernel)) (by decide +kernel)
theorem lkRL_153 : Cond.methodLink RL 153 yX5_status ∈ TB := TB_in (List.mem_of_getElem? (i := 455) (by decide +kernel)) (by decide +kernel)
theorem lkRL_75 : Cond.methodLink RL 75 yL_text ∈ TB := TB_in (List.mem_of_getElem? (i := 459) (by decide +kernel)) (by decide +kernel)
theorem lkRL_7 : Cond.methodLink RL 7 yX5_text ∈ TB := TB_in (List.mem_of_getElem? (i := 463) (by decide +kernel)) (by decide +kernel)
theorem lkRX5_82 : Cond.methodLink RX5 82 yX5_needArgument ∈ TB := TB_in (List.mem_of_getElem? (i := 467) (by decide +kernel)) (by decide +kernel)
theorem lkRX5_86 : Cond.methodLink RX5 86 yX3_read ∈ TB := TB_in (List.mem_of_getElem? (i := 538) (by decide +kernel)) (by decide +kernel)
theorem lkRX3_36 : Cond.methodLink RX3 36 yX3_readNodes ∈ TB := TB_in (List.mem_of_getElem? (i := 542) (by decide +kernel)) (by decide +kernel)
theorem lkRX3_58 : Cond.methodLink RX3 58 yX3_takeWord ∈ TB := TB_in (List.mem_of_getElem? (i := 547) (by decide +kernel)) (by decide +kernel)
theorem lkRX3_121 : Cond.methodLink RX3 121 yX3_skipBlanks ∈ TB := TB_in (List.mem_of_getElem? (i := 551) (by decide +kernel)) (by decide +kernel)
theorem lkRX3_124 : Cond.methodLink RX3 124 yJ0_length_8abf5 ∈ TB := TB_in (List.mem_of_getElem? (i := 555) (by decide +kernel)) (by decide +kernel)
theorem lkRJ0_335 : Cond.methodLink RJ0 335 yJ0_coder_7d493 ∈ TB := TB_in (List.mem_of_getElem? (i := 559) (by decide +kernel)) (by decide +kernel)
theorem lkRX3_129 : Cond.methodLink RX3 129 yJ0_charAt_5068e ∈ TB := TB_in (List.mem_of_getElem? (i := 565) (by decide +kernel)) (by decide +kernel)
theorem lkRJ0_492 : Cond.methodLink RJ0 492 yJ0_isLatin1_aae02 ∈ TB := TB_in (List.mem_of_getElem? (i := 569) (by decide +kernel)) (by decide +kernel)
theorem lkRJ0_495 : Cond.methodLink RJ0 495 yJ1_charAt_3b067 ∈ TB := TB_in (List.mem_of_getElem? (i := 573) (by decide +kernel)) (by decide +kernel)
theorem lkRJ1_9 : Cond.methodLink RJ1 9 yJ0_checkIndex_df160 ∈ TB := TB_in (List.mem_of_getElem? (i := 576) (by decide +kernel)) (by decide +kernel)
theorem lkRJ0_1059 : Cond.methodLink RJ0 1059 yJ3_checkIndex_8e157 ∈ TB := TB_in (List.mem_of_getElem? (i := 581) (by decide +kernel)) (by decide +kernel)
theorem lkRJ0_498 : Cond.methodLink RJ0 498 yJ2_charAt_3b067 ∈ TB := TB_in (List.mem_of_getElem? (i := 584) (by decide +kernel)) (by decide +kernel)
theorem lkRJ2_67 : Cond.methodLink RJ2 67 yJ2_checkIndex_2214a ∈ TB := TB_in (List.mem_of_getElem? (i := 587) (by decide +kernel)) (by decide +kernel)
theorem lkRJ2_48 : Cond.methodLink RJ2 48 yJ2_length_9d52b ∈ TB := TB_in (List.mem_of_getElem? (i := 590) (by decide +kernel)) (by decide +kernel)
theorem lkRJ2_414 : Cond.methodLink RJ2 414 yJ0_checkIndex_df160 ∈ TB := TB_in (List.mem_of_getElem? (i := 593) (by decide +kernel)) (by decide +kernel)
theorem lkRJ2_71 : Cond.methodLink RJ2 71 yJ2_getChar_3b067 ∈ TB := TB_in (List.mem_of_getElem? (i := 594) (by decide +kernel)) (by decide +kernel)
theorem lkRX3_52 : Cond.methodLink RX3 52 yX3_fail ∈ TB := TB_in (List.mem_of_getElem? (i := 603) (by decide +kernel)) (by decide +kernel)
theorem lkRX3_62 : Cond.methodLink RX3 62 yX3_takeNumber ∈ TB := TB_in (List.mem_of_getElem? (i := 607) (by decide +kernel)) (by decide +kernel)
theorem lkRX3_97 : Cond.methodLink RX3 97 yX3_isNumberAhead ∈ TB := TB_in (List.mem_of_getElem? (i := 611) (by decide +kernel)) (by decide +kernel)
theorem lkRX3_133 : Cond.methodLink RX3 133 yX3_isDigit ∈ TB := TB_in (List.mem_of_getElem? (i := 615) (by decide +kernel)) (by decide +kernel)
theorem lkRX3_137 : Cond.methodLink RX3 137 yJ9_min_7cf53 ∈ TB := TB_in (List.mem_of_getElem? (i := 618) (by decide +kernel)) (by decide +kernel)
theorem lkRX3_66 : Cond.methodLink RX3 66 yX3_takeEnd ∈ TB := TB_in (List.mem_of_getElem? (i := 619) (by decide +kernel)) (by decide +kernel)
theorem lkRX3_69 : Cond.methodLink RX3 69 yX1_clear ∈ TB := TB_in (List.mem_of_getElem? (i := 623) (by decide +kernel)) (by decide +kernel)
theorem lkRX3_40 : Cond.methodLink RX3 40 yX3_isAtEnd ∈ TB := TB_in (List.mem_of_getElem? (i := 624) (by decide +kernel)) (by decide +kernel)
theorem lkRX3_44 : Cond.methodLink RX3 44 yX3_readStatement ∈ TB := TB_in (List.mem_of_getElem? (i := 628) (by decide +kernel)) (by decide +kernel)
theorem lkRX3_75 : Cond.methodLink RX3 75 yX3_readLine ∈ TB := TB_in (List.mem_of_getElem? (i := 633) (by decide +kernel)) (by decide +kernel)
theorem lkRX3_94 : Cond.methodLink RX3 94 yX3_needUnlike ∈ TB := TB_in (List.mem_of_getElem? (i := 637) (by decide +kernel)) (by decide +kernel)
theorem lkRX3_100 : Cond.methodLink RX3 100 yX1_putLine ∈ TB := TB_in (List.mem_of_getElem? (i := 641) (by decide +kernel)) (by decide +kernel)
theorem lkRX3_79 : Cond.methodLink RX3 79 yX3_readRing ∈ TB := TB_in (List.mem_of_getElem? (i := 643) (by decide +kernel)) (by decide +kernel)
theorem lkRX3_111 : Cond.methodLink RX3 111 yX1_putLineIfNone ∈ TB := TB_in (List.mem_of_getElem? (i := 648) (by decide +kernel)) (by decide +kernel)
theorem lkRX1_55 : Cond.methodLink RX1 55 yX1_putLine ∈ TB := TB_in (List.mem_of_getElem? (i := 652) (by decide +kernel)) (by decide +kernel)
theorem lkRX3_84 : Cond.methodLink RX3 84 yX3_readAll ∈ TB := TB_in (List.mem_of_getElem? (i := 654) (by decide +kernel)) (by decide +kernel)
theorem lkRX3_89 : Cond.methodLink RX3 89 yX3_readPair ∈ TB := TB_in (List.mem_of_getElem? (i := 659) (by decide +kernel)) (by decide +kernel)
theorem lkRX3_114 : Cond.methodLink RX3 114 yX1_isFree ∈ TB := TB_in (List.mem_of_getElem? (i := 663) (by decide +kernel)) (by decide +kernel)
theorem lkRX3_118 : Cond.methodLink RX3 118 yX1_putPair ∈ TB := TB_in (List.mem_of_getElem? (i := 667) (by decide +kernel)) (by decide +kernel)
theorem lkRX3_47 : Cond.methodLink RX3 47 yX1_pairsAreLines ∈ TB := TB_in (List.mem_of_getElem? (i := 671) (by decide +kernel)) (by decide +kernel)
theorem lkRX5_96 : Cond.methodLink RX5 96 yX5_becomeDraft ∈ TB := TB_in (List.mem_of_getElem? (i := 675) (by decide +kernel)) (by decide +kernel)
theorem lkRX5_105 : Cond.methodLink RX5 105 yX5_rememberLines ∈ TB := TB_in (List.mem_of_getElem? (i := 679) (by decide +kernel)) (by decide +kernel)
theorem lkRL_89 : Cond.methodLink RL 89 yL_join ∈ TB := TB_in (List.mem_of_getElem? (i := 683) (by decide +kernel)) (by decide +kernel)
theorem lkRL_15 : Cond.methodLink RL 15 yX5_join ∈ TB := TB_in (List.mem_of_getElem? (i := 687) (by decide +kernel)) (by decide +kernel)
theorem lkRX5_102 : Cond.methodLink RX5 102 yX5_needNode ∈ TB := TB_in (List.mem_of_getElem? (i := 691) (by decide +kernel)) (by decide +kernel)
theorem lkRX5_259 : Cond.methodLink RX5 259 yX1_holds ∈ TB := TB_in (List.mem_of_getElem? (i := 695) (by decide +kernel)) (by decide +kernel)
theorem lkRL_93 : Cond.methodLink RL 93 yL_cut ∈ TB := TB_in (List.mem_of_getElem? (i := 715) (by decide +kernel)) (by decide +kernel)
theorem lkRL_21 : Cond.methodLink RL 21 yX5_cut ∈ TB := TB_in (List.mem_of_getElem? (i := 719) (by decide +kernel)) (by decide +kernel)
theorem lkRX5_108 : Cond.methodLink RX5 108 yX5_needTwoNodes ∈ TB := TB_in (List.mem_of_getElem? (i := 723) (by decide +kernel)) (by decide +kernel)
theorem lkRX5_116 : Cond.methodLink RX5 116 yX5_needState ∈ TB := TB_in (List.mem_of_getElem? (i := 727) (by decide +kernel)) (by decide +kernel)
theorem lkRX5_119 : Cond.methodLink RX5 119 yX1_removeLine ∈ TB := TB_in (List.mem_of_getElem? (i := 747) (by decide +kernel)) (by decide +kernel)
theorem lkRX1_58 : Cond.methodLink RX1 58 yX1_removePair ∈ TB := TB_in (List.mem_of_getElem? (i := 751) (by decide +kernel)) (by decide +kernel)
theorem lkRL_97 : Cond.methodLink RL 97 yL_pair ∈ TB := TB_in (List.mem_of_getElem? (i := 755) (by decide +kernel)) (by decide +kernel)
theorem lkRL_27 : Cond.methodLink RL 27 yX5_pair ∈ TB := TB_in (List.mem_of_getElem? (i := 758) (by decide +kernel)) (by decide +kernel)
theorem lkRX5_122 : Cond.methodLink RX5 122 yX1_isFree ∈ TB := TB_in (List.mem_of_getElem? (i := 762) (by decide +kernel)) (by decide +kernel)
theorem lkRX5_129 : Cond.methodLink RX5 129 yX1_putPair ∈ TB := TB_in (List.mem_of_getElem? (i := 763) (by decide +kernel)) (by decide +kernel)
theorem lkRL_100 : Cond.methodLink RL 100 yL_part ∈ TB := TB_in (List.mem_of_getElem? (i := 764) (by decide +kernel)) (by decide +kernel)
theorem lkRL_30 : Cond.methodLink RL 30 yX5_part ∈ TB := TB_in (List.mem_of_getElem? (i := 767) (by decide +kernel)) (by decide +kernel)
theorem lkRX5_139 : Cond.methodLink RX5 139 yX1_removePair ∈ TB := TB_in (List.mem_of_getElem? (i := 771) (by decide +kernel)) (by decide +kernel)
theorem lkRL_103 : Cond.methodLink RL 103 yL_better ∈ TB := TB_in (List.mem_of_getElem? (i := 772) (by decide +kernel)) (by decide +kernel)
theorem lkRL_33 : Cond.methodLink RL 33 yX5_better ∈ TB := TB_in (List.mem_of_getElem? (i := 775) (by decide +kernel)) (by decide +kernel)
theorem lkRX5_142 : Cond.methodLink RX5 142 yX4_findBetterPath ∈ TB := TB_in (List.mem_of_getElem? (i := 779) (by decide +kernel)) (by decide +kernel)
theorem lkRX4_78 : Cond.methodLink RX4 78 yX1_isFree ∈ TB := TB_in (List.mem_of_getElem? (i := 783) (by decide +kernel)) (by decide +kernel)
theorem lkRX4_82 : Cond.methodLink RX4 82 yX4_spread ∈ TB := TB_in (List.mem_of_getElem? (i := 784) (by decide +kernel)) (by decide +kernel)
theorem lkRX4_46 : Cond.methodLink RX4 46 yX4_numberPairs ∈ TB := TB_in (List.mem_of_getElem? (i := 788) (by decide +kernel)) (by decide +kernel)
theorem lkRX4_50 : Cond.methodLink RX4 50 yJ7_fill_53178 ∈ TB := TB_in (List.mem_of_getElem? (i := 792) (by decide +kernel)) (by decide +kernel)
theorem lkRX4_56 : Cond.methodLink RX4 56 yX4_add ∈ TB := TB_in (List.mem_of_getElem? (i := 793) (by decide +kernel)) (by decide +kernel)
theorem lkRX4_60 : Cond.methodLink RX4 60 yX4_goOn ∈ TB := TB_in (List.mem_of_getElem? (i := 798) (by decide +kernel)) (by decide +kernel)
theorem lkRX4_85 : Cond.methodLink RX4 85 yX4_freeBeside ∈ TB := TB_in (List.mem_of_getElem? (i := 802) (by decide +kernel)) (by decide +kernel)
theorem lkRX4_96 : Cond.methodLink RX4 96 yX1_isLine ∈ TB := TB_in (List.mem_of_getElem? (i := 806) (by decide +kernel)) (by decide +kernel)
theorem lkRX4_89 : Cond.methodLink RX4 89 yX4_fillRow ∈ TB := TB_in (List.mem_of_getElem? (i := 807) (by decide +kernel)) (by decide +kernel)
theorem lkRX4_99 : Cond.methodLink RX4 99 yJ6_bitCount_0f7a4 ∈ TB := TB_in (List.mem_of_getElem? (i := 811) (by decide +kernel)) (by decide +kernel)
theorem lkRX4_92 : Cond.methodLink RX4 92 yX4_addToRow ∈ TB := TB_in (List.mem_of_getElem? (i := 817) (by decide +kernel)) (by decide +kernel)
theorem lkRX5_146 : Cond.methodLink RX5 146 yX4_betterPairs ∈ TB := TB_in (List.mem_of_getElem? (i := 821) (by decide +kernel)) (by decide +kernel)
theorem lkRX4_105 : Cond.methodLink RX4 105 yX1_putPair ∈ TB := TB_in (List.mem_of_getElem? (i := 825) (by decide +kernel)) (by decide +kernel)
theorem lkRL_110 : Cond.methodLink RL 110 yL_shrink ∈ TB := TB_in (List.mem_of_getElem? (i := 826) (by decide +kernel)) (by decide +kernel)
theorem lkRL_36 : Cond.methodLink RL 36 yX5_shrink ∈ TB := TB_in (List.mem_of_getElem? (i := 829) (by decide +kernel)) (by decide +kernel)
theorem lkRX5_164 : Cond.methodLink RX5 164 yX4_findFlower ∈ TB := TB_in (List.mem_of_getElem? (i := 833) (by decide +kernel)) (by decide +kernel)
theorem lkRX5_167 : Cond.methodLink RX5 167 yX4_shrinkInto ∈ TB := TB_in (List.mem_of_getElem? (i := 837) (by decide +kernel)) (by decide +kernel)
theorem lkRX4_109 : Cond.methodLink RX4 109 yX1_clear ∈ TB := TB_in (List.mem_of_getElem? (i := 841) (by decide +kernel)) (by decide +kernel)
theorem lkRX4_112 : Cond.methodLink RX4 112 yX4_numberAnew ∈ TB := TB_in (List.mem_of_getElem? (i := 842) (by decide +kernel)) (by decide +kernel)
theorem lkRX4_116 : Cond.methodLink RX4 116 yX1_weightOf ∈ TB := TB_in (List.mem_of_getElem? (i := 846) (by decide +kernel)) (by decide +kernel)
theorem lkRX4_119 : Cond.methodLink RX4 119 yJ9_max_7cf53 ∈ TB := TB_in (List.mem_of_getElem? (i := 847) (by decide +kernel)) (by decide +kernel)
theorem lkRX4_124 : Cond.methodLink RX4 124 yX1_putLine ∈ TB := TB_in (List.mem_of_getElem? (i := 848) (by decide +kernel)) (by decide +kernel)
theorem lkRL_117 : Cond.methodLink RL 117 yL_told ∈ TB := TB_in (List.mem_of_getElem? (i := 849) (by decide +kernel)) (by decide +kernel)
theorem lkRL_39 : Cond.methodLink RL 39 yX5_told ∈ TB := TB_in (List.mem_of_getElem? (i := 852) (by decide +kernel)) (by decide +kernel)
theorem lkRX5_180 : Cond.methodLink RX5 180 yX0_size ∈ TB := TB_in (List.mem_of_getElem? (i := 856) (by decide +kernel)) (by decide +kernel)
theorem lkRX5_183 : Cond.methodLink RX5 183 yX0_missing ∈ TB := TB_in (List.mem_of_getElem? (i := 860) (by decide +kernel)) (by decide +kernel)
theorem lkRX0_96 : Cond.methodLink RX0 96 yX0_size ∈ TB := TB_in (List.mem_of_getElem? (i := 864) (by decide +kernel)) (by decide +kernel)
theorem lkRX5_186 : Cond.methodLink RX5 186 yX1_weighPairs ∈ TB := TB_in (List.mem_of_getElem? (i := 865) (by decide +kernel)) (by decide +kernel)
theorem lkRX1_61 : Cond.methodLink RX1 61 yX1_weightOf ∈ TB := TB_in (List.mem_of_getElem? (i := 869) (by decide +kernel)) (by decide +kernel)
theorem lkRL_120 : Cond.methodLink RL 120 yL_line ∈ TB := TB_in (List.mem_of_getElem? (i := 870) (by decide +kernel)) (by decide +kernel)
theorem lkRL_42 : Cond.methodLink RL 42 yX5_line ∈ TB := TB_in (List.mem_of_getElem? (i := 873) (by decide +kernel)) (by decide +kernel)
theorem lkRX5_189 : Cond.methodLink RX5 189 yX5_asNumber ∈ TB := TB_in (List.mem_of_getElem? (i := 877) (by decide +kernel)) (by decide +kernel)
theorem lkRX5_197 : Cond.methodLink RX5 197 yX0_someHave ∈ TB := TB_in (List.mem_of_getElem? (i := 880) (by decide +kernel)) (by decide +kernel)
theorem lkRX0_102 : Cond.methodLink RX0 102 yX0_without ∈ TB := TB_in (List.mem_of_getElem? (i := 884) (by decide +kernel)) (by decide +kernel)
theorem lkRX5_200 : Cond.methodLink RX5 200 yX0_allHave ∈ TB := TB_in (List.mem_of_getElem? (i := 888) (by decide +kernel)) (by decide +kernel)
theorem lkRX0_105 : Cond.methodLink RX0 105 yX0_someHave ∈ TB := TB_in (List.mem_of_getElem? (i := 892) (by decide +kernel)) (by decide +kernel)
theorem lkRX0_108 : Cond.methodLink RX0 108 yX0_count ∈ TB := TB_in (List.mem_of_getElem? (i := 893) (by decide +kernel)) (by decide +kernel)
theorem lkRL_123 : Cond.methodLink RL 123 yL_node ∈ TB := TB_in (List.mem_of_getElem? (i := 894) (by decide +kernel)) (by decide +kernel)
theorem lkRL_45 : Cond.methodLink RL 45 yX5_node ∈ TB := TB_in (List.mem_of_getElem? (i := 897) (by decide +kernel)) (by decide +kernel)
theorem lkRX5_206 : Cond.methodLink RX5 206 yJ6_bitCount_0f7a4 ∈ TB := TB_in (List.mem_of_getElem? (i := 901) (by decide +kernel)) (by decide +kernel)
theorem lkRX5_212 : Cond.methodLink RX5 212 yX5_labelOf ∈ TB := TB_in (List.mem_of_getElem? (i := 902) (by decide +kernel)) (by decide +kernel)
theorem lkRX5_221 : Cond.methodLink RX5 221 yX4_label ∈ TB := TB_in (List.mem_of_getElem? (i := 906) (by decide +kernel)) (by decide +kernel)
theorem lkRX4_128 : Cond.methodLink RX4 128 yX4_markEnds ∈ TB := TB_in (List.mem_of_getElem? (i := 910) (by decide +kernel)) (by decide +kernel)
theorem lkRX5_224 : Cond.methodLink RX5 224 yX4_bitsOfLabel ∈ TB := TB_in (List.mem_of_getElem? (i := 914) (by decide +kernel)) (by decide +kernel)
theorem lkRX4_132 : Cond.methodLink RX4 132 yX1_all ∈ TB := TB_in (List.mem_of_getElem? (i := 918) (by decide +kernel)) (by decide +kernel)
theorem lkRX5_293 : Cond.methodLink RX5 293 yX5_hasBit ∈ TB := TB_in (List.mem_of_getElem? (i := 919) (by decide +kernel)) (by decide +kernel)
theorem lkRX5_215 : Cond.methodLink RX5 215 yX5_setOf ∈ TB := TB_in (List.mem_of_getElem? (i := 920) (by decide +kernel)) (by decide +kernel)
theorem lkRX5_218 : Cond.methodLink RX5 218 yX0_bitsOfSet ∈ TB := TB_in (List.mem_of_getElem? (i := 924) (by decide +kernel)) (by decide +kernel)
theorem lkRL_126 : Cond.methodLink RL 126 yL_sets ∈ TB := TB_in (List.mem_of_getElem? (i := 928) (by decide +kernel)) (by decide +kernel)
theorem lkRL_48 : Cond.methodLink RL 48 yX5_sets ∈ TB := TB_in (List.mem_of_getElem? (i := 931) (by decide +kernel)) (by decide +kernel)
theorem lkRL_129 : Cond.methodLink RL 129 yL_odd ∈ TB := TB_in (List.mem_of_getElem? (i := 935) (by decide +kernel)) (by decide +kernel)
theorem lkRL_51 : Cond.methodLink RL 51 yX5_odd ∈ TB := TB_in (List.mem_of_getElem? (i := 938) (by decide +kernel)) (by decide +kernel)
theorem lkRX5_228 : Cond.methodLink RX5 228 yX1_all ∈ TB := TB_in (List.mem_of_getElem? (i := 942) (by decide +kernel)) (by decide +kernel)
theorem lkRX5_231 : Cond.methodLink RX5 231 yX2_learn ∈ TB := TB_in (List.mem_of_getElem? (i := 943) (by decide +kernel)) (by decide +kernel)
theorem lkRX2_23 : Cond.methodLink RX2 23 yX1_all ∈ TB := TB_in (List.mem_of_getElem? (i := 947) (by decide +kernel)) (by decide +kernel)
theorem lkRX2_31 : Cond.methodLink RX2 31 yX2_learnSet ∈ TB := TB_in (List.mem_of_getElem? (i := 948) (by decide +kernel)) (by decide +kernel)
theorem lkRX2_35 : Cond.methodLink RX2 35 yX2_aroundOf ∈ TB := TB_in (List.mem_of_getElem? (i := 952) (by decide +kernel)) (by decide +kernel)
theorem lkRX2_42 : Cond.methodLink RX2 42 yX2_partOf ∈ TB := TB_in (List.mem_of_getElem? (i := 956) (by decide +kernel)) (by decide +kernel)
theorem lkRX2_46 : Cond.methodLink RX2 46 yX2_oddIn ∈ TB := TB_in (List.mem_of_getElem? (i := 960) (by decide +kernel)) (by decide +kernel)
theorem lkRX2_49 : Cond.methodLink RX2 49 yJ6_bitCount_0f7a4 ∈ TB := TB_in (List.mem_of_getElem? (i := 964) (by decide +kernel)) (by decide +kernel)
theorem lkRX5_233 : Cond.methodLink RX5 233 yX2_oddWithout ∈ TB := TB_in (List.mem_of_getElem? (i := 965) (by decide +kernel)) (by decide +kernel)
theorem lkRL_132 : Cond.methodLink RL 132 yL_barrier ∈ TB := TB_in (List.mem_of_getElem? (i := 969) (by decide +kernel)) (by decide +kernel)
theorem lkRL_54 : Cond.methodLink RL 54 yX5_barrier ∈ TB := TB_in (List.mem_of_getElem? (i := 972) (by decide +kernel)) (by decide +kernel)
theorem lkRX5_236 : Cond.methodLink RX5 236 yX2_smallestBarrier ∈ TB := TB_in (List.mem_of_getElem? (i := 976) (by decide +kernel)) (by decide +kernel)
theorem lkRX2_57 : Cond.methodLink RX2 57 yX2_isBarrier ∈ TB := TB_in (List.mem_of_getElem? (i := 980) (by decide +kernel)) (by decide +kernel)
theorem lkRX2_54 : Cond.methodLink RX2 54 yX2_oddWithout ∈ TB := TB_in (List.mem_of_getElem? (i := 984) (by decide +kernel)) (by decide +kernel)
theorem lkRX5_239 : Cond.methodLink RX5 239 yX2_greatestBarrier ∈ TB := TB_in (List.mem_of_getElem? (i := 985) (by decide +kernel)) (by decide +kernel)
theorem lkRL_139 : Cond.methodLink RL 139 yL_heavy ∈ TB := TB_in (List.mem_of_getElem? (i := 989) (by decide +kernel)) (by decide +kernel)
theorem lkRL_57 : Cond.methodLink RL 57 yX5_heavy ∈ TB := TB_in (List.mem_of_getElem? (i := 992) (by decide +kernel)) (by decide +kernel)
theorem lkRX5_245 : Cond.methodLink RX5 245 yX0_mostWeight ∈ TB := TB_in (List.mem_of_getElem? (i := 996) (by decide +kernel)) (by decide +kernel)
theorem lkRX5_248 : Cond.methodLink RX5 248 yX0_leastWeight ∈ TB := TB_in (List.mem_of_getElem? (i := 1000) (by decide +kernel)) (by decide +kernel)
theorem lkRL_142 : Cond.methodLink RL 142 yL_path ∈ TB := TB_in (List.mem_of_getElem? (i := 1004) (by decide +kernel)) (by decide +kernel)
theorem lkRL_60 : Cond.methodLink RL 60 yX5_path ∈ TB := TB_in (List.mem_of_getElem? (i := 1007) (by decide +kernel)) (by decide +kernel)
theorem lkRX5_254 : Cond.methodLink RX5 254 yX5_placeInRow ∈ TB := TB_in (List.mem_of_getElem? (i := 1011) (by decide +kernel)) (by decide +kernel)
theorem lkRL_145 : Cond.methodLink RL 145 yL_flower ∈ TB := TB_in (List.mem_of_getElem? (i := 1016) (by decide +kernel)) (by decide +kernel)
theorem lkRL_63 : Cond.methodLink RL 63 yX5_flower ∈ TB := TB_in (List.mem_of_getElem? (i := 1019) (by decide +kernel)) (by decide +kernel)
theorem lkRL_69 : Cond.methodLink RL 69 yX6_init ∈ TB := TB_in (List.mem_of_getElem? (i := 1025) (by decide +kernel)) (by decide +kernel)
theorem lkRX6_61 : Cond.methodLink RX6 61 yX6_begins ∈ TB := TB_in (List.mem_of_getElem? (i := 1032) (by decide +kernel)) (by decide +kernel)
theorem lkRX6_65 : Cond.methodLink RX6 65 yX6_joins ∈ TB := TB_in (List.mem_of_getElem? (i := 1035) (by decide +kernel)) (by decide +kernel)
theorem lkRX6_69 : Cond.methodLink RX6 69 yX6_changes ∈ TB := TB_in (List.mem_of_getElem? (i := 1038) (by decide +kernel)) (by decide +kernel)
theorem lkRL_81 : Cond.methodLink RL 81 yX6_thrown ∈ TB := TB_in (List.mem_of_getElem? (i := 1125) (by decide +kernel)) (by decide +kernel)
theorem lkRL_74 : Cond.methodLink RL 74 yX6_feed ∈ TB := TB_in (List.mem_of_getElem? (i := 1129) (by decide +kernel)) (by decide +kernel)
theorem lkRL_80 : Cond.methodLink RL 80 yX6_text ∈ TB := TB_in (List.mem_of_getElem? (i := 1133) (by decide +kernel)) (by decide +kernel)
theorem lkRX6_111 : Cond.methodLink RX6 111 yX6_in ∈ TB := TB_in (List.mem_of_getElem? (i := 1137) (by decide +kernel)) (by decide +kernel)
theorem lkRX6_159 : Cond.methodLink RX6 159 yX6_bad ∈ TB := TB_in (List.mem_of_getElem? (i := 1140) (by decide +kernel)) (by decide +kernel)
theorem lkRX6_139 : Cond.methodLink RX6 139 yX6_takes ∈ TB := TB_in (List.mem_of_getElem? (i := 1145) (by decide +kernel)) (by decide +kernel)
theorem lkRX6_94 : Cond.methodLink RX6 94 yX6_fine ∈ TB := TB_in (List.mem_of_getElem? (i := 1149) (by decide +kernel)) (by decide +kernel)
theorem lkRX6_98 : Cond.methodLink RX6 98 yX6_here ∈ TB := TB_in (List.mem_of_getElem? (i := 1153) (by decide +kernel)) (by decide +kernel)
theorem lkRX6_84 : Cond.methodLink RX6 84 yX6_byteAt ∈ TB := TB_in (List.mem_of_getElem? (i := 1157) (by decide +kernel)) (by decide +kernel)
theorem lkRX6_102 : Cond.methodLink RX6 102 yJ0_length_8abf5 ∈ TB := TB_in (List.mem_of_getElem? (i := 1161) (by decide +kernel)) (by decide +kernel)
theorem lkRX6_107 : Cond.methodLink RX6 107 yJ0_charAt_5068e ∈ TB := TB_in (List.mem_of_getElem? (i := 1162) (by decide +kernel)) (by decide +kernel)
theorem lkRX6_115 : Cond.methodLink RX6 115 yX6_wrong ∈ TB := TB_in (List.mem_of_getElem? (i := 1163) (by decide +kernel)) (by decide +kernel)
theorem lkRX6_128 : Cond.methodLink RX6 128 yX6_number ∈ TB := TB_in (List.mem_of_getElem? (i := 1167) (by decide +kernel)) (by decide +kernel)
theorem lkRX6_119 : Cond.methodLink RX6 119 yX6_isDigit ∈ TB := TB_in (List.mem_of_getElem? (i := 1171) (by decide +kernel)) (by decide +kernel)
theorem lkRX6_124 : Cond.methodLink RX6 124 yX6_less ∈ TB := TB_in (List.mem_of_getElem? (i := 1175) (by decide +kernel)) (by decide +kernel)
theorem lkRX6_155 : Cond.methodLink RX6 155 yX6_must ∈ TB := TB_in (List.mem_of_getElem? (i := 1178) (by decide +kernel)) (by decide +kernel)
theorem lkRX6_165 : Cond.methodLink RX6 165 yX6_readsLine ∈ TB := TB_in (List.mem_of_getElem? (i := 1182) (by decide +kernel)) (by decide +kernel)
theorem lkRX6_131 : Cond.methodLink RX6 131 yX6_nodeTold ∈ TB := TB_in (List.mem_of_getElem? (i := 1187) (by decide +kernel)) (by decide +kernel)
theorem lkRX6_145 : Cond.methodLink RX6 145 yX6_readsRing ∈ TB := TB_in (List.mem_of_getElem? (i := 1192) (by decide +kernel)) (by decide +kernel)
theorem lkRX6_134 : Cond.methodLink RX6 134 yX6_comes ∈ TB := TB_in (List.mem_of_getElem? (i := 1196) (by decide +kernel)) (by decide +kernel)
theorem lkRX6_168 : Cond.methodLink RX6 168 yX6_arePairs ∈ TB := TB_in (List.mem_of_getElem? (i := 1202) (by decide +kernel)) (by decide +kernel)
theorem lkRX6_171 : Cond.methodLink RX6 171 yX6_remembers ∈ TB := TB_in (List.mem_of_getElem? (i := 1206) (by decide +kernel)) (by decide +kernel)
theorem lkRX6_174 : Cond.methodLink RX6 174 yX6_copies ∈ TB := TB_in (List.mem_of_getElem? (i := 1210) (by decide +kernel)) (by decide +kernel)
theorem lkRX6_178 : Cond.methodLink RX6 178 yX6_lines ∈ TB := TB_in (List.mem_of_getElem? (i := 1213) (by decide +kernel)) (by decide +kernel)
theorem lkRX6_181 : Cond.methodLink RX6 181 yX6_nodes ∈ TB := TB_in (List.mem_of_getElem? (i := 1217) (by decide +kernel)) (by decide +kernel)
theorem lkRX6_203 : Cond.methodLink RX6 203 yX6_weight ∈ TB := TB_in (List.mem_of_getElem? (i := 1221) (by decide +kernel)) (by decide +kernel)
theorem lkRL_88 : Cond.methodLink RL 88 yX6_fault ∈ TB := TB_in (List.mem_of_getElem? (i := 1225) (by decide +kernel)) (by decide +kernel)
theorem lkRL_116 : Cond.methodLink RL 116 yX6_undo ∈ TB := TB_in (List.mem_of_getElem? (i := 1229) (by decide +kernel)) (by decide +kernel)
theorem lkRL_92 : Cond.methodLink RL 92 yX6_join ∈ TB := TB_in (List.mem_of_getElem? (i := 1233) (by decide +kernel)) (by decide +kernel)
theorem lkRX6_245 : Cond.methodLink RX6 245 yX6_isNode ∈ TB := TB_in (List.mem_of_getElem? (i := 1237) (by decide +kernel)) (by decide +kernel)
theorem lkRL_96 : Cond.methodLink RL 96 yX6_cut ∈ TB := TB_in (List.mem_of_getElem? (i := 1241) (by decide +kernel)) (by decide +kernel)
theorem lkRX6_206 : Cond.methodLink RX6 206 yX6_mate ∈ TB := TB_in (List.mem_of_getElem? (i := 1245) (by decide +kernel)) (by decide +kernel)
theorem lkRX6_248 : Cond.methodLink RX6 248 yX6_parts ∈ TB := TB_in (List.mem_of_getElem? (i := 1249) (by decide +kernel)) (by decide +kernel)
theorem lkRL_99 : Cond.methodLink RL 99 yX6_pair ∈ TB := TB_in (List.mem_of_getElem? (i := 1253) (by decide +kernel)) (by decide +kernel)
theorem lkRX6_251 : Cond.methodLink RX6 251 yX6_mates ∈ TB := TB_in (List.mem_of_getElem? (i := 1257) (by decide +kernel)) (by decide +kernel)
theorem lkRX6_254 : Cond.methodLink RX6 254 yX6_pairsNow ∈ TB := TB_in (List.mem_of_getElem? (i := 1261) (by decide +kernel)) (by decide +kernel)
theorem lkRL_102 : Cond.methodLink RL 102 yX6_part ∈ TB := TB_in (List.mem_of_getElem? (i := 1265) (by decide +kernel)) (by decide +kernel)
theorem lkRL_105 : Cond.methodLink RL 105 yX6_better ∈ TB := TB_in (List.mem_of_getElem? (i := 1269) (by decide +kernel)) (by decide +kernel)
theorem lkRX6_257 : Cond.methodLink RX6 257 yX6_findsPath ∈ TB := TB_in (List.mem_of_getElem? (i := 1273) (by decide +kernel)) (by decide +kernel)
theorem lkRX6_233 : Cond.methodLink RX6 233 yX6_betters ∈ TB := TB_in (List.mem_of_getElem? (i := 1277) (by decide +kernel)) (by decide +kernel)
theorem lkRX6_183 : Cond.methodLink RX6 183 yX6_has ∈ TB := TB_in (List.mem_of_getElem? (i := 1281) (by decide +kernel)) (by decide +kernel)
theorem lkRL_109 : Cond.methodLink RL 109 yX6_finish ∈ TB := TB_in (List.mem_of_getElem? (i := 1284) (by decide +kernel)) (by decide +kernel)
theorem lkRX6_260 : Cond.methodLink RX6 260 yX6_laysFirst ∈ TB := TB_in (List.mem_of_getElem? (i := 1288) (by decide +kernel)) (by decide +kernel)
theorem lkRX6_209 : Cond.methodLink RX6 209 yX6_lays ∈ TB := TB_in (List.mem_of_getElem? (i := 1292) (by decide +kernel)) (by decide +kernel)
theorem lkRX6_194 : Cond.methodLink RX6 194 yX6_all ∈ TB := TB_in (List.mem_of_getElem? (i := 1296) (by decide +kernel)) (by decide +kernel)
theorem lkRX6_196 : Cond.methodLink RX6 196 yX6_first ∈ TB := TB_in (List.mem_of_getElem? (i := 1300) (by decide +kernel)) (by decide +kernel)
theorem lkRX6_199 : Cond.methodLink RX6 199 yX6_adds ∈ TB := TB_in (List.mem_of_getElem? (i := 1303) (by decide +kernel)) (by decide +kernel)
theorem lkRL_112 : Cond.methodLink RL 112 yX6_shrink ∈ TB := TB_in (List.mem_of_getElem? (i := 1308) (by decide +kernel)) (by decide +kernel)
theorem lkRX6_263 : Cond.methodLink RX6 263 yX6_findsFlower ∈ TB := TB_in (List.mem_of_getElem? (i := 1312) (by decide +kernel)) (by decide +kernel)
theorem lkRX6_239 : Cond.methodLink RX6 239 yX6_rings ∈ TB := TB_in (List.mem_of_getElem? (i := 1316) (by decide +kernel)) (by decide +kernel)
theorem lkRL_119 : Cond.methodLink RL 119 yX6_told ∈ TB := TB_in (List.mem_of_getElem? (i := 1320) (by decide +kernel)) (by decide +kernel)
theorem lkRX6_266 : Cond.methodLink RX6 266 yX6_missing ∈ TB := TB_in (List.mem_of_getElem? (i := 1324) (by decide +kernel)) (by decide +kernel)
theorem lkRL_122 : Cond.methodLink RL 122 yX6_line ∈ TB := TB_in (List.mem_of_getElem? (i := 1328) (by decide +kernel)) (by decide +kernel)
theorem lkRL_125 : Cond.methodLink RL 125 yX6_node ∈ TB := TB_in (List.mem_of_getElem? (i := 1332) (by decide +kernel)) (by decide +kernel)
theorem lkRX6_269 : Cond.methodLink RX6 269 yX6_labels ∈ TB := TB_in (List.mem_of_getElem? (i := 1336) (by decide +kernel)) (by decide +kernel)
theorem lkRX6_230 : Cond.methodLink RX6 230 yX6_goes ∈ TB := TB_in (List.mem_of_getElem? (i := 1340) (by decide +kernel)) (by decide +kernel)
theorem lkRX6_221 : Cond.methodLink RX6 221 yX6_bits ∈ TB := TB_in (List.mem_of_getElem? (i := 1344) (by decide +kernel)) (by decide +kernel)
theorem lkRX6_272 : Cond.methodLink RX6 272 yX6_setOf ∈ TB := TB_in (List.mem_of_getElem? (i := 1347) (by decide +kernel)) (by decide +kernel)
theorem lkRX6_212 : Cond.methodLink RX6 212 yX6_missed ∈ TB := TB_in (List.mem_of_getElem? (i := 1351) (by decide +kernel)) (by decide +kernel)
theorem lkRX6_215 : Cond.methodLink RX6 215 yX6_beside ∈ TB := TB_in (List.mem_of_getElem? (i := 1355) (by decide +kernel)) (by decide +kernel)
theorem lkRL_128 : Cond.methodLink RL 128 yX6_sets ∈ TB := TB_in (List.mem_of_getElem? (i := 1359) (by decide +kernel)) (by decide +kernel)
theorem lkRL_131 : Cond.methodLink RL 131 yX6_odd ∈ TB := TB_in (List.mem_of_getElem? (i := 1363) (by decide +kernel)) (by decide +kernel)
theorem lkRX6_275 : Cond.methodLink RX6 275 yX6_oddOf ∈ TB := TB_in (List.mem_of_getElem? (i := 1367) (by decide +kernel)) (by decide +kernel)
theorem lkRX6_218 : Cond.methodLink RX6 218 yX6_partOf ∈ TB := TB_in (List.mem_of_getElem? (i := 1371) (by decide +kernel)) (by decide +kernel)
theorem lkRL_134 : Cond.methodLink RL 134 yX6_barrier ∈ TB := TB_in (List.mem_of_getElem? (i := 1375) (by decide +kernel)) (by decide +kernel)
theorem lkRL_138 : Cond.methodLink RL 138 yX6_ways ∈ TB := TB_in (List.mem_of_getElem? (i := 1379) (by decide +kernel)) (by decide +kernel)
theorem lkRL_141 : Cond.methodLink RL 141 yX6_heavy ∈ TB := TB_in (List.mem_of_getElem? (i := 1383) (by decide +kernel)) (by decide +kernel)
theorem lkRL_144 : Cond.methodLink RL 144 yX6_path ∈ TB := TB_in (List.mem_of_getElem? (i := 1387) (by decide +kernel)) (by decide +kernel)
theorem lkRX6_278 : Cond.methodLink RX6 278 yX6_rowAt ∈ TB := TB_in (List.mem_of_getElem? (i := 1391) (by decide +kernel)) (by decide +kernel)
theorem lkRL_147 : Cond.methodLink RL 147 yX6_flower ∈ TB := TB_in (List.mem_of_getElem? (i := 1395) (by decide +kernel)) (by decide +kernel)
theorem lkRL_152 : Cond.methodLink RL 152 yX6_print ∈ TB := TB_in (List.mem_of_getElem? (i := 1399) (by decide +kernel)) (by decide +kernel)
theorem lkRL_156 : Cond.methodLink RL 156 yX6_status ∈ TB := TB_in (List.mem_of_getElem? (i := 1404) (by decide +kernel)) (by decide +kernel)
theorem fRX1_25 : Fs RX1 25 1 0 := ⟨by decide, by decide, TB_in (List.mem_of_getElem? (i := 131) (by decide +kernel)) (by decide +kernel)⟩
theorem fRX2_28 : Fs RX2 28 1 0 := ⟨by decide, by decide, TB_in (List.mem_of_getElem? (i := 132) (by decide +kernel)) (by decide +kernel)⟩
theorem fRX0_33 : Fs RX0 33 1 0 := ⟨by decide, by decide, TB_in (List.mem_of_getElem? (i := 133) (by decide +kernel)) (by decide +kernel)⟩
theorem fRX4_63 : Fs RX4 63 1 0 := ⟨by decide, by decide, TB_in (List.mem_of_getElem? (i := 134) (by decide +kernel)) (by decide +kernel)⟩
theorem fRX3_92 : Fs RX3 92 1 0 := ⟨by decide, by decide, TB_in (List.mem_of_getElem? (i := 135) (by decide +kernel)) (by decide +kernel)⟩
theorem fRX5_171 : Fs RX5 171 1 0 := ⟨by decide, by decide, TB_in (List.mem_of_getElem? (i := 136) (by decide +kernel)) (by decide +kernel)⟩
theorem fRX1_29 : Fs RX1 29 1 1 := ⟨by decide, by decide, TB_in (List.mem_of_getElem? (i := 137) (by decide +kernel)) (by decide +kernel)⟩
theorem fRX5_99 : Fs RX5 99 1 1 := ⟨by decide, by decide, TB_in (List.mem_of_getElem? (i := 138) (by decide +kernel)) (by decide +kernel)⟩
theorem fRX1_9 : Fs RX1 9 1 2 := ⟨by decide, by decide, TB_in (List.mem_of_getElem? (i := 139) (by decide +kernel)) (by decide +kernel)⟩
theorem fRX1_15 : Fs RX1 15 1 3 := ⟨by decide, by decide, TB_in (List.mem_of_getElem? (i := 140) (by decide +kernel)) (by decide +kernel)⟩
theorem fRX2_39 : Fs RX2 39 1 3 := ⟨by decide, by decide, TB_in (List.mem_of_getElem? (i := 141) (by decide +kernel)) (by decide +kernel)⟩
theorem fRX4_71 : Fs RX4 71 1 3 := ⟨by decide, by decide, TB_in (List.mem_of_getElem? (i := 142) (by decide +kernel)) (by decide +kernel)⟩
theorem fRX0_54 : Fs RX0 54 1 3 := ⟨by decide, by decide, TB_in (List.mem_of_getElem? (i := 143) (by decide +kernel)) (by decide +kernel)⟩
theorem fRX5_203 : Fs RX5 203 1 3 := ⟨by decide, by decide, TB_in (List.mem_of_getElem? (i := 144) (by decide +kernel)) (by decide +kernel)⟩
theorem fRX1_18 : Fs RX1 18 1 4 := ⟨by decide, by decide, TB_in (List.mem_of_getElem? (i := 145) (by decide +kernel)) (by decide +kernel)⟩
theorem fRX4_68 : Fs RX4 68 1 4 := ⟨by decide, by decide, TB_in (List.mem_of_getElem? (i := 146) (by decide +kernel)) (by decide +kernel)⟩
theorem fRX5_136 : Fs RX5 136 1 4 := ⟨by decide, by decide, TB_in (List.mem_of_getElem? (i := 147) (by decide +kernel)) (by decide +kernel)⟩
theorem fRX3_26 : Fs RX3 26 3 0 := ⟨by decide, by decide, TB_in (List.mem_of_getElem? (i := 168) (by decide +kernel)) (by decide +kernel)⟩
theorem fRX5_93 : Fs RX5 93 3 0 := ⟨by decide, by decide, TB_in (List.mem_of_getElem? (i := 169) (by decide +kernel)) (by decide +kernel)⟩
theorem fRX3_29 : Fs RX3 29 3 1 := ⟨by decide, by decide, TB_in (List.mem_of_getElem? (i := 170) (by decide +kernel)) (by decide +kernel)⟩
theorem fRX5_90 : Fs RX5 90 3 1 := ⟨by decide, by decide, TB_in (List.mem_of_getElem? (i := 171) (by decide +kernel)) (by decide +kernel)⟩
theorem fRX3_15 : Fs RX3 15 3 2 := ⟨by decide, by decide, TB_in (List.mem_of_getElem? (i := 172) (by decide +kernel)) (by decide +kernel)⟩
theorem fRX3_19 : Fs RX3 19 3 3 := ⟨by decide, by decide, TB_in (List.mem_of_getElem? (i := 173) (by decide +kernel)) (by decide +kernel)⟩
theorem fRX3_23 : Fs RX3 23 3 4 := ⟨by decide, by decide, TB_in (List.mem_of_getElem? (i := 174) (by decide +kernel)) (by decide +kernel)⟩
theorem fRX3_108 : Fs RX3 108 3 5 := ⟨by decide, by decide, TB_in (List.mem_of_getElem? (i := 175) (by decide +kernel)) (by decide +kernel)⟩
theorem fRX3_32 : Fs RX3 32 3 6 := ⟨by decide, by decide, TB_in (List.mem_of_getElem? (i := 176) (by decide +kernel)) (by decide +kernel)⟩
theorem fRX3_9 : Fs RX3 9 3 7 := ⟨by decide, by decide, TB_in (List.mem_of_getElem? (i := 177) (by decide +kernel)) (by decide +kernel)⟩
theorem fRX0_9 : Fs RX0 9 0 0 := ⟨by decide, by decide, TB_in (List.mem_of_getElem? (i := 201) (by decide +kernel)) (by decide +kernel)⟩
theorem fRX5_287 : Fs RX5 287 0 0 := ⟨by decide, by decide, TB_in (List.mem_of_getElem? (i := 202) (by decide +kernel)) (by decide +kernel)⟩
theorem fRX0_15 : Fs RX0 15 0 1 := ⟨by decide, by decide, TB_in (List.mem_of_getElem? (i := 203) (by decide +kernel)) (by decide +kernel)⟩
theorem fRX5_155 : Fs RX5 155 0 1 := ⟨by decide, by decide, TB_in (List.mem_of_getElem? (i := 204) (by decide +kernel)) (by decide +kernel)⟩
theorem fRX0_23 : Fs RX0 23 0 2 := ⟨by decide, by decide, TB_in (List.mem_of_getElem? (i := 205) (by decide +kernel)) (by decide +kernel)⟩
theorem fRX0_19 : Fs RX0 19 0 3 := ⟨by decide, by decide, TB_in (List.mem_of_getElem? (i := 206) (by decide +kernel)) (by decide +kernel)⟩
theorem fRX2_9 : Fs RX2 9 2 0 := ⟨by decide, by decide, TB_in (List.mem_of_getElem? (i := 223) (by decide +kernel)) (by decide +kernel)⟩
theorem fRX5_291 : Fs RX5 291 2 0 := ⟨by decide, by decide, TB_in (List.mem_of_getElem? (i := 224) (by decide +kernel)) (by decide +kernel)⟩
theorem fRX2_15 : Fs RX2 15 2 1 := ⟨by decide, by decide, TB_in (List.mem_of_getElem? (i := 225) (by decide +kernel)) (by decide +kernel)⟩
theorem fRX2_19 : Fs RX2 19 2 2 := ⟨by decide, by decide, TB_in (List.mem_of_getElem? (i := 226) (by decide +kernel)) (by decide +kernel)⟩
theorem fRX4_9 : Fs RX4 9 4 0 := ⟨by decide, by decide, TB_in (List.mem_of_getElem? (i := 240) (by decide +kernel)) (by decide +kernel)⟩
theorem fRX5_281 : Fs RX5 281 4 0 := ⟨by decide, by decide, TB_in (List.mem_of_getElem? (i := 241) (by decide +kernel)) (by decide +kernel)⟩
theorem fRX4_15 : Fs RX4 15 4 1 := ⟨by decide, by decide, TB_in (List.mem_of_getElem? (i := 242) (by decide +kernel)) (by decide +kernel)⟩
theorem fRX5_251 : Fs RX5 251 4 1 := ⟨by decide, by decide, TB_in (List.mem_of_getElem? (i := 243) (by decide +kernel)) (by decide +kernel)⟩
theorem fRX4_19 : Fs RX4 19 4 2 := ⟨by decide, by decide, TB_in (List.mem_of_getElem? (i := 244) (by decide +kernel)) (by decide +kernel)⟩
theorem fRX4_22 : Fs RX4 22 4 3 := ⟨by decide, by decide, TB_in (List.mem_of_getElem? (i := 245) (by decide +kernel)) (by decide +kernel)⟩
theorem fRX4_25 : Fs RX4 25 4 4 := ⟨by decide, by decide, TB_in (List.mem_of_getElem? (i := 246) (by decide +kernel)) (by decide +kernel)⟩
theorem fRX4_28 : Fs RX4 28 4 5 := ⟨by decide, by decide, TB_in (List.mem_of_getElem? (i := 247) (by decide +kernel)) (by decide +kernel)⟩
theorem fRX4_31 : Fs RX4 31 4 6 := ⟨by decide, by decide, TB_in (List.mem_of_getElem? (i := 248) (by decide +kernel)) (by decide +kernel)⟩
theorem fRX4_34 : Fs RX4 34 4 7 := ⟨by decide, by decide, TB_in (List.mem_of_getElem? (i := 249) (by decide +kernel)) (by decide +kernel)⟩
theorem fRX4_37 : Fs RX4 37 4 8 := ⟨by decide, by decide, TB_in (List.mem_of_getElem? (i := 250) (by decide +kernel)) (by decide +kernel)⟩
theorem fRX4_40 : Fs RX4 40 4 9 := ⟨by decide, by decide, TB_in (List.mem_of_getElem? (i := 251) (by decide +kernel)) (by decide +kernel)⟩
theorem fRX4_43 : Fs RX4 43 4 10 := ⟨by decide, by decide, TB_in (List.mem_of_getElem? (i := 252) (by decide +kernel)) (by decide +kernel)⟩
theorem fRX5_9 : Fs RX5 9 5 0 := ⟨by decide, by decide, TB_in (List.mem_of_getElem? (i := 292) (by decide +kernel)) (by decide +kernel)⟩
theorem fRX5_13 : Fs RX5 13 5 1 := ⟨by decide, by decide, TB_in (List.mem_of_getElem? (i := 293) (by decide +kernel)) (by decide +kernel)⟩
theorem fRX5_17 : Fs RX5 17 5 2 := ⟨by decide, by decide, TB_in (List.mem_of_getElem? (i := 294) (by decide +kernel)) (by decide +kernel)⟩
theorem fRX5_23 : Fs RX5 23 5 3 := ⟨by decide, by decide, TB_in (List.mem_of_getElem? (i := 295) (by decide +kernel)) (by decide +kernel)⟩
theorem fRX5_27 : Fs RX5 27 5 4 := ⟨by decide, by decide, TB_in (List.mem_of_getElem? (i := 296) (by decide +kernel)) (by decide +kernel)⟩
theorem fRX5_30 : Fs RX5 30 5 5 := ⟨by decide, by decide, TB_in (List.mem_of_getElem? (i := 297) (by decide +kernel)) (by decide +kernel)⟩
theorem fRX5_34 : Fs RX5 34 5 6 := ⟨by decide, by decide, TB_in (List.mem_of_getElem? (i := 298) (by decide +kernel)) (by decide +kernel)⟩
theorem fRX5_40 : Fs RX5 40 5 7 := ⟨by decide, by decide, TB_in (List.mem_of_getElem? (i := 299) (by decide +kernel)) (by decide +kernel)⟩
theorem fRX5_49 : Fs RX5 49 5 8 := ⟨by decide, by decide, TB_in (List.mem_of_getElem? (i := 300) (by decide +kernel)) (by decide +kernel)⟩
theorem fRX5_56 : Fs RX5 56 5 9 := ⟨by decide, by decide, TB_in (List.mem_of_getElem? (i := 301) (by decide +kernel)) (by decide +kernel)⟩
theorem fRX5_63 : Fs RX5 63 5 10 := ⟨by decide, by decide, TB_in (List.mem_of_getElem? (i := 302) (by decide +kernel)) (by decide +kernel)⟩
theorem fRX5_67 : Fs RX5 67 5 11 := ⟨by decide, by decide, TB_in (List.mem_of_getElem? (i := 303) (by decide +kernel)) (by decide +kernel)⟩
theorem fRX6_72 : Fs RX6 72 6 0 := ⟨by decide, by decide, TB_in (List.mem_of_getElem? (i := 1042) (by decide +kernel)) (by decide +kernel)⟩
theorem fRX6_9 : Fs RX6 9 6 1 := ⟨by decide, by decide, TB_in (List.mem_of_getElem? (i := 1043) (by decide +kernel)) (by decide +kernel)⟩
theorem fRX6_75 : Fs RX6 75 6 2 := ⟨by decide, by decide, TB_in (List.mem_of_getElem? (i := 1044) (by decide +kernel)) (by decide +kernel)⟩
theorem fRX6_78 : Fs RX6 78 6 3 := ⟨by decide, by decide, TB_in (List.mem_of_getElem? (i := 1045) (by decide +kernel)) (by decide +kernel)⟩
theorem fRX6_81 : Fs RX6 81 6 4 := ⟨by decide, by decide, TB_in (List.mem_of_getElem? (i := 1046) (by decide +kernel)) (by decide +kernel)⟩
theorem fRX6_13 : Fs RX6 13 6 5 := ⟨by decide, by decide, TB_in (List.mem_of_getElem? (i := 1047) (by decide +kernel)) (by decide +kernel)⟩
theorem fRX6_88 : Fs RX6 88 6 6 := ⟨by decide, by decide, TB_in (List.mem_of_getElem? (i := 1048) (by decide +kernel)) (by decide +kernel)⟩
theorem fRX6_91 : Fs RX6 91 6 7 := ⟨by decide, by decide, TB_in (List.mem_of_getElem? (i := 1049) (by decide +kernel)) (by decide +kernel)⟩
theorem fRX6_17 : Fs RX6 17 6 8 := ⟨by decide, by decide, TB_in (List.mem_of_getElem? (i := 1050) (by decide +kernel)) (by decide +kernel)⟩
theorem fRX6_20 : Fs RX6 20 6 9 := ⟨by decide, by decide, TB_in (List.mem_of_getElem? (i := 1051) (by decide +kernel)) (by decide +kernel)⟩
theorem fRX6_23 : Fs RX6 23 6 10 := ⟨by decide, by decide, TB_in (List.mem_of_getElem? (i := 1052) (by decide +kernel)) (by decide +kernel)⟩
theorem fRX6_28 : Fs RX6 28 6 11 := ⟨by decide, by decide, TB_in (List.mem_of_getElem? (i := 1053) (by decide +kernel)) (by decide +kernel)⟩
theorem fRX6_242 : Fs RX6 242 6 12 := ⟨by decide, by decide, TB_in (List.mem_of_getElem? (i := 1054) (by decide +kernel)) (by decide +kernel)⟩
theorem fRX6_31 : Fs RX6 31 6 13 := ⟨by decide, by decide, TB_in (List.mem_of_getElem? (i := 1055) (by decide +kernel)) (by decide +kernel)⟩
theorem fRX6_152 : Fs RX6 152 6 14 := ⟨by decide, by decide, TB_in (List.mem_of_getElem? (i := 1056) (by decide +kernel)) (by decide +kernel)⟩
theorem fRX6_34 : Fs RX6 34 6 15 := ⟨by decide, by decide, TB_in (List.mem_of_getElem? (i := 1057) (by decide +kernel)) (by decide +kernel)⟩
theorem fRX6_37 : Fs RX6 37 6 16 := ⟨by decide, by decide, TB_in (List.mem_of_getElem? (i := 1058) (by decide +kernel)) (by decide +kernel)⟩
theorem fRX6_40 : Fs RX6 40 6 17 := ⟨by decide, by decide, TB_in (List.mem_of_getElem? (i := 1059) (by decide +kernel)) (by decide +kernel)⟩
theorem fRX6_43 : Fs RX6 43 6 18 := ⟨by decide, by decide, TB_in (List.mem_of_getElem? (i := 1060) (by decide +kernel)) (by decide +kernel)⟩
theorem fRX6_187 : Fs RX6 187 6 19 := ⟨by decide, by decide, TB_in (List.mem_of_getElem? (i := 1061) (by decide +kernel)) (by decide +kernel)⟩
theorem fRX6_47 : Fs RX6 47 6 20 := ⟨by decide, by decide, TB_in (List.mem_of_getElem? (i := 1062) (by decide +kernel)) (by decide +kernel)⟩
theorem fRX6_51 : Fs RX6 51 6 21 := ⟨by decide, by decide, TB_in (List.mem_of_getElem? (i := 1063) (by decide +kernel)) (by decide +kernel)⟩
theorem fRX6_224 : Fs RX6 224 6 22 := ⟨by decide, by decide, TB_in (List.mem_of_getElem? (i := 1064) (by decide +kernel)) (by decide +kernel)⟩
theorem fRX6_227 : Fs RX6 227 6 23 := ⟨by decide, by decide, TB_in (List.mem_of_getElem? (i := 1065) (by decide +kernel)) (by decide +kernel)⟩
theorem fRX6_55 : Fs RX6 55 6 24 := ⟨by decide, by decide, TB_in (List.mem_of_getElem? (i := 1066) (by decide +kernel)) (by decide +kernel)⟩
theorem fRX6_236 : Fs RX6 236 6 25 := ⟨by decide, by decide, TB_in (List.mem_of_getElem? (i := 1067) (by decide +kernel)) (by decide +kernel)⟩
theorem fRX6_58 : Fs RX6 58 6 26 := ⟨by decide, by decide, TB_in (List.mem_of_getElem? (i := 1068) (by decide +kernel)) (by decide +kernel)⟩
theorem clRL_8 : Cond.classLink RL 8 "OddPairs" ∈ TB := TB_in (List.mem_of_getElem? (i := 110) (by decide +kernel)) (by decide +kernel)
theorem inRX5 : Cond.instantiable RX5 12 ∈ TB := TB_in (List.mem_of_getElem? (i := 111) (by decide +kernel)) (by decide +kernel)
theorem clRX5_20 : Cond.classLink RX5 20 "OddPairs$Net" ∈ TB := TB_in (List.mem_of_getElem? (i := 118) (by decide +kernel)) (by decide +kernel)
theorem inRX1 : Cond.instantiable RX1 5 ∈ TB := TB_in (List.mem_of_getElem? (i := 119) (by decide +kernel)) (by decide +kernel)
theorem ac_byte : Cond.arrayClass .byte ∈ TB := TB_in (List.mem_of_getElem? (i := 159) (by decide +kernel)) (by decide +kernel)
theorem ac_int : Cond.arrayClass .int ∈ TB := TB_in (List.mem_of_getElem? (i := 160) (by decide +kernel)) (by decide +kernel)
theorem clRX5_37 : Cond.classLink RX5 37 "OddPairs$Reader" ∈ TB := TB_in (List.mem_of_getElem? (i := 162) (by decide +kernel)) (by decide +kernel)
theorem inRX3 : Cond.instantiable RX3 8 ∈ TB := TB_in (List.mem_of_getElem? (i := 163) (by decide +kernel)) (by decide +kernel)
theorem clRX5_44 : Cond.classLink RX5 44 "OddPairs$Greatest" ∈ TB := TB_in (List.mem_of_getElem? (i := 195) (by decide +kernel)) (by decide +kernel)
theorem inRX0 : Cond.instantiable RX0 4 ∈ TB := TB_in (List.mem_of_getElem? (i := 196) (by decide +kernel)) (by decide +kernel)
theorem ac_long : Cond.arrayClass .long ∈ TB := TB_in (List.mem_of_getElem? (i := 216) (by decide +kernel)) (by decide +kernel)
theorem clRX5_53 : Cond.classLink RX5 53 "OddPairs$Parts" ∈ TB := TB_in (List.mem_of_getElem? (i := 217) (by decide +kernel)) (by decide +kernel)
theorem inRX2 : Cond.instantiable RX2 3 ∈ TB := TB_in (List.mem_of_getElem? (i := 218) (by decide +kernel)) (by decide +kernel)
theorem clRX5_60 : Cond.classLink RX5 60 "OddPairs$Walks" ∈ TB := TB_in (List.mem_of_getElem? (i := 234) (by decide +kernel)) (by decide +kernel)
theorem inRX4 : Cond.instantiable RX4 11 ∈ TB := TB_in (List.mem_of_getElem? (i := 235) (by decide +kernel)) (by decide +kernel)
theorem kRX0_86 : Cond.constantLong RX0 86 65535 ∈ TB := TB_in (List.mem_of_getElem? (i := 396) (by decide +kernel)) (by decide +kernel)
theorem kRX5_257 : Cond.constantLong RX5 257 31 ∈ TB := TB_in (List.mem_of_getElem? (i := 452) (by decide +kernel)) (by decide +kernel)
theorem clRL_13 : Cond.classLink RL 13 "java/lang/IllegalArgumentException" ∈ TB := TB_in (List.mem_of_getElem? (i := 462) (by decide +kernel)) (by decide +kernel)
theorem clRX5_269 : Cond.classLink RX5 269 "java/lang/IllegalArgumentException" ∈ TB := TB_in (List.mem_of_getElem? (i := 471) (by decide +kernel)) (by decide +kernel)
theorem clRL_19 : Cond.classLink RL 19 "java/util/NoSuchElementException" ∈ TB := TB_in (List.mem_of_getElem? (i := 686) (by decide +kernel)) (by decide +kernel)
theorem clRX5_262 : Cond.classLink RX5 262 "java/util/NoSuchElementException" ∈ TB := TB_in (List.mem_of_getElem? (i := 699) (by decide +kernel)) (by decide +kernel)
theorem clRL_25 : Cond.classLink RL 25 "java/lang/IllegalStateException" ∈ TB := TB_in (List.mem_of_getElem? (i := 718) (by decide +kernel)) (by decide +kernel)
theorem clRX5_274 : Cond.classLink RX5 274 "java/lang/IllegalStateException" ∈ TB := TB_in (List.mem_of_getElem? (i := 731) (by decide +kernel)) (by decide +kernel)
theorem kRJ6_265 : Cond.constant RJ6 265 1431655765 ∈ TB := TB_in (List.mem_of_getElem? (i := 814) (by decide +kernel)) (by decide +kernel)
theorem kRJ6_266 : Cond.constant RJ6 266 858993459 ∈ TB := TB_in (List.mem_of_getElem? (i := 815) (by decide +kernel)) (by decide +kernel)
theorem kRJ6_267 : Cond.constant RJ6 267 252645135 ∈ TB := TB_in (List.mem_of_getElem? (i := 816) (by decide +kernel)) (by decide +kernel)
theorem clRL_67 : Cond.classLink RL 67 "OddPairsModel" ∈ TB := TB_in (List.mem_of_getElem? (i := 1023) (by decide +kernel)) (by decide +kernel)
theorem inRX6 : Cond.instantiable RX6 27 ∈ TB := TB_in (List.mem_of_getElem? (i := 1024) (by decide +kernel)) (by decide +kernel)
theorem clRX6_26 : Cond.classLink RX6 26 "[[I" ∈ TB := TB_in (List.mem_of_getElem? (i := 1029) (by decide +kernel)) (by decide +kernel)
theorem kRX6_50 : Cond.constant RX6 50 49152 ∈ TB := TB_in (List.mem_of_getElem? (i := 1031) (by decide +kernel)) (by decide +kernel)
theorem ac_boolean : Cond.arrayClass .boolean ∈ TB := TB_in (List.mem_of_getElem? (i := 1124) (by decide +kernel)) (by decide +kernel)
theorem kRX6_123 : Cond.constant RX6 123 100000 ∈ TB := TB_in (List.mem_of_getElem? (i := 1174) (by decide +kernel)) (by decide +kernel)
theorem kRX6_193 : Cond.constant RX6 193 2147483647 ∈ TB := TB_in (List.mem_of_getElem? (i := 1307) (by decide +kernel)) (by decide +kernel)
theorem kRX6_282 : Cond.constantLong RX6 282 31 ∈ TB := TB_in (List.mem_of_getElem? (i := 1403) (by decide +kernel)) (by decide +kernel)
