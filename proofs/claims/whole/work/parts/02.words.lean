/-- the words that every method gets: those of lw_tbl that last -/
def gtbl : List Cond := lw_tbl.filter goodWord
theorem gm {w : Cond} {i : Nat} (h : lw_tbl[i]? = some w) (g : goodWord w = true) : w ∈ gtbl := List.mem_filter.mpr ⟨List.mem_of_getElem? h, g⟩
theorem gtbl_in {w : Cond} (h : w ∈ gtbl) : w ∈ lw_tbl ∧ goodWord w = true := List.mem_filter.mp h
theorem gtbl_goodIn : GoodIn gtbl gtbl := fun w h => ⟨h, good_of_word (gtbl_in h).2⟩
theorem gtbl_code {c : Cond} (h : c ∈ gtbl) : GoodIn gtbl (c :: gtbl) := fun w hw => by
  rcases List.mem_cons.mp hw with rfl | hw
  · exact ⟨h, good_of_word (gtbl_in h).2⟩
  · exact gtbl_goodIn w hw
/-- what is fixed of a method: its code, its class is ready, how many parameters -/
def MI (y : MethodName) (cc : ByteArray) (maxL : Nat) (ret : Option FieldType) (n : Nat) : Prop := Cond.code y cc maxL ret ∈ gtbl ∧ Cond.initialized y.cls ∈ gtbl ∧ (y.cls ≠ "java/lang/invoke/MethodHandle" ∧ y.cls ≠ "java/lang/invoke/VarHandle" ∧ (parseMethodDescriptor y.desc).map (fun d => d.parameters.length) = some n) ∧ plainName y.cls = true ∧ maxL ≤ 17
def MV (y : MethodName) : Prop := Cond.instanceMethod y ∈ gtbl ∧ Cond.selects y.cls y y ∈ gtbl
def MSt (y : MethodName) : Prop := Cond.static y ∈ gtbl
def ML (own : String) (i : Nat) (y : MethodName) : Prop := Cond.methodLink own i y ∈ gtbl
theorem ini_L : Cond.initialized RL ∈ gtbl := gm (i := 87) (by decide +kernel) rfl
theorem ini_X7 : Cond.initialized RX7 ∈ gtbl := gm (i := 88) (by decide +kernel) rfl
theorem ini_X6 : Cond.initialized RX6 ∈ gtbl := gm (i := 89) (by decide +kernel) rfl
theorem ini_X0 : Cond.initialized RX0 ∈ gtbl := gm (i := 90) (by decide +kernel) rfl
theorem ini_X2 : Cond.initialized RX2 ∈ gtbl := gm (i := 91) (by decide +kernel) rfl
theorem ini_X1 : Cond.initialized RX1 ∈ gtbl := gm (i := 92) (by decide +kernel) rfl
theorem ini_X5 : Cond.initialized RX5 ∈ gtbl := gm (i := 93) (by decide +kernel) rfl
theorem ini_X3 : Cond.initialized RX3 ∈ gtbl := gm (i := 94) (by decide +kernel) rfl
theorem ini_X8 : Cond.initialized RX8 ∈ gtbl := gm (i := 95) (by decide +kernel) rfl
theorem ini_X4 : Cond.initialized RX4 ∈ gtbl := gm (i := 96) (by decide +kernel) rfl
theorem ini_J9 : Cond.initialized RJ9 ∈ gtbl := gm (i := 97) (by decide +kernel) rfl
theorem ini_J10 : Cond.initialized RJ10 ∈ gtbl := gm (i := 98) (by decide +kernel) rfl
theorem ini_J0 : Cond.initialized RJ0 ∈ gtbl := gm (i := 99) (by decide +kernel) rfl
theorem ini_J1 : Cond.initialized RJ1 ∈ gtbl := gm (i := 100) (by decide +kernel) rfl
theorem ini_J3 : Cond.initialized RJ3 ∈ gtbl := gm (i := 101) (by decide +kernel) rfl
theorem ini_J2 : Cond.initialized RJ2 ∈ gtbl := gm (i := 102) (by decide +kernel) rfl
theorem ini_J6 : Cond.initialized RJ6 ∈ gtbl := gm (i := 103) (by decide +kernel) rfl
theorem mi_X0_init : MI yX0_init cX0_init 1 none 0 := ⟨gm (i := 122) (by decide +kernel) rfl, ini_X0, ⟨by decide +kernel, by decide +kernel, by decide +kernel⟩, by decide +kernel, by decide⟩
theorem mo_X0_init : Cond.instanceMethod yX0_init ∈ gtbl := gm (i := 121) (by decide +kernel) rfl
theorem mi_X0_has : MI yX0_has cX0_has 2 (some .boolean) 1 := ⟨gm (i := 392) (by decide +kernel) rfl, ini_X0, ⟨by decide +kernel, by decide +kernel, by decide +kernel⟩, by decide +kernel, by decide⟩
theorem mv_X0_has : MV yX0_has := ⟨gm (i := 390) (by decide +kernel) rfl, gm (i := 391) (by decide +kernel) rfl⟩
theorem mi_X0_isFull : MI yX0_isFull cX0_isFull 1 (some .boolean) 0 := ⟨gm (i := 428) (by decide +kernel) rfl, ini_X0, ⟨by decide +kernel, by decide +kernel, by decide +kernel⟩, by decide +kernel, by decide⟩
theorem mv_X0_isFull : MV yX0_isFull := ⟨gm (i := 426) (by decide +kernel) rfl, gm (i := 427) (by decide +kernel) rfl⟩
theorem mi_X0_fact : MI yX0_fact cX0_fact 5 (some .int) 2 := ⟨gm (i := 403) (by decide +kernel) rfl, ini_X0, ⟨by decide +kernel, by decide +kernel, by decide +kernel⟩, by decide +kernel, by decide⟩
theorem mv_X0_fact : MV yX0_fact := ⟨gm (i := 401) (by decide +kernel) rfl, gm (i := 402) (by decide +kernel) rfl⟩
theorem mi_X0_changeTrait : MI yX0_changeTrait cX0_changeTrait 4 none 3 := ⟨gm (i := 457) (by decide +kernel) rfl, ini_X0, ⟨by decide +kernel, by decide +kernel, by decide +kernel⟩, by decide +kernel, by decide⟩
theorem mv_X0_changeTrait : MV yX0_changeTrait := ⟨gm (i := 455) (by decide +kernel) rfl, gm (i := 456) (by decide +kernel) rfl⟩
theorem mi_X0_join : MI yX0_join cX0_join 8 (some .int) 5 := ⟨gm (i := 432) (by decide +kernel) rfl, ini_X0, ⟨by decide +kernel, by decide +kernel, by decide +kernel⟩, by decide +kernel, by decide⟩
theorem mv_X0_join : MV yX0_join := ⟨gm (i := 430) (by decide +kernel) rfl, gm (i := 431) (by decide +kernel) rfl⟩
theorem mi_X0_measure : MI yX0_measure cX0_measure 5 none 1 := ⟨gm (i := 438) (by decide +kernel) rfl, ini_X0, ⟨by decide +kernel, by decide +kernel, by decide +kernel⟩, by decide +kernel, by decide⟩
theorem mv_X0_measure : MV yX0_measure := ⟨gm (i := 437) (by decide +kernel) rfl, gm (i := 6) (by decide +kernel) rfl⟩
theorem mi_X0_massBy : MI yX0_massBy cX0_massBy 3 (some .int) 3 := ⟨gm (i := 442) (by decide +kernel) rfl, ini_X0, ⟨by decide +kernel, by decide +kernel, by decide +kernel⟩, by decide +kernel, by decide⟩
theorem ms_X0_massBy : MSt yX0_massBy := gm (i := 441) (by decide +kernel) rfl
theorem mi_X0_bearsBy : MI yX0_bearsBy cX0_bearsBy 3 (some .int) 3 := ⟨gm (i := 445) (by decide +kernel) rfl, ini_X0, ⟨by decide +kernel, by decide +kernel, by decide +kernel⟩, by decide +kernel, by decide⟩
theorem ms_X0_bearsBy : MSt yX0_bearsBy := gm (i := 444) (by decide +kernel) rfl
theorem mi_X0_tallnessBy : MI yX0_tallnessBy cX0_tallnessBy 2 (some .int) 2 := ⟨gm (i := 449) (by decide +kernel) rfl, ini_X0, ⟨by decide +kernel, by decide +kernel, by decide +kernel⟩, by decide +kernel, by decide⟩
theorem ms_X0_tallnessBy : MSt yX0_tallnessBy := gm (i := 448) (by decide +kernel) rfl
theorem mi_X0_sayingAs : MI yX0_sayingAs cX0_sayingAs 3 (some .int) 2 := ⟨gm (i := 412) (by decide +kernel) rfl, ini_X0, ⟨by decide +kernel, by decide +kernel, by decide +kernel⟩, by decide +kernel, by decide⟩
theorem mv_X0_sayingAs : MV yX0_sayingAs := ⟨gm (i := 410) (by decide +kernel) rfl, gm (i := 411) (by decide +kernel) rfl⟩
theorem mi_X0_fondness : MI yX0_fondness cX0_fondness 3 (some .int) 2 := ⟨gm (i := 825) (by decide +kernel) rfl, ini_X0, ⟨by decide +kernel, by decide +kernel, by decide +kernel⟩, by decide +kernel, by decide⟩
theorem mv_X0_fondness : MV yX0_fondness := ⟨gm (i := 823) (by decide +kernel) rfl, gm (i := 824) (by decide +kernel) rfl⟩
theorem mi_X0_takeFrom : MI yX0_takeFrom cX0_takeFrom 2 none 1 := ⟨gm (i := 513) (by decide +kernel) rfl, ini_X0, ⟨by decide +kernel, by decide +kernel, by decide +kernel⟩, by decide +kernel, by decide⟩
theorem mv_X0_takeFrom : MV yX0_takeFrom := ⟨gm (i := 511) (by decide +kernel) rfl, gm (i := 512) (by decide +kernel) rfl⟩
theorem mi_X1_init : MI yX1_init cX1_init 2 none 1 := ⟨gm (i := 192) (by decide +kernel) rfl, ini_X1, ⟨by decide +kernel, by decide +kernel, by decide +kernel⟩, by decide +kernel, by decide⟩
theorem mo_X1_init : Cond.instanceMethod yX1_init ∈ gtbl := gm (i := 191) (by decide +kernel) rfl
theorem mi_X1_letStand : MI yX1_letStand cX1_letStand 3 none 2 := ⟨gm (i := 750) (by decide +kernel) rfl, ini_X1, ⟨by decide +kernel, by decide +kernel, by decide +kernel⟩, by decide +kernel, by decide⟩
theorem mv_X1_letStand : MV yX1_letStand := ⟨gm (i := 748) (by decide +kernel) rfl, gm (i := 749) (by decide +kernel) rfl⟩
theorem mi_X1_letLoadsBe : MI yX1_letLoadsBe cX1_letLoadsBe 3 none 2 := ⟨gm (i := 854) (by decide +kernel) rfl, ini_X1, ⟨by decide +kernel, by decide +kernel, by decide +kernel⟩, by decide +kernel, by decide⟩
theorem mv_X1_letLoadsBe : MV yX1_letLoadsBe := ⟨gm (i := 852) (by decide +kernel) rfl, gm (i := 853) (by decide +kernel) rfl⟩
theorem mi_X1_count : MI yX1_count cX1_count 1 (some .int) 0 := ⟨gm (i := 790) (by decide +kernel) rfl, ini_X1, ⟨by decide +kernel, by decide +kernel, by decide +kernel⟩, by decide +kernel, by decide⟩
theorem mv_X1_count : MV yX1_count := ⟨gm (i := 788) (by decide +kernel) rfl, gm (i := 789) (by decide +kernel) rfl⟩
theorem mi_X1_heightOf : MI yX1_heightOf cX1_heightOf 2 (some .int) 1 := ⟨gm (i := 815) (by decide +kernel) rfl, ini_X1, ⟨by decide +kernel, by decide +kernel, by decide +kernel⟩, by decide +kernel, by decide⟩
theorem mv_X1_heightOf : MV yX1_heightOf := ⟨gm (i := 813) (by decide +kernel) rfl, gm (i := 814) (by decide +kernel) rfl⟩
theorem mi_X1_highestSet : MI yX1_highestSet cX1_highestSet 5 (some .int) 2 := ⟨gm (i := 811) (by decide +kernel) rfl, ini_X1, ⟨by decide +kernel, by decide +kernel, by decide +kernel⟩, by decide +kernel, by decide⟩
theorem mv_X1_highestSet : MV yX1_highestSet := ⟨gm (i := 809) (by decide +kernel) rfl, gm (i := 810) (by decide +kernel) rfl⟩
theorem mi_X1_inFirst : MI yX1_inFirst cX1_inFirst 5 (some .int) 1 := ⟨gm (i := 795) (by decide +kernel) rfl, ini_X1, ⟨by decide +kernel, by decide +kernel, by decide +kernel⟩, by decide +kernel, by decide⟩
theorem mv_X1_inFirst : MV yX1_inFirst := ⟨gm (i := 793) (by decide +kernel) rfl, gm (i := 794) (by decide +kernel) rfl⟩
theorem mi_X1_feet : MI yX1_feet cX1_feet 3 (some .int) 0 := ⟨gm (i := 858) (by decide +kernel) rfl, ini_X1, ⟨by decide +kernel, by decide +kernel, by decide +kernel⟩, by decide +kernel, by decide⟩
theorem mv_X1_feet : MV yX1_feet := ⟨gm (i := 856) (by decide +kernel) rfl, gm (i := 857) (by decide +kernel) rfl⟩
theorem mi_X1_heads : MI yX1_heads cX1_heads 1 (some .int) 0 := ⟨gm (i := 862) (by decide +kernel) rfl, ini_X1, ⟨by decide +kernel, by decide +kernel, by decide +kernel⟩, by decide +kernel, by decide⟩
theorem mv_X1_heads : MV yX1_heads := ⟨gm (i := 860) (by decide +kernel) rfl, gm (i := 861) (by decide +kernel) rfl⟩
theorem mi_X1_greatestJoy : MI yX1_greatestJoy cX1_greatestJoy 3 (some .int) 0 := ⟨gm (i := 836) (by decide +kernel) rfl, ini_X1, ⟨by decide +kernel, by decide +kernel, by decide +kernel⟩, by decide +kernel, by decide⟩
theorem mv_X1_greatestJoy : MV yX1_greatestJoy := ⟨gm (i := 834) (by decide +kernel) rfl, gm (i := 835) (by decide +kernel) rfl⟩
theorem mi_X1_measureSets : MI yX1_measureSets cX1_measureSets 4 none 0 := ⟨gm (i := 754) (by decide +kernel) rfl, ini_X1, ⟨by decide +kernel, by decide +kernel, by decide +kernel⟩, by decide +kernel, by decide⟩
theorem mv_X1_measureSets : MV yX1_measureSets := ⟨gm (i := 753) (by decide +kernel) rfl, gm (i := 15) (by decide +kernel) rfl⟩
theorem mi_X1_explore : MI yX1_explore cX1_explore 5 none 3 := ⟨gm (i := 768) (by decide +kernel) rfl, ini_X1, ⟨by decide +kernel, by decide +kernel, by decide +kernel⟩, by decide +kernel, by decide⟩
theorem mv_X1_explore : MV yX1_explore := ⟨gm (i := 767) (by decide +kernel) rfl, gm (i := 16) (by decide +kernel) rfl⟩
theorem mi_X1_whoStands : MI yX1_whoStands cX1_whoStands 8 (some .int) 2 := ⟨gm (i := 772) (by decide +kernel) rfl, ini_X1, ⟨by decide +kernel, by decide +kernel, by decide +kernel⟩, by decide +kernel, by decide⟩
theorem mv_X1_whoStands : MV yX1_whoStands := ⟨gm (i := 771) (by decide +kernel) rfl, gm (i := 17) (by decide +kernel) rfl⟩
theorem mi_X1_whoBears : MI yX1_whoBears cX1_whoBears 9 (some .int) 2 := ⟨gm (i := 777) (by decide +kernel) rfl, ini_X1, ⟨by decide +kernel, by decide +kernel, by decide +kernel⟩, by decide +kernel, by decide⟩
theorem mv_X1_whoBears : MV yX1_whoBears := ⟨gm (i := 776) (by decide +kernel) rfl, gm (i := 18) (by decide +kernel) rfl⟩
theorem mi_X1_reachFrom : MI yX1_reachFrom cX1_reachFrom 4 none 1 := ⟨gm (i := 782) (by decide +kernel) rfl, ini_X1, ⟨by decide +kernel, by decide +kernel, by decide +kernel⟩, by decide +kernel, by decide⟩
theorem mv_X1_reachFrom : MV yX1_reachFrom := ⟨gm (i := 781) (by decide +kernel) rfl, gm (i := 19) (by decide +kernel) rfl⟩
theorem mi_X1_countFrom : MI yX1_countFrom cX1_countFrom 7 none 1 := ⟨gm (i := 786) (by decide +kernel) rfl, ini_X1, ⟨by decide +kernel, by decide +kernel, by decide +kernel⟩, by decide +kernel, by decide⟩
theorem mv_X1_countFrom : MV yX1_countFrom := ⟨gm (i := 785) (by decide +kernel) rfl, gm (i := 20) (by decide +kernel) rfl⟩
theorem mi_X1_leadsOn : MI yX1_leadsOn cX1_leadsOn 3 (some .boolean) 2 := ⟨gm (i := 803) (by decide +kernel) rfl, ini_X1, ⟨by decide +kernel, by decide +kernel, by decide +kernel⟩, by decide +kernel, by decide⟩
theorem mv_X1_leadsOn : MV yX1_leadsOn := ⟨gm (i := 802) (by decide +kernel) rfl, gm (i := 22) (by decide +kernel) rfl⟩
theorem mi_X1_firstOn : MI yX1_firstOn cX1_firstOn 3 (some .int) 1 := ⟨gm (i := 799) (by decide +kernel) rfl, ini_X1, ⟨by decide +kernel, by decide +kernel, by decide +kernel⟩, by decide +kernel, by decide⟩
theorem mv_X1_firstOn : MV yX1_firstOn := ⟨gm (i := 798) (by decide +kernel) rfl, gm (i := 21) (by decide +kernel) rfl⟩
theorem mi_X1_joyOf : MI yX1_joyOf cX1_joyOf 3 (some .int) 2 := ⟨gm (i := 844) (by decide +kernel) rfl, ini_X1, ⟨by decide +kernel, by decide +kernel, by decide +kernel⟩, by decide +kernel, by decide⟩
theorem mv_X1_joyOf : MV yX1_joyOf := ⟨gm (i := 843) (by decide +kernel) rfl, gm (i := 24) (by decide +kernel) rfl⟩
theorem mi_X1_fillJoys : MI yX1_fillJoys cX1_fillJoys 5 none 1 := ⟨gm (i := 840) (by decide +kernel) rfl, ini_X1, ⟨by decide +kernel, by decide +kernel, by decide +kernel⟩, by decide +kernel, by decide⟩
theorem mv_X1_fillJoys : MV yX1_fillJoys := ⟨gm (i := 839) (by decide +kernel) rfl, gm (i := 23) (by decide +kernel) rfl⟩
theorem mi_X2_init : MI yX2_init cX2_init 2 none 1 := ⟨gm (i := 139) (by decide +kernel) rfl, ini_X2, ⟨by decide +kernel, by decide +kernel, by decide +kernel⟩, by decide +kernel, by decide⟩
theorem mo_X2_init : Cond.instanceMethod yX2_init ∈ gtbl := gm (i := 138) (by decide +kernel) rfl
theorem mi_X2_takeFrom : MI yX2_takeFrom cX2_takeFrom 2 none 1 := ⟨gm (i := 520) (by decide +kernel) rfl, ini_X2, ⟨by decide +kernel, by decide +kernel, by decide +kernel⟩, by decide +kernel, by decide⟩
theorem mv_X2_takeFrom : MV yX2_takeFrom := ⟨gm (i := 518) (by decide +kernel) rfl, gm (i := 519) (by decide +kernel) rfl⟩
theorem mi_X2_clear : MI yX2_clear cX2_clear 1 none 0 := ⟨gm (i := 639) (by decide +kernel) rfl, ini_X2, ⟨by decide +kernel, by decide +kernel, by decide +kernel⟩, by decide +kernel, by decide⟩
theorem mv_X2_clear : MV yX2_clear := ⟨gm (i := 637) (by decide +kernel) rfl, gm (i := 638) (by decide +kernel) rfl⟩
theorem mi_X2_onCourse : MI yX2_onCourse cX2_onCourse 2 (some .int) 1 := ⟨gm (i := 662) (by decide +kernel) rfl, ini_X2, ⟨by decide +kernel, by decide +kernel, by decide +kernel⟩, by decide +kernel, by decide⟩
theorem mv_X2_onCourse : MV yX2_onCourse := ⟨gm (i := 660) (by decide +kernel) rfl, gm (i := 661) (by decide +kernel) rfl⟩
theorem mi_X2_courseOf : MI yX2_courseOf cX2_courseOf 3 (some .int) 1 := ⟨gm (i := 624) (by decide +kernel) rfl, ini_X2, ⟨by decide +kernel, by decide +kernel, by decide +kernel⟩, by decide +kernel, by decide⟩
theorem mv_X2_courseOf : MV yX2_courseOf := ⟨gm (i := 622) (by decide +kernel) rfl, gm (i := 623) (by decide +kernel) rfl⟩
theorem mi_X2_isIn : MI yX2_isIn cX2_isIn 2 (some .boolean) 1 := ⟨gm (i := 620) (by decide +kernel) rfl, ini_X2, ⟨by decide +kernel, by decide +kernel, by decide +kernel⟩, by decide +kernel, by decide⟩
theorem mv_X2_isIn : MV yX2_isIn := ⟨gm (i := 618) (by decide +kernel) rfl, gm (i := 619) (by decide +kernel) rfl⟩
theorem mi_X2_head : MI yX2_head cX2_head 1 (some .int) 0 := ⟨gm (i := 955) (by decide +kernel) rfl, ini_X2, ⟨by decide +kernel, by decide +kernel, by decide +kernel⟩, by decide +kernel, by decide⟩
theorem mv_X2_head : MV yX2_head := ⟨gm (i := 953) (by decide +kernel) rfl, gm (i := 954) (by decide +kernel) rfl⟩
theorem mi_X2_bits : MI yX2_bits cX2_bits 3 (some .int) 0 := ⟨gm (i := 973) (by decide +kernel) rfl, ini_X2, ⟨by decide +kernel, by decide +kernel, by decide +kernel⟩, by decide +kernel, by decide⟩
theorem mv_X2_bits : MV yX2_bits := ⟨gm (i := 971) (by decide +kernel) rfl, gm (i := 972) (by decide +kernel) rfl⟩
theorem mi_X2_push : MI yX2_push cX2_push 2 none 1 := ⟨gm (i := 629) (by decide +kernel) rfl, ini_X2, ⟨by decide +kernel, by decide +kernel, by decide +kernel⟩, by decide +kernel, by decide⟩
theorem mv_X2_push : MV yX2_push := ⟨gm (i := 627) (by decide +kernel) rfl, gm (i := 628) (by decide +kernel) rfl⟩
theorem mi_X2_insert : MI yX2_insert cX2_insert 4 none 2 := ⟨gm (i := 633) (by decide +kernel) rfl, ini_X2, ⟨by decide +kernel, by decide +kernel, by decide +kernel⟩, by decide +kernel, by decide⟩
theorem mv_X2_insert : MV yX2_insert := ⟨gm (i := 631) (by decide +kernel) rfl, gm (i := 632) (by decide +kernel) rfl⟩
theorem mi_X2_removeAt : MI yX2_removeAt cX2_removeAt 3 none 1 := ⟨gm (i := 893) (by decide +kernel) rfl, ini_X2, ⟨by decide +kernel, by decide +kernel, by decide +kernel⟩, by decide +kernel, by decide⟩
theorem mv_X2_removeAt : MV yX2_removeAt := ⟨gm (i := 891) (by decide +kernel) rfl, gm (i := 892) (by decide +kernel) rfl⟩
theorem mi_X2_swap : MI yX2_swap cX2_swap 4 none 2 := ⟨gm (i := 881) (by decide +kernel) rfl, ini_X2, ⟨by decide +kernel, by decide +kernel, by decide +kernel⟩, by decide +kernel, by decide⟩
theorem mv_X2_swap : MV yX2_swap := ⟨gm (i := 879) (by decide +kernel) rfl, gm (i := 880) (by decide +kernel) rfl⟩
theorem mi_X2_loadAt : MI yX2_loadAt cX2_loadAt 4 (some .int) 1 := ⟨gm (i := 670) (by decide +kernel) rfl, ini_X2, ⟨by decide +kernel, by decide +kernel, by decide +kernel⟩, by decide +kernel, by decide⟩
theorem mv_X2_loadAt : MV yX2_loadAt := ⟨gm (i := 668) (by decide +kernel) rfl, gm (i := 669) (by decide +kernel) rfl⟩
theorem mi_X2_upAt : MI yX2_upAt cX2_upAt 4 (some .int) 1 := ⟨gm (i := 681) (by decide +kernel) rfl, ini_X2, ⟨by decide +kernel, by decide +kernel, by decide +kernel⟩, by decide +kernel, by decide⟩
theorem mv_X2_upAt : MV yX2_upAt := ⟨gm (i := 679) (by decide +kernel) rfl, gm (i := 680) (by decide +kernel) rfl⟩
theorem mi_X2_tallnessOfAll : MI yX2_tallnessOfAll cX2_tallnessOfAll 1 (some .int) 0 := ⟨gm (i := 722) (by decide +kernel) rfl, ini_X2, ⟨by decide +kernel, by decide +kernel, by decide +kernel⟩, by decide +kernel, by decide⟩
theorem mv_X2_tallnessOfAll : MV yX2_tallnessOfAll := ⟨gm (i := 720) (by decide +kernel) rfl, gm (i := 721) (by decide +kernel) rfl⟩
theorem mi_X2_slackAt : MI yX2_slackAt cX2_slackAt 2 (some .int) 1 := ⟨gm (i := 675) (by decide +kernel) rfl, ini_X2, ⟨by decide +kernel, by decide +kernel, by decide +kernel⟩, by decide +kernel, by decide⟩
theorem mv_X2_slackAt : MV yX2_slackAt := ⟨gm (i := 673) (by decide +kernel) rfl, gm (i := 674) (by decide +kernel) rfl⟩
theorem mi_X2_isCrushed : MI yX2_isCrushed cX2_isCrushed 2 (some .boolean) 1 := ⟨gm (i := 685) (by decide +kernel) rfl, ini_X2, ⟨by decide +kernel, by decide +kernel, by decide +kernel⟩, by decide +kernel, by decide⟩
theorem mv_X2_isCrushed : MV yX2_isCrushed := ⟨gm (i := 683) (by decide +kernel) rfl, gm (i := 684) (by decide +kernel) rfl⟩
theorem mi_X2_isShaken : MI yX2_isShaken cX2_isShaken 3 (some .boolean) 2 := ⟨gm (i := 693) (by decide +kernel) rfl, ini_X2, ⟨by decide +kernel, by decide +kernel, by decide +kernel⟩, by decide +kernel, by decide⟩
theorem mv_X2_isShaken : MV yX2_isShaken := ⟨gm (i := 691) (by decide +kernel) rfl, gm (i := 692) (by decide +kernel) rfl⟩
theorem mi_X2_weakCourse : MI yX2_weakCourse cX2_weakCourse 6 (some .int) 1 := ⟨gm (i := 709) (by decide +kernel) rfl, ini_X2, ⟨by decide +kernel, by decide +kernel, by decide +kernel⟩, by decide +kernel, by decide⟩
theorem mv_X2_weakCourse : MV yX2_weakCourse := ⟨gm (i := 707) (by decide +kernel) rfl, gm (i := 708) (by decide +kernel) rfl⟩
theorem mi_X2_isFirm : MI yX2_isFirm cX2_isFirm 2 (some .boolean) 1 := ⟨gm (i := 705) (by decide +kernel) rfl, ini_X2, ⟨by decide +kernel, by decide +kernel, by decide +kernel⟩, by decide +kernel, by decide⟩
theorem mv_X2_isFirm : MV yX2_isFirm := ⟨gm (i := 703) (by decide +kernel) rfl, gm (i := 704) (by decide +kernel) rfl⟩
theorem mi_X2_greatestWind : MI yX2_greatestWind cX2_greatestWind 2 (some .int) 0 := ⟨gm (i := 901) (by decide +kernel) rfl, ini_X2, ⟨by decide +kernel, by decide +kernel, by decide +kernel⟩, by decide +kernel, by decide⟩
theorem mv_X2_greatestWind : MV yX2_greatestWind := ⟨gm (i := 899) (by decide +kernel) rfl, gm (i := 900) (by decide +kernel) rfl⟩
theorem mi_X2_crushedBits : MI yX2_crushedBits cX2_crushedBits 3 (some .int) 0 := ⟨gm (i := 932) (by decide +kernel) rfl, ini_X2, ⟨by decide +kernel, by decide +kernel, by decide +kernel⟩, by decide +kernel, by decide⟩
theorem mv_X2_crushedBits : MV yX2_crushedBits := ⟨gm (i := 930) (by decide +kernel) rfl, gm (i := 931) (by decide +kernel) rfl⟩
theorem mi_X2_shakenBits : MI yX2_shakenBits cX2_shakenBits 4 (some .int) 1 := ⟨gm (i := 981) (by decide +kernel) rfl, ini_X2, ⟨by decide +kernel, by decide +kernel, by decide +kernel⟩, by decide +kernel, by decide⟩
theorem mv_X2_shakenBits : MV yX2_shakenBits := ⟨gm (i := 979) (by decide +kernel) rfl, gm (i := 980) (by decide +kernel) rfl⟩
theorem mi_X2_leastCourse : MI yX2_leastCourse cX2_leastCourse 3 (some .int) 0 := ⟨gm (i := 734) (by decide +kernel) rfl, ini_X2, ⟨by decide +kernel, by decide +kernel, by decide +kernel⟩, by decide +kernel, by decide⟩
theorem mv_X2_leastCourse : MV yX2_leastCourse := ⟨gm (i := 732) (by decide +kernel) rfl, gm (i := 733) (by decide +kernel) rfl⟩
theorem mi_X2_leastSlack : MI yX2_leastSlack cX2_leastSlack 1 (some .int) 0 := ⟨gm (i := 730) (by decide +kernel) rfl, ini_X2, ⟨by decide +kernel, by decide +kernel, by decide +kernel⟩, by decide +kernel, by decide⟩
theorem mv_X2_leastSlack : MV yX2_leastSlack := ⟨gm (i := 728) (by decide +kernel) rfl, gm (i := 729) (by decide +kernel) rfl⟩
theorem mi_X2_makeRoom : MI yX2_makeRoom cX2_makeRoom 2 none 1 := ⟨gm (i := 946) (by decide +kernel) rfl, ini_X2, ⟨by decide +kernel, by decide +kernel, by decide +kernel⟩, by decide +kernel, by decide⟩
theorem mv_X2_makeRoom : MV yX2_makeRoom := ⟨gm (i := 944) (by decide +kernel) rfl, gm (i := 945) (by decide +kernel) rfl⟩
theorem mi_X2_firstBehindHead : MI yX2_firstBehindHead cX2_firstBehindHead 4 (some .int) 0 := ⟨gm (i := 951) (by decide +kernel) rfl, ini_X2, ⟨by decide +kernel, by decide +kernel, by decide +kernel⟩, by decide +kernel, by decide⟩
theorem mv_X2_firstBehindHead : MV yX2_firstBehindHead := ⟨gm (i := 949) (by decide +kernel) rfl, gm (i := 950) (by decide +kernel) rfl⟩
theorem mi_X2_fellByTurn : MI yX2_fellByTurn cX2_fellByTurn 4 (some .boolean) 2 := ⟨gm (i := 942) (by decide +kernel) rfl, ini_X2, ⟨by decide +kernel, by decide +kernel, by decide +kernel⟩, by decide +kernel, by decide⟩
theorem mv_X2_fellByTurn : MV yX2_fellByTurn := ⟨gm (i := 940) (by decide +kernel) rfl, gm (i := 941) (by decide +kernel) rfl⟩
theorem mi_X3_init : MI yX3_init cX3_init 2 none 1 := ⟨gm (i := 238) (by decide +kernel) rfl, ini_X3, ⟨by decide +kernel, by decide +kernel, by decide +kernel⟩, by decide +kernel, by decide⟩
theorem mo_X3_init : Cond.instanceMethod yX3_init ∈ gtbl := gm (i := 237) (by decide +kernel) rfl
theorem mi_X3_read : MI yX3_read cX3_read 3 (some .int) 1 := ⟨gm (i := 525) (by decide +kernel) rfl, ini_X3, ⟨by decide +kernel, by decide +kernel, by decide +kernel⟩, by decide +kernel, by decide⟩
theorem mv_X3_read : MV yX3_read := ⟨gm (i := 523) (by decide +kernel) rfl, gm (i := 524) (by decide +kernel) rfl⟩
theorem mi_X3_didStatement : MI yX3_didStatement cX3_didStatement 2 (some .boolean) 1 := ⟨gm (i := 544) (by decide +kernel) rfl, ini_X3, ⟨by decide +kernel, by decide +kernel, by decide +kernel⟩, by decide +kernel, by decide⟩
theorem mv_X3_didStatement : MV yX3_didStatement := ⟨gm (i := 543) (by decide +kernel) rfl, gm (i := 8) (by decide +kernel) rfl⟩
theorem mi_X3_didPerson : MI yX3_didPerson cX3_didPerson 4 (some .boolean) 1 := ⟨gm (i := 601) (by decide +kernel) rfl, ini_X3, ⟨by decide +kernel, by decide +kernel, by decide +kernel⟩, by decide +kernel, by decide⟩
theorem mv_X3_didPerson : MV yX3_didPerson := ⟨gm (i := 600) (by decide +kernel) rfl, gm (i := 10) (by decide +kernel) rfl⟩
theorem mi_X3_didClimb : MI yX3_didClimb cX3_didClimb 3 (some .boolean) 1 := ⟨gm (i := 615) (by decide +kernel) rfl, ini_X3, ⟨by decide +kernel, by decide +kernel, by decide +kernel⟩, by decide +kernel, by decide⟩
theorem mv_X3_didClimb : MV yX3_didClimb := ⟨gm (i := 614) (by decide +kernel) rfl, gm (i := 12) (by decide +kernel) rfl⟩
theorem mi_X3_didTell : MI yX3_didTell cX3_didTell 4 (some .boolean) 2 := ⟨gm (i := 644) (by decide +kernel) rfl, ini_X3, ⟨by decide +kernel, by decide +kernel, by decide +kernel⟩, by decide +kernel, by decide⟩
theorem mv_X3_didTell : MV yX3_didTell := ⟨gm (i := 643) (by decide +kernel) rfl, gm (i := 13) (by decide +kernel) rfl⟩
theorem mi_X3_step : MI yX3_step cX3_step 2 none 0 := ⟨gm (i := 529) (by decide +kernel) rfl, ini_X3, ⟨by decide +kernel, by decide +kernel, by decide +kernel⟩, by decide +kernel, by decide⟩
theorem mv_X3_step : MV yX3_step := ⟨gm (i := 528) (by decide +kernel) rfl, gm (i := 7) (by decide +kernel) rfl⟩
theorem mi_X3_isWord : MI yX3_isWord cX3_isWord 3 (some .boolean) 1 := ⟨gm (i := 549) (by decide +kernel) rfl, ini_X3, ⟨by decide +kernel, by decide +kernel, by decide +kernel⟩, by decide +kernel, by decide⟩
theorem mv_X3_isWord : MV yX3_isWord := ⟨gm (i := 548) (by decide +kernel) rfl, gm (i := 9) (by decide +kernel) rfl⟩
theorem mi_X3_number : MI yX3_number cX3_number 3 (some .int) 0 := ⟨gm (i := 606) (by decide +kernel) rfl, ini_X3, ⟨by decide +kernel, by decide +kernel, by decide +kernel⟩, by decide +kernel, by decide⟩
theorem mv_X3_number : MV yX3_number := ⟨gm (i := 605) (by decide +kernel) rfl, gm (i := 11) (by decide +kernel) rfl⟩
theorem mi_X3_isLetter : MI yX3_isLetter cX3_isLetter 1 (some .boolean) 1 := ⟨gm (i := 537) (by decide +kernel) rfl, ini_X3, ⟨by decide +kernel, by decide +kernel, by decide +kernel⟩, by decide +kernel, by decide⟩
theorem ms_X3_isLetter : MSt yX3_isLetter := gm (i := 536) (by decide +kernel) rfl
theorem mi_X3_isDigit : MI yX3_isDigit cX3_isDigit 1 (some .boolean) 1 := ⟨gm (i := 540) (by decide +kernel) rfl, ini_X3, ⟨by decide +kernel, by decide +kernel, by decide +kernel⟩, by decide +kernel, by decide⟩
theorem ms_X3_isDigit : MSt yX3_isDigit := gm (i := 539) (by decide +kernel) rfl
theorem mi_X4_init : MI yX4_init cX4_init 3 none 2 := ⟨gm (i := 312) (by decide +kernel) rfl, ini_X4, ⟨by decide +kernel, by decide +kernel, by decide +kernel⟩, by decide +kernel, by decide⟩
theorem mo_X4_init : Cond.instanceMethod yX4_init ∈ gtbl := gm (i := 311) (by decide +kernel) rfl
theorem mi_X4_has : MI yX4_has cX4_has 2 (some .boolean) 1 := ⟨gm (i := 353) (by decide +kernel) rfl, ini_X4, ⟨by decide +kernel, by decide +kernel, by decide +kernel⟩, by decide +kernel, by decide⟩
theorem mv_X4_has : MV yX4_has := ⟨gm (i := 351) (by decide +kernel) rfl, gm (i := 352) (by decide +kernel) rfl⟩
theorem mi_X4_hasSpan : MI yX4_hasSpan cX4_hasSpan 3 (some .boolean) 2 := ⟨gm (i := 369) (by decide +kernel) rfl, ini_X4, ⟨by decide +kernel, by decide +kernel, by decide +kernel⟩, by decide +kernel, by decide⟩
theorem mv_X4_hasSpan : MV yX4_hasSpan := ⟨gm (i := 367) (by decide +kernel) rfl, gm (i := 368) (by decide +kernel) rfl⟩
theorem mi_X4_cell : MI yX4_cell cX4_cell 2 (some .long) 1 := ⟨gm (i := 380) (by decide +kernel) rfl, ini_X4, ⟨by decide +kernel, by decide +kernel, by decide +kernel⟩, by decide +kernel, by decide⟩
theorem mv_X4_cell : MV yX4_cell := ⟨gm (i := 378) (by decide +kernel) rfl, gm (i := 379) (by decide +kernel) rfl⟩
theorem mi_X4_keep : MI yX4_keep cX4_keep 4 none 2 := ⟨gm (i := 357) (by decide +kernel) rfl, ini_X4, ⟨by decide +kernel, by decide +kernel, by decide +kernel⟩, by decide +kernel, by decide⟩
theorem mv_X4_keep : MV yX4_keep := ⟨gm (i := 355) (by decide +kernel) rfl, gm (i := 356) (by decide +kernel) rfl⟩
theorem mi_X4_cut : MI yX4_cut cX4_cut 3 (some .long) 1 := ⟨gm (i := 361) (by decide +kernel) rfl, ini_X4, ⟨by decide +kernel, by decide +kernel, by decide +kernel⟩, by decide +kernel, by decide⟩
theorem mv_X4_cut : MV yX4_cut := ⟨gm (i := 360) (by decide +kernel) rfl, gm (i := 5) (by decide +kernel) rfl⟩
theorem mi_X5_init : MI yX5_init cX5_init 1 none 0 := ⟨gm (i := 223) (by decide +kernel) rfl, ini_X5, ⟨by decide +kernel, by decide +kernel, by decide +kernel⟩, by decide +kernel, by decide⟩
theorem mo_X5_init : Cond.instanceMethod yX5_init ∈ gtbl := gm (i := 222) (by decide +kernel) rfl
theorem mi_X5_isFull : MI yX5_isFull cX5_isFull 1 (some .boolean) 0 := ⟨gm (i := 487) (by decide +kernel) rfl, ini_X5, ⟨by decide +kernel, by decide +kernel, by decide +kernel⟩, by decide +kernel, by decide⟩
theorem mv_X5_isFull : MV yX5_isFull := ⟨gm (i := 485) (by decide +kernel) rfl, gm (i := 486) (by decide +kernel) rfl⟩
theorem mi_X5_append : MI yX5_append cX5_append 2 none 1 := ⟨gm (i := 491) (by decide +kernel) rfl, ini_X5, ⟨by decide +kernel, by decide +kernel, by decide +kernel⟩, by decide +kernel, by decide⟩
theorem mv_X5_append : MV yX5_append := ⟨gm (i := 489) (by decide +kernel) rfl, gm (i := 490) (by decide +kernel) rfl⟩
theorem mi_X5_clear : MI yX5_clear cX5_clear 1 none 0 := ⟨gm (i := 501) (by decide +kernel) rfl, ini_X5, ⟨by decide +kernel, by decide +kernel, by decide +kernel⟩, by decide +kernel, by decide⟩
theorem mv_X5_clear : MV yX5_clear := ⟨gm (i := 499) (by decide +kernel) rfl, gm (i := 500) (by decide +kernel) rfl⟩
theorem mi_X5_letter : MI yX5_letter cX5_letter 2 (some .int) 1 := ⟨gm (i := 533) (by decide +kernel) rfl, ini_X5, ⟨by decide +kernel, by decide +kernel, by decide +kernel⟩, by decide +kernel, by decide⟩
theorem mv_X5_letter : MV yX5_letter := ⟨gm (i := 531) (by decide +kernel) rfl, gm (i := 532) (by decide +kernel) rfl⟩
theorem mi_X6_init : MI yX6_init cX6_init 1 none 0 := ⟨gm (i := 116) (by decide +kernel) rfl, ini_X6, ⟨by decide +kernel, by decide +kernel, by decide +kernel⟩, by decide +kernel, by decide⟩
theorem mo_X6_init : Cond.instanceMethod yX6_init ∈ gtbl := gm (i := 115) (by decide +kernel) rfl
theorem mi_X6_takeFrom : MI yX6_takeFrom cX6_takeFrom 2 none 1 := ⟨gm (i := 509) (by decide +kernel) rfl, ini_X6, ⟨by decide +kernel, by decide +kernel, by decide +kernel⟩, by decide +kernel, by decide⟩
theorem mv_X6_takeFrom : MV yX6_takeFrom := ⟨gm (i := 507) (by decide +kernel) rfl, gm (i := 508) (by decide +kernel) rfl⟩
theorem mi_X6_mayTell : MI yX6_mayTell cX6_mayTell 3 (some .boolean) 2 := ⟨gm (i := 466) (by decide +kernel) rfl, ini_X6, ⟨by decide +kernel, by decide +kernel, by decide +kernel⟩, by decide +kernel, by decide⟩
theorem mv_X6_mayTell : MV yX6_mayTell := ⟨gm (i := 464) (by decide +kernel) rfl, gm (i := 465) (by decide +kernel) rfl⟩
theorem mi_X6_setting : MI yX6_setting cX6_setting 2 (some .int) 1 := ⟨gm (i := 475) (by decide +kernel) rfl, ini_X6, ⟨by decide +kernel, by decide +kernel, by decide +kernel⟩, by decide +kernel, by decide⟩
theorem mv_X6_setting : MV yX6_setting := ⟨gm (i := 473) (by decide +kernel) rfl, gm (i := 474) (by decide +kernel) rfl⟩
theorem mi_X6_changeSetting : MI yX6_changeSetting cX6_changeSetting 3 none 2 := ⟨gm (i := 479) (by decide +kernel) rfl, ini_X6, ⟨by decide +kernel, by decide +kernel, by decide +kernel⟩, by decide +kernel, by decide⟩
theorem mv_X6_changeSetting : MV yX6_changeSetting := ⟨gm (i := 477) (by decide +kernel) rfl, gm (i := 478) (by decide +kernel) rfl⟩
theorem mi_X6_fellIfWeak : MI yX6_fellIfWeak cX6_fellIfWeak 1 (some .boolean) 0 := ⟨gm (i := 1044) (by decide +kernel) rfl, ini_X6, ⟨by decide +kernel, by decide +kernel, by decide +kernel⟩, by decide +kernel, by decide⟩
theorem mv_X6_fellIfWeak : MV yX6_fellIfWeak := ⟨gm (i := 1042) (by decide +kernel) rfl, gm (i := 1043) (by decide +kernel) rfl⟩
theorem mi_X6_turn : MI yX6_turn cX6_turn 1 none 0 := ⟨gm (i := 1061) (by decide +kernel) rfl, ini_X6, ⟨by decide +kernel, by decide +kernel, by decide +kernel⟩, by decide +kernel, by decide⟩
theorem mv_X6_turn : MV yX6_turn := ⟨gm (i := 1059) (by decide +kernel) rfl, gm (i := 1060) (by decide +kernel) rfl⟩
theorem mi_X6_draw : MI yX6_draw cX6_draw 2 (some .int) 1 := ⟨gm (i := 1071) (by decide +kernel) rfl, ini_X6, ⟨by decide +kernel, by decide +kernel, by decide +kernel⟩, by decide +kernel, by decide⟩
theorem mv_X6_draw : MV yX6_draw := ⟨gm (i := 1069) (by decide +kernel) rfl, gm (i := 1070) (by decide +kernel) rfl⟩
theorem mi_X7_init : MI yX7_init cX7_init 2 none 0 := ⟨gm (i := 108) (by decide +kernel) rfl, ini_X7, ⟨by decide +kernel, by decide +kernel, by decide +kernel⟩, by decide +kernel, by decide⟩
theorem mo_X7_init : Cond.instanceMethod yX7_init ∈ gtbl := gm (i := 107) (by decide +kernel) rfl
theorem mi_X7_row : MI yX7_row cX7_row 4 (some .int) 3 := ⟨gm (i := 295) (by decide +kernel) rfl, ini_X7, ⟨by decide +kernel, by decide +kernel, by decide +kernel⟩, by decide +kernel, by decide⟩
theorem mv_X7_row : MV yX7_row := ⟨gm (i := 293) (by decide +kernel) rfl, gm (i := 294) (by decide +kernel) rfl⟩
theorem mi_X7_set : MI yX7_set cX7_set 6 (some .int) 3 := ⟨gm (i := 337) (by decide +kernel) rfl, ini_X7, ⟨by decide +kernel, by decide +kernel, by decide +kernel⟩, by decide +kernel, by decide⟩
theorem mv_X7_set : MV yX7_set := ⟨gm (i := 335) (by decide +kernel) rfl, gm (i := 336) (by decide +kernel) rfl⟩
theorem mi_X7_copy : MI yX7_copy cX7_copy 8 (some .int) 5 := ⟨gm (i := 365) (by decide +kernel) rfl, ini_X7, ⟨by decide +kernel, by decide +kernel, by decide +kernel⟩, by decide +kernel, by decide⟩
theorem mv_X7_copy : MV yX7_copy := ⟨gm (i := 363) (by decide +kernel) rfl, gm (i := 364) (by decide +kernel) rfl⟩
theorem mi_X7_element : MI yX7_element cX7_element 4 (some .long) 2 := ⟨gm (i := 376) (by decide +kernel) rfl, ini_X7, ⟨by decide +kernel, by decide +kernel, by decide +kernel⟩, by decide +kernel, by decide⟩
theorem mv_X7_element : MV yX7_element := ⟨gm (i := 374) (by decide +kernel) rfl, gm (i := 375) (by decide +kernel) rfl⟩
theorem mi_X7_holds : MI yX7_holds cX7_holds 3 (some .int) 1 := ⟨gm (i := 384) (by decide +kernel) rfl, ini_X7, ⟨by decide +kernel, by decide +kernel, by decide +kernel⟩, by decide +kernel, by decide⟩
theorem mv_X7_holds : MV yX7_holds := ⟨gm (i := 382) (by decide +kernel) rfl, gm (i := 383) (by decide +kernel) rfl⟩
theorem mi_X7_show : MI yX7_show cX7_show 3 (some .int) 2 := ⟨gm (i := 388) (by decide +kernel) rfl, ini_X7, ⟨by decide +kernel, by decide +kernel, by decide +kernel⟩, by decide +kernel, by decide⟩
theorem mv_X7_show : MV yX7_show := ⟨gm (i := 386) (by decide +kernel) rfl, gm (i := 387) (by decide +kernel) rfl⟩
theorem mi_X7_says : MI yX7_says cX7_says 4 (some .int) 2 := ⟨gm (i := 396) (by decide +kernel) rfl, ini_X7, ⟨by decide +kernel, by decide +kernel, by decide +kernel⟩, by decide +kernel, by decide⟩
theorem mv_X7_says : MV yX7_says := ⟨gm (i := 394) (by decide +kernel) rfl, gm (i := 395) (by decide +kernel) rfl⟩
theorem mi_X7_person : MI yX7_person cX7_person 6 (some .int) 5 := ⟨gm (i := 417) (by decide +kernel) rfl, ini_X7, ⟨by decide +kernel, by decide +kernel, by decide +kernel⟩, by decide +kernel, by decide⟩
theorem mv_X7_person : MV yX7_person := ⟨gm (i := 415) (by decide +kernel) rfl, gm (i := 416) (by decide +kernel) rfl⟩
theorem mi_X7_give : MI yX7_give cX7_give 5 (some .int) 3 := ⟨gm (i := 453) (by decide +kernel) rfl, ini_X7, ⟨by decide +kernel, by decide +kernel, by decide +kernel⟩, by decide +kernel, by decide⟩
theorem mv_X7_give : MV yX7_give := ⟨gm (i := 451) (by decide +kernel) rfl, gm (i := 452) (by decide +kernel) rfl⟩
theorem mi_X7_tell : MI yX7_tell cX7_tell 4 (some .int) 2 := ⟨gm (i := 462) (by decide +kernel) rfl, ini_X7, ⟨by decide +kernel, by decide +kernel, by decide +kernel⟩, by decide +kernel, by decide⟩
theorem mv_X7_tell : MV yX7_tell := ⟨gm (i := 460) (by decide +kernel) rfl, gm (i := 461) (by decide +kernel) rfl⟩
theorem mi_X7_feed : MI yX7_feed cX7_feed 2 (some .int) 1 := ⟨gm (i := 483) (by decide +kernel) rfl, ini_X7, ⟨by decide +kernel, by decide +kernel, by decide +kernel⟩, by decide +kernel, by decide⟩
theorem mv_X7_feed : MV yX7_feed := ⟨gm (i := 481) (by decide +kernel) rfl, gm (i := 482) (by decide +kernel) rfl⟩
theorem mi_X7_wipe : MI yX7_wipe cX7_wipe 2 (some .int) 0 := ⟨gm (i := 497) (by decide +kernel) rfl, ini_X7, ⟨by decide +kernel, by decide +kernel, by decide +kernel⟩, by decide +kernel, by decide⟩
theorem mv_X7_wipe : MV yX7_wipe := ⟨gm (i := 495) (by decide +kernel) rfl, gm (i := 496) (by decide +kernel) rfl⟩
theorem mi_X7_tower : MI yX7_tower cX7_tower 2 (some .int) 0 := ⟨gm (i := 505) (by decide +kernel) rfl, ini_X7, ⟨by decide +kernel, by decide +kernel, by decide +kernel⟩, by decide +kernel, by decide⟩
theorem mv_X7_tower : MV yX7_tower := ⟨gm (i := 503) (by decide +kernel) rfl, gm (i := 504) (by decide +kernel) rfl⟩
theorem mi_X7_personOf : MI yX7_personOf cX7_personOf 3 (some .int) 2 := ⟨gm (i := 653) (by decide +kernel) rfl, ini_X7, ⟨by decide +kernel, by decide +kernel, by decide +kernel⟩, by decide +kernel, by decide⟩
theorem mv_X7_personOf : MV yX7_personOf := ⟨gm (i := 651) (by decide +kernel) rfl, gm (i := 652) (by decide +kernel) rfl⟩
theorem mi_X7_at : MI yX7_at cX7_at 2 (some .int) 1 := ⟨gm (i := 658) (by decide +kernel) rfl, ini_X7, ⟨by decide +kernel, by decide +kernel, by decide +kernel⟩, by decide +kernel, by decide⟩
theorem mv_X7_at : MV yX7_at := ⟨gm (i := 656) (by decide +kernel) rfl, gm (i := 657) (by decide +kernel) rfl⟩
theorem mi_X7_of : MI yX7_of cX7_of 4 (some .int) 2 := ⟨gm (i := 666) (by decide +kernel) rfl, ini_X7, ⟨by decide +kernel, by decide +kernel, by decide +kernel⟩, by decide +kernel, by decide⟩
theorem mv_X7_of : MV yX7_of := ⟨gm (i := 664) (by decide +kernel) rfl, gm (i := 665) (by decide +kernel) rfl⟩
theorem mi_X7_stands : MI yX7_stands cX7_stands 1 (some .int) 0 := ⟨gm (i := 701) (by decide +kernel) rfl, ini_X7, ⟨by decide +kernel, by decide +kernel, by decide +kernel⟩, by decide +kernel, by decide⟩
theorem mv_X7_stands : MV yX7_stands := ⟨gm (i := 699) (by decide +kernel) rfl, gm (i := 700) (by decide +kernel) rfl⟩
theorem mi_X7_weak : MI yX7_weak cX7_weak 1 (some .int) 0 := ⟨gm (i := 713) (by decide +kernel) rfl, ini_X7, ⟨by decide +kernel, by decide +kernel, by decide +kernel⟩, by decide +kernel, by decide⟩
theorem mv_X7_weak : MV yX7_weak := ⟨gm (i := 711) (by decide +kernel) rfl, gm (i := 712) (by decide +kernel) rfl⟩
theorem mi_X7_height : MI yX7_height cX7_height 1 (some .int) 0 := ⟨gm (i := 718) (by decide +kernel) rfl, ini_X7, ⟨by decide +kernel, by decide +kernel, by decide +kernel⟩, by decide +kernel, by decide⟩
theorem mv_X7_height : MV yX7_height := ⟨gm (i := 716) (by decide +kernel) rfl, gm (i := 717) (by decide +kernel) rfl⟩
theorem mi_X7_least : MI yX7_least cX7_least 2 (some .int) 1 := ⟨gm (i := 726) (by decide +kernel) rfl, ini_X7, ⟨by decide +kernel, by decide +kernel, by decide +kernel⟩, by decide +kernel, by decide⟩
theorem mv_X7_least : MV yX7_least := ⟨gm (i := 724) (by decide +kernel) rfl, gm (i := 725) (by decide +kernel) rfl⟩
theorem mi_X7_orders : MI yX7_orders cX7_orders 4 (some .int) 2 := ⟨gm (i := 739) (by decide +kernel) rfl, ini_X7, ⟨by decide +kernel, by decide +kernel, by decide +kernel⟩, by decide +kernel, by decide⟩
theorem mv_X7_orders : MV yX7_orders := ⟨gm (i := 737) (by decide +kernel) rfl, gm (i := 738) (by decide +kernel) rfl⟩
theorem mi_X7_highest : MI yX7_highest cX7_highest 3 (some .int) 1 := ⟨gm (i := 807) (by decide +kernel) rfl, ini_X7, ⟨by decide +kernel, by decide +kernel, by decide +kernel⟩, by decide +kernel, by decide⟩
theorem mv_X7_highest : MV yX7_highest := ⟨gm (i := 805) (by decide +kernel) rfl, gm (i := 806) (by decide +kernel) rfl⟩
theorem mi_X7_fond : MI yX7_fond cX7_fond 3 (some .int) 2 := ⟨gm (i := 821) (by decide +kernel) rfl, ini_X7, ⟨by decide +kernel, by decide +kernel, by decide +kernel⟩, by decide +kernel, by decide⟩
theorem mv_X7_fond : MV yX7_fond := ⟨gm (i := 819) (by decide +kernel) rfl, gm (i := 820) (by decide +kernel) rfl⟩
theorem mi_X7_glad : MI yX7_glad cX7_glad 2 (some .int) 1 := ⟨gm (i := 832) (by decide +kernel) rfl, ini_X7, ⟨by decide +kernel, by decide +kernel, by decide +kernel⟩, by decide +kernel, by decide⟩
theorem mv_X7_glad : MV yX7_glad := ⟨gm (i := 830) (by decide +kernel) rfl, gm (i := 831) (by decide +kernel) rfl⟩
theorem mi_X7_backs : MI yX7_backs cX7_backs 6 (some .int) 3 := ⟨gm (i := 850) (by decide +kernel) rfl, ini_X7, ⟨by decide +kernel, by decide +kernel, by decide +kernel⟩, by decide +kernel, by decide⟩
theorem mv_X7_backs : MV yX7_backs := ⟨gm (i := 848) (by decide +kernel) rfl, gm (i := 849) (by decide +kernel) rfl⟩
theorem mi_X7_ends : MI yX7_ends cX7_ends 3 (some .int) 2 := ⟨gm (i := 866) (by decide +kernel) rfl, ini_X7, ⟨by decide +kernel, by decide +kernel, by decide +kernel⟩, by decide +kernel, by decide⟩
theorem mv_X7_ends : MV yX7_ends := ⟨gm (i := 864) (by decide +kernel) rfl, gm (i := 865) (by decide +kernel) rfl⟩
theorem mi_X7_under : MI yX7_under cX7_under 6 (some .int) 0 := ⟨gm (i := 870) (by decide +kernel) rfl, ini_X7, ⟨by decide +kernel, by decide +kernel, by decide +kernel⟩, by decide +kernel, by decide⟩
theorem mv_X7_under : MV yX7_under := ⟨gm (i := 868) (by decide +kernel) rfl, gm (i := 869) (by decide +kernel) rfl⟩
theorem mi_X7_change : MI yX7_change cX7_change 7 (some .int) 0 := ⟨gm (i := 877) (by decide +kernel) rfl, ini_X7, ⟨by decide +kernel, by decide +kernel, by decide +kernel⟩, by decide +kernel, by decide⟩
theorem mv_X7_change : MV yX7_change := ⟨gm (i := 875) (by decide +kernel) rfl, gm (i := 876) (by decide +kernel) rfl⟩
theorem mi_X7_out : MI yX7_out cX7_out 3 (some .int) 0 := ⟨gm (i := 885) (by decide +kernel) rfl, ini_X7, ⟨by decide +kernel, by decide +kernel, by decide +kernel⟩, by decide +kernel, by decide⟩
theorem mv_X7_out : MV yX7_out := ⟨gm (i := 883) (by decide +kernel) rfl, gm (i := 884) (by decide +kernel) rfl⟩
theorem mi_X7_gale : MI yX7_gale cX7_gale 1 (some .int) 0 := ⟨gm (i := 897) (by decide +kernel) rfl, ini_X7, ⟨by decide +kernel, by decide +kernel, by decide +kernel⟩, by decide +kernel, by decide⟩
theorem mv_X7_gale : MV yX7_gale := ⟨gm (i := 895) (by decide +kernel) rfl, gm (i := 896) (by decide +kernel) rfl⟩
theorem mi_X7_chance : MI yX7_chance cX7_chance 1 (some .int) 0 := ⟨gm (i := 906) (by decide +kernel) rfl, ini_X7, ⟨by decide +kernel, by decide +kernel, by decide +kernel⟩, by decide +kernel, by decide⟩
theorem mv_X7_chance : MV yX7_chance := ⟨gm (i := 904) (by decide +kernel) rfl, gm (i := 905) (by decide +kernel) rfl⟩
theorem mi_X7_fittest : MI yX7_fittest cX7_fittest 5 (some .int) 0 := ⟨gm (i := 911) (by decide +kernel) rfl, ini_X7, ⟨by decide +kernel, by decide +kernel, by decide +kernel⟩, by decide +kernel, by decide⟩
theorem mv_X7_fittest : MV yX7_fittest := ⟨gm (i := 909) (by decide +kernel) rfl, gm (i := 910) (by decide +kernel) rfl⟩
theorem mi_X7_lighter : MI yX7_lighter cX7_lighter 5 (some .int) 0 := ⟨gm (i := 920) (by decide +kernel) rfl, ini_X7, ⟨by decide +kernel, by decide +kernel, by decide +kernel⟩, by decide +kernel, by decide⟩
theorem mv_X7_lighter : MV yX7_lighter := ⟨gm (i := 918) (by decide +kernel) rfl, gm (i := 919) (by decide +kernel) rfl⟩
theorem mi_X7_shifted : MI yX7_shifted cX7_shifted 4 (some .int) 2 := ⟨gm (i := 924) (by decide +kernel) rfl, ini_X7, ⟨by decide +kernel, by decide +kernel, by decide +kernel⟩, by decide +kernel, by decide⟩
theorem mv_X7_shifted : MV yX7_shifted := ⟨gm (i := 922) (by decide +kernel) rfl, gm (i := 923) (by decide +kernel) rfl⟩
theorem mi_X7_foot : MI yX7_foot cX7_foot 2 (some .int) 1 := ⟨gm (i := 928) (by decide +kernel) rfl, ini_X7, ⟨by decide +kernel, by decide +kernel, by decide +kernel⟩, by decide +kernel, by decide⟩
theorem mv_X7_foot : MV yX7_foot := ⟨gm (i := 926) (by decide +kernel) rfl, gm (i := 927) (by decide +kernel) rfl⟩
theorem mi_X7_ahead : MI yX7_ahead cX7_ahead 5 (some .int) 2 := ⟨gm (i := 938) (by decide +kernel) rfl, ini_X7, ⟨by decide +kernel, by decide +kernel, by decide +kernel⟩, by decide +kernel, by decide⟩
theorem mv_X7_ahead : MV yX7_ahead := ⟨gm (i := 936) (by decide +kernel) rfl, gm (i := 937) (by decide +kernel) rfl⟩
theorem mi_X7_next : MI yX7_next cX7_next 1 (some .int) 0 := ⟨gm (i := 963) (by decide +kernel) rfl, ini_X7, ⟨by decide +kernel, by decide +kernel, by decide +kernel⟩, by decide +kernel, by decide⟩
theorem mv_X7_next : MV yX7_next := ⟨gm (i := 961) (by decide +kernel) rfl, gm (i := 962) (by decide +kernel) rfl⟩
theorem mi_X7_who : MI yX7_who cX7_who 2 (some .int) 1 := ⟨gm (i := 969) (by decide +kernel) rfl, ini_X7, ⟨by decide +kernel, by decide +kernel, by decide +kernel⟩, by decide +kernel, by decide⟩
theorem mv_X7_who : MV yX7_who := ⟨gm (i := 967) (by decide +kernel) rfl, gm (i := 968) (by decide +kernel) rfl⟩
theorem mi_X7_room : MI yX7_room cX7_room 3 (some .int) 1 := ⟨gm (i := 986) (by decide +kernel) rfl, ini_X7, ⟨by decide +kernel, by decide +kernel, by decide +kernel⟩, by decide +kernel, by decide⟩
theorem mv_X7_room : MV yX7_room := ⟨gm (i := 984) (by decide +kernel) rfl, gm (i := 985) (by decide +kernel) rfl⟩
theorem mi_X7_needs : MI yX7_needs cX7_needs 7 (some .int) 1 := ⟨gm (i := 991) (by decide +kernel) rfl, ini_X7, ⟨by decide +kernel, by decide +kernel, by decide +kernel⟩, by decide +kernel, by decide⟩
theorem mv_X7_needs : MV yX7_needs := ⟨gm (i := 989) (by decide +kernel) rfl, gm (i := 990) (by decide +kernel) rfl⟩
theorem mi_X7_nerves : MI yX7_nerves cX7_nerves 4 (some .int) 1 := ⟨gm (i := 996) (by decide +kernel) rfl, ini_X7, ⟨by decide +kernel, by decide +kernel, by decide +kernel⟩, by decide +kernel, by decide⟩
theorem mv_X7_nerves : MV yX7_nerves := ⟨gm (i := 994) (by decide +kernel) rfl, gm (i := 995) (by decide +kernel) rfl⟩
theorem mi_X7_mass : MI yX7_mass cX7_mass 1 (some .int) 0 := ⟨gm (i := 1001) (by decide +kernel) rfl, ini_X7, ⟨by decide +kernel, by decide +kernel, by decide +kernel⟩, by decide +kernel, by decide⟩
theorem mv_X7_mass : MV yX7_mass := ⟨gm (i := 999) (by decide +kernel) rfl, gm (i := 1000) (by decide +kernel) rfl⟩
theorem mi_X7_gladness : MI yX7_gladness cX7_gladness 3 (some .int) 0 := ⟨gm (i := 1005) (by decide +kernel) rfl, ini_X7, ⟨by decide +kernel, by decide +kernel, by decide +kernel⟩, by decide +kernel, by decide⟩
theorem mv_X7_gladness : MV yX7_gladness := ⟨gm (i := 1003) (by decide +kernel) rfl, gm (i := 1004) (by decide +kernel) rfl⟩
theorem mi_X7_between : MI yX7_between cX7_between 4 (some .int) 1 := ⟨gm (i := 1009) (by decide +kernel) rfl, ini_X7, ⟨by decide +kernel, by decide +kernel, by decide +kernel⟩, by decide +kernel, by decide⟩
theorem mv_X7_between : MV yX7_between := ⟨gm (i := 1007) (by decide +kernel) rfl, gm (i := 1008) (by decide +kernel) rfl⟩
theorem mi_X7_top : MI yX7_top cX7_top 1 (some .int) 0 := ⟨gm (i := 1013) (by decide +kernel) rfl, ini_X7, ⟨by decide +kernel, by decide +kernel, by decide +kernel⟩, by decide +kernel, by decide⟩
theorem mv_X7_top : MV yX7_top := ⟨gm (i := 1011) (by decide +kernel) rfl, gm (i := 1012) (by decide +kernel) rfl⟩
theorem mi_X7_ofKind : MI yX7_ofKind cX7_ofKind 4 (some .int) 1 := ⟨gm (i := 1017) (by decide +kernel) rfl, ini_X7, ⟨by decide +kernel, by decide +kernel, by decide +kernel⟩, by decide +kernel, by decide⟩
theorem mv_X7_ofKind : MV yX7_ofKind := ⟨gm (i := 1015) (by decide +kernel) rfl, gm (i := 1016) (by decide +kernel) rfl⟩
theorem mi_X7_judge : MI yX7_judge cX7_judge 5 (some .int) 2 := ⟨gm (i := 1021) (by decide +kernel) rfl, ini_X7, ⟨by decide +kernel, by decide +kernel, by decide +kernel⟩, by decide +kernel, by decide⟩
theorem mv_X7_judge : MV yX7_judge := ⟨gm (i := 1019) (by decide +kernel) rfl, gm (i := 1020) (by decide +kernel) rfl⟩
theorem mi_X7_breaks : MI yX7_breaks cX7_breaks 5 (some .int) 2 := ⟨gm (i := 1032) (by decide +kernel) rfl, ini_X7, ⟨by decide +kernel, by decide +kernel, by decide +kernel⟩, by decide +kernel, by decide⟩
theorem mv_X7_breaks : MV yX7_breaks := ⟨gm (i := 1030) (by decide +kernel) rfl, gm (i := 1031) (by decide +kernel) rfl⟩
theorem mi_X7_climb : MI yX7_climb cX7_climb 2 (some .int) 1 := ⟨gm (i := 1040) (by decide +kernel) rfl, ini_X7, ⟨by decide +kernel, by decide +kernel, by decide +kernel⟩, by decide +kernel, by decide⟩
theorem mv_X7_climb : MV yX7_climb := ⟨gm (i := 1038) (by decide +kernel) rfl, gm (i := 1039) (by decide +kernel) rfl⟩
theorem mi_X7_comesOut : MI yX7_comesOut cX7_comesOut 2 (some .int) 0 := ⟨gm (i := 1050) (by decide +kernel) rfl, ini_X7, ⟨by decide +kernel, by decide +kernel, by decide +kernel⟩, by decide +kernel, by decide⟩
theorem mv_X7_comesOut : MV yX7_comesOut := ⟨gm (i := 1048) (by decide +kernel) rfl, gm (i := 1049) (by decide +kernel) rfl⟩
theorem mi_X7_days : MI yX7_days cX7_days 3 (some .int) 1 := ⟨gm (i := 1054) (by decide +kernel) rfl, ini_X7, ⟨by decide +kernel, by decide +kernel, by decide +kernel⟩, by decide +kernel, by decide⟩
theorem mv_X7_days : MV yX7_days := ⟨gm (i := 1052) (by decide +kernel) rfl, gm (i := 1053) (by decide +kernel) rfl⟩
theorem mi_X7_drawn : MI yX7_drawn cX7_drawn 4 (some .int) 1 := ⟨gm (i := 1067) (by decide +kernel) rfl, ini_X7, ⟨by decide +kernel, by decide +kernel, by decide +kernel⟩, by decide +kernel, by decide⟩
theorem mv_X7_drawn : MV yX7_drawn := ⟨gm (i := 1065) (by decide +kernel) rfl, gm (i := 1066) (by decide +kernel) rfl⟩
theorem mi_X7_seed : MI yX7_seed cX7_seed 3 (some .int) 1 := ⟨gm (i := 1076) (by decide +kernel) rfl, ini_X7, ⟨by decide +kernel, by decide +kernel, by decide +kernel⟩, by decide +kernel, by decide⟩
theorem mv_X7_seed : MV yX7_seed := ⟨gm (i := 1074) (by decide +kernel) rfl, gm (i := 1075) (by decide +kernel) rfl⟩
theorem mi_X7_image : MI yX7_image cX7_image 1 (some .int) 0 := ⟨gm (i := 1080) (by decide +kernel) rfl, ini_X7, ⟨by decide +kernel, by decide +kernel, by decide +kernel⟩, by decide +kernel, by decide⟩
theorem mv_X7_image : MV yX7_image := ⟨gm (i := 1078) (by decide +kernel) rfl, gm (i := 1079) (by decide +kernel) rfl⟩
theorem mi_X7_back : MI yX7_back cX7_back 2 (some .int) 0 := ⟨gm (i := 1084) (by decide +kernel) rfl, ini_X7, ⟨by decide +kernel, by decide +kernel, by decide +kernel⟩, by decide +kernel, by decide⟩
theorem mv_X7_back : MV yX7_back := ⟨gm (i := 1082) (by decide +kernel) rfl, gm (i := 1083) (by decide +kernel) rfl⟩
theorem mi_X7_status : MI yX7_status cX7_status 2 (some .int) 1 := ⟨gm (i := 1088) (by decide +kernel) rfl, ini_X7, ⟨by decide +kernel, by decide +kernel, by decide +kernel⟩, by decide +kernel, by decide⟩
theorem mv_X7_status : MV yX7_status := ⟨gm (i := 1086) (by decide +kernel) rfl, gm (i := 1087) (by decide +kernel) rfl⟩
theorem mi_X7_refuse : MI yX7_refuse cX7_refuse 3 (some .int) 1 := ⟨gm (i := 302) (by decide +kernel) rfl, ini_X7, ⟨by decide +kernel, by decide +kernel, by decide +kernel⟩, by decide +kernel, by decide⟩
theorem mv_X7_refuse : MV yX7_refuse := ⟨gm (i := 301) (by decide +kernel) rfl, gm (i := 0) (by decide +kernel) rfl⟩
theorem mi_X7_refusals : MI yX7_refusals cX7_refusals 3 (some .int) 1 := ⟨gm (i := 1096) (by decide +kernel) rfl, ini_X7, ⟨by decide +kernel, by decide +kernel, by decide +kernel⟩, by decide +kernel, by decide⟩
theorem mv_X7_refusals : MV yX7_refusals := ⟨gm (i := 1095) (by decide +kernel) rfl, gm (i := 31) (by decide +kernel) rfl⟩
theorem mi_X7_fullShelves : MI yX7_fullShelves cX7_fullShelves 3 (some .int) 0 := ⟨gm (i := 1092) (by decide +kernel) rfl, ini_X7, ⟨by decide +kernel, by decide +kernel, by decide +kernel⟩, by decide +kernel, by decide⟩
theorem mv_X7_fullShelves : MV yX7_fullShelves := ⟨gm (i := 1091) (by decide +kernel) rfl, gm (i := 30) (by decide +kernel) rfl⟩
theorem mi_X7_rowOn : MI yX7_rowOn cX7_rowOn 2 (some (.object "TowerOfTurns$Row")) 1 := ⟨gm (i := 341) (by decide +kernel) rfl, ini_X7, ⟨by decide +kernel, by decide +kernel, by decide +kernel⟩, by decide +kernel, by decide⟩
theorem mv_X7_rowOn : MV yX7_rowOn := ⟨gm (i := 340) (by decide +kernel) rfl, gm (i := 2) (by decide +kernel) rfl⟩
theorem mi_X7_faultOfRow : MI yX7_faultOfRow cX7_faultOfRow 4 (some .int) 2 := ⟨gm (i := 345) (by decide +kernel) rfl, ini_X7, ⟨by decide +kernel, by decide +kernel, by decide +kernel⟩, by decide +kernel, by decide⟩
theorem mv_X7_faultOfRow : MV yX7_faultOfRow := ⟨gm (i := 344) (by decide +kernel) rfl, gm (i := 3) (by decide +kernel) rfl⟩
theorem mi_X7_isShown : MI yX7_isShown cX7_isShown 2 (some .boolean) 1 := ⟨gm (i := 349) (by decide +kernel) rfl, ini_X7, ⟨by decide +kernel, by decide +kernel, by decide +kernel⟩, by decide +kernel, by decide⟩
theorem mv_X7_isShown : MV yX7_isShown := ⟨gm (i := 348) (by decide +kernel) rfl, gm (i := 4) (by decide +kernel) rfl⟩
theorem mi_X7_place : MI yX7_place cX7_place 4 none 3 := ⟨gm (i := 333) (by decide +kernel) rfl, ini_X7, ⟨by decide +kernel, by decide +kernel, by decide +kernel⟩, by decide +kernel, by decide⟩
theorem mv_X7_place : MV yX7_place := ⟨gm (i := 332) (by decide +kernel) rfl, gm (i := 1) (by decide +kernel) rfl⟩
theorem mi_X7_isSet : MI yX7_isSet cX7_isSet 2 (some .boolean) 1 := ⟨gm (i := 743) (by decide +kernel) rfl, ini_X7, ⟨by decide +kernel, by decide +kernel, by decide +kernel⟩, by decide +kernel, by decide⟩
theorem mv_X7_isSet : MV yX7_isSet := ⟨gm (i := 742) (by decide +kernel) rfl, gm (i := 14) (by decide +kernel) rfl⟩
theorem mi_X7_couldClimb : MI yX7_couldClimb cX7_couldClimb 3 (some .int) 0 := ⟨gm (i := 977) (by decide +kernel) rfl, ini_X7, ⟨by decide +kernel, by decide +kernel, by decide +kernel⟩, by decide +kernel, by decide⟩
theorem mv_X7_couldClimb : MV yX7_couldClimb := ⟨gm (i := 976) (by decide +kernel) rfl, gm (i := 27) (by decide +kernel) rfl⟩
theorem mi_X7_tryOnTop : MI yX7_tryOnTop cX7_tryOnTop 2 none 1 := ⟨gm (i := 915) (by decide +kernel) rfl, ini_X7, ⟨by decide +kernel, by decide +kernel, by decide +kernel⟩, by decide +kernel, by decide⟩
theorem mv_X7_tryOnTop : MV yX7_tryOnTop := ⟨gm (i := 914) (by decide +kernel) rfl, gm (i := 26) (by decide +kernel) rfl⟩
theorem mi_X7_tryWithout : MI yX7_tryWithout cX7_tryWithout 2 none 1 := ⟨gm (i := 889) (by decide +kernel) rfl, ini_X7, ⟨by decide +kernel, by decide +kernel, by decide +kernel⟩, by decide +kernel, by decide⟩
theorem mv_X7_tryWithout : MV yX7_tryWithout := ⟨gm (i := 888) (by decide +kernel) rfl, gm (i := 25) (by decide +kernel) rfl⟩
theorem mi_X7_firstWrong : MI yX7_firstWrong cX7_firstWrong 6 (some .int) 2 := ⟨gm (i := 1028) (by decide +kernel) rfl, ini_X7, ⟨by decide +kernel, by decide +kernel, by decide +kernel⟩, by decide +kernel, by decide⟩
theorem mv_X7_firstWrong : MV yX7_firstWrong := ⟨gm (i := 1027) (by decide +kernel) rfl, gm (i := 28) (by decide +kernel) rfl⟩
theorem mi_X7_firstBreak : MI yX7_firstBreak cX7_firstBreak 4 (some .int) 2 := ⟨gm (i := 1036) (by decide +kernel) rfl, ini_X7, ⟨by decide +kernel, by decide +kernel, by decide +kernel⟩, by decide +kernel, by decide⟩
theorem mv_X7_firstBreak : MV yX7_firstBreak := ⟨gm (i := 1035) (by decide +kernel) rfl, gm (i := 29) (by decide +kernel) rfl⟩
theorem mi_X7_isShelf : MI yX7_isShelf cX7_isShelf 1 (some .boolean) 1 := ⟨gm (i := 298) (by decide +kernel) rfl, ini_X7, ⟨by decide +kernel, by decide +kernel, by decide +kernel⟩, by decide +kernel, by decide⟩
theorem ms_X7_isShelf : MSt yX7_isShelf := gm (i := 297) (by decide +kernel) rfl
theorem mi_X7_isKind : MI yX7_isKind cX7_isKind 1 (some .boolean) 1 := ⟨gm (i := 399) (by decide +kernel) rfl, ini_X7, ⟨by decide +kernel, by decide +kernel, by decide +kernel⟩, by decide +kernel, by decide⟩
theorem ms_X7_isKind : MSt yX7_isKind := gm (i := 398) (by decide +kernel) rfl
theorem mi_X7_isLength : MI yX7_isLength cX7_isLength 1 (some .boolean) 1 := ⟨gm (i := 1024) (by decide +kernel) rfl, ini_X7, ⟨by decide +kernel, by decide +kernel, by decide +kernel⟩, by decide +kernel, by decide⟩
theorem ms_X7_isLength : MSt yX7_isLength := gm (i := 1023) (by decide +kernel) rfl
theorem mi_X7_isTime : MI yX7_isTime cX7_isTime 1 (some .boolean) 1 := ⟨gm (i := 1057) (by decide +kernel) rfl, ini_X7, ⟨by decide +kernel, by decide +kernel, by decide +kernel⟩, by decide +kernel, by decide⟩
theorem ms_X7_isTime : MSt yX7_isTime := gm (i := 1056) (by decide +kernel) rfl
theorem mi_X7_mayBe : MI yX7_mayBe cX7_mayBe 2 (some .boolean) 2 := ⟨gm (i := 420) (by decide +kernel) rfl, ini_X7, ⟨by decide +kernel, by decide +kernel, by decide +kernel⟩, by decide +kernel, by decide⟩
theorem ms_X7_mayBe : MSt yX7_mayBe := gm (i := 419) (by decide +kernel) rfl
theorem mi_X7_isUnder : MI yX7_isUnder cX7_isUnder 4 (some .boolean) 2 := ⟨gm (i := 406) (by decide +kernel) rfl, ini_X7, ⟨by decide +kernel, by decide +kernel, by decide +kernel⟩, by decide +kernel, by decide⟩
theorem ms_X7_isUnder : MSt yX7_isUnder := gm (i := 405) (by decide +kernel) rfl
theorem mi_X7_sway : MI yX7_sway cX7_sway 2 (some .int) 2 := ⟨gm (i := 697) (by decide +kernel) rfl, ini_X7, ⟨by decide +kernel, by decide +kernel, by decide +kernel⟩, by decide +kernel, by decide⟩
theorem ms_X7_sway : MSt yX7_sway := gm (i := 696) (by decide +kernel) rfl
theorem mi_X7_bit : MI yX7_bit cX7_bit 1 (some .int) 1 := ⟨gm (i := 746) (by decide +kernel) rfl, ini_X7, ⟨by decide +kernel, by decide +kernel, by decide +kernel⟩, by decide +kernel, by decide⟩
theorem ms_X7_bit : MSt yX7_bit := gm (i := 745) (by decide +kernel) rfl
theorem mi_X7_oneIf : MI yX7_oneIf cX7_oneIf 1 (some .int) 1 := ⟨gm (i := 689) (by decide +kernel) rfl, ini_X7, ⟨by decide +kernel, by decide +kernel, by decide +kernel⟩, by decide +kernel, by decide⟩
theorem ms_X7_oneIf : MSt yX7_oneIf := gm (i := 688) (by decide +kernel) rfl
theorem mi_X7_pick : MI yX7_pick cX7_pick 2 (some .int) 2 := ⟨gm (i := 305) (by decide +kernel) rfl, ini_X7, ⟨by decide +kernel, by decide +kernel, by decide +kernel⟩, by decide +kernel, by decide⟩
theorem ms_X7_pick : MSt yX7_pick := gm (i := 304) (by decide +kernel) rfl
theorem mi_X7_put : MI yX7_put cX7_put 3 none 3 := ⟨gm (i := 308) (by decide +kernel) rfl, ini_X7, ⟨by decide +kernel, by decide +kernel, by decide +kernel⟩, by decide +kernel, by decide⟩
theorem ms_X7_put : MSt yX7_put := gm (i := 307) (by decide +kernel) rfl
theorem mi_X7_copyAll : MI yX7_copyAll cX7_copyAll 3 none 2 := ⟨gm (i := 516) (by decide +kernel) rfl, ini_X7, ⟨by decide +kernel, by decide +kernel, by decide +kernel⟩, by decide +kernel, by decide⟩
theorem ms_X7_copyAll : MSt yX7_copyAll := gm (i := 515) (by decide +kernel) rfl
theorem mi_X8_init : MI yX8_init cX8_init 1 none 0 := ⟨gm (i := 1101) (by decide +kernel) rfl, ini_X8, ⟨by decide +kernel, by decide +kernel, by decide +kernel⟩, by decide +kernel, by decide⟩
theorem mo_X8_init : Cond.instanceMethod yX8_init ∈ gtbl := gm (i := 1100) (by decide +kernel) rfl
theorem mi_X8_refuse : MI yX8_refuse cX8_refuse 2 (some .int) 1 := ⟨gm (i := 1236) (by decide +kernel) rfl, ini_X8, ⟨by decide +kernel, by decide +kernel, by decide +kernel⟩, by decide +kernel, by decide⟩
theorem mv_X8_refuse : MV yX8_refuse := ⟨gm (i := 1235) (by decide +kernel) rfl, gm (i := 32) (by decide +kernel) rfl⟩
theorem mi_X8_in : MI yX8_in cX8_in 6 (some .boolean) 3 := ⟨gm (i := 1230) (by decide +kernel) rfl, ini_X8, ⟨by decide +kernel, by decide +kernel, by decide +kernel⟩, by decide +kernel, by decide⟩
theorem ms_X8_in : MSt yX8_in := gm (i := 1229) (by decide +kernel) rfl
theorem mi_X8_isPerson : MI yX8_isPerson cX8_isPerson 3 (some .boolean) 1 := ⟨gm (i := 1267) (by decide +kernel) rfl, ini_X8, ⟨by decide +kernel, by decide +kernel, by decide +kernel⟩, by decide +kernel, by decide⟩
theorem mv_X8_isPerson : MV yX8_isPerson := ⟨gm (i := 1266) (by decide +kernel) rfl, gm (i := 34) (by decide +kernel) rfl⟩
theorem mi_X8_bits : MI yX8_bits cX8_bits 3 (some .int) 1 := ⟨gm (i := 1523) (by decide +kernel) rfl, ini_X8, ⟨by decide +kernel, by decide +kernel, by decide +kernel⟩, by decide +kernel, by decide⟩
theorem ms_X8_bits : MSt yX8_bits := gm (i := 1522) (by decide +kernel) rfl
theorem mi_X8_row : MI yX8_row cX8_row 5 (some .int) 3 := ⟨gm (i := 1226) (by decide +kernel) rfl, ini_X8, ⟨by decide +kernel, by decide +kernel, by decide +kernel⟩, by decide +kernel, by decide⟩
theorem mv_X8_row : MV yX8_row := ⟨gm (i := 1224) (by decide +kernel) rfl, gm (i := 1225) (by decide +kernel) rfl⟩
theorem mi_X8_fit : MI yX8_fit cX8_fit 3 (some .long) 2 := ⟨gm (i := 1247) (by decide +kernel) rfl, ini_X8, ⟨by decide +kernel, by decide +kernel, by decide +kernel⟩, by decide +kernel, by decide⟩
theorem ms_X8_fit : MSt yX8_fit := gm (i := 1246) (by decide +kernel) rfl
theorem mi_X8_noRow : MI yX8_noRow cX8_noRow 2 (some .int) 1 := ⟨gm (i := 1244) (by decide +kernel) rfl, ini_X8, ⟨by decide +kernel, by decide +kernel, by decide +kernel⟩, by decide +kernel, by decide⟩
theorem mv_X8_noRow : MV yX8_noRow := ⟨gm (i := 1243) (by decide +kernel) rfl, gm (i := 33) (by decide +kernel) rfl⟩
theorem mi_X8_set : MI yX8_set cX8_set 6 (some .int) 3 := ⟨gm (i := 1240) (by decide +kernel) rfl, ini_X8, ⟨by decide +kernel, by decide +kernel, by decide +kernel⟩, by decide +kernel, by decide⟩
theorem mv_X8_set : MV yX8_set := ⟨gm (i := 1238) (by decide +kernel) rfl, gm (i := 1239) (by decide +kernel) rfl⟩
theorem mi_X8_copy : MI yX8_copy cX8_copy 7 (some .int) 5 := ⟨gm (i := 1251) (by decide +kernel) rfl, ini_X8, ⟨by decide +kernel, by decide +kernel, by decide +kernel⟩, by decide +kernel, by decide⟩
theorem mv_X8_copy : MV yX8_copy := ⟨gm (i := 1249) (by decide +kernel) rfl, gm (i := 1250) (by decide +kernel) rfl⟩
theorem mi_X8_element : MI yX8_element cX8_element 3 (some .long) 2 := ⟨gm (i := 1255) (by decide +kernel) rfl, ini_X8, ⟨by decide +kernel, by decide +kernel, by decide +kernel⟩, by decide +kernel, by decide⟩
theorem mv_X8_element : MV yX8_element := ⟨gm (i := 1253) (by decide +kernel) rfl, gm (i := 1254) (by decide +kernel) rfl⟩
theorem mi_X8_holds : MI yX8_holds cX8_holds 2 (some .int) 1 := ⟨gm (i := 1259) (by decide +kernel) rfl, ini_X8, ⟨by decide +kernel, by decide +kernel, by decide +kernel⟩, by decide +kernel, by decide⟩
theorem mv_X8_holds : MV yX8_holds := ⟨gm (i := 1257) (by decide +kernel) rfl, gm (i := 1258) (by decide +kernel) rfl⟩
theorem mi_X8_show : MI yX8_show cX8_show 3 (some .int) 2 := ⟨gm (i := 1263) (by decide +kernel) rfl, ini_X8, ⟨by decide +kernel, by decide +kernel, by decide +kernel⟩, by decide +kernel, by decide⟩
theorem mv_X8_show : MV yX8_show := ⟨gm (i := 1261) (by decide +kernel) rfl, gm (i := 1262) (by decide +kernel) rfl⟩
theorem mi_X8_isUnder : MI yX8_isUnder cX8_isUnder 2 (some .boolean) 2 := ⟨gm (i := 1275) (by decide +kernel) rfl, ini_X8, ⟨by decide +kernel, by decide +kernel, by decide +kernel⟩, by decide +kernel, by decide⟩
theorem ms_X8_isUnder : MSt yX8_isUnder := gm (i := 1274) (by decide +kernel) rfl
theorem mi_X8_says : MI yX8_says cX8_says 4 (some .int) 2 := ⟨gm (i := 1271) (by decide +kernel) rfl, ini_X8, ⟨by decide +kernel, by decide +kernel, by decide +kernel⟩, by decide +kernel, by decide⟩
theorem mv_X8_says : MV yX8_says := ⟨gm (i := 1269) (by decide +kernel) rfl, gm (i := 1270) (by decide +kernel) rfl⟩
theorem mi_X8_addPerson : MI yX8_addPerson cX8_addPerson 6 none 5 := ⟨gm (i := 1297) (by decide +kernel) rfl, ini_X8, ⟨by decide +kernel, by decide +kernel, by decide +kernel⟩, by decide +kernel, by decide⟩
theorem mv_X8_addPerson : MV yX8_addPerson := ⟨gm (i := 1296) (by decide +kernel) rfl, gm (i := 38) (by decide +kernel) rfl⟩
theorem mi_X8_person : MI yX8_person cX8_person 6 (some .int) 5 := ⟨gm (i := 1291) (by decide +kernel) rfl, ini_X8, ⟨by decide +kernel, by decide +kernel, by decide +kernel⟩, by decide +kernel, by decide⟩
theorem mv_X8_person : MV yX8_person := ⟨gm (i := 1289) (by decide +kernel) rfl, gm (i := 1290) (by decide +kernel) rfl⟩
theorem mi_X8_give : MI yX8_give cX8_give 5 (some .int) 3 := ⟨gm (i := 1301) (by decide +kernel) rfl, ini_X8, ⟨by decide +kernel, by decide +kernel, by decide +kernel⟩, by decide +kernel, by decide⟩
theorem mv_X8_give : MV yX8_give := ⟨gm (i := 1299) (by decide +kernel) rfl, gm (i := 1300) (by decide +kernel) rfl⟩
theorem mi_X8_leastMost : MI yX8_leastMost cX8_leastMost 1 (some .int) 0 := ⟨gm (i := 1310) (by decide +kernel) rfl, ini_X8, ⟨by decide +kernel, by decide +kernel, by decide +kernel⟩, by decide +kernel, by decide⟩
theorem mv_X8_leastMost : MV yX8_leastMost := ⟨gm (i := 1309) (by decide +kernel) rfl, gm (i := 39) (by decide +kernel) rfl⟩
theorem mi_X8_tell : MI yX8_tell cX8_tell 5 (some .int) 2 := ⟨gm (i := 1306) (by decide +kernel) rfl, ini_X8, ⟨by decide +kernel, by decide +kernel, by decide +kernel⟩, by decide +kernel, by decide⟩
theorem mv_X8_tell : MV yX8_tell := ⟨gm (i := 1304) (by decide +kernel) rfl, gm (i := 1305) (by decide +kernel) rfl⟩
theorem mi_X8_feed : MI yX8_feed cX8_feed 2 (some .int) 1 := ⟨gm (i := 1316) (by decide +kernel) rfl, ini_X8, ⟨by decide +kernel, by decide +kernel, by decide +kernel⟩, by decide +kernel, by decide⟩
theorem mv_X8_feed : MV yX8_feed := ⟨gm (i := 1314) (by decide +kernel) rfl, gm (i := 1315) (by decide +kernel) rfl⟩
theorem mi_X8_wipe : MI yX8_wipe cX8_wipe 2 (some .int) 0 := ⟨gm (i := 1321) (by decide +kernel) rfl, ini_X8, ⟨by decide +kernel, by decide +kernel, by decide +kernel⟩, by decide +kernel, by decide⟩
theorem mv_X8_wipe : MV yX8_wipe := ⟨gm (i := 1319) (by decide +kernel) rfl, gm (i := 1320) (by decide +kernel) rfl⟩
theorem mi_X8_isLetter : MI yX8_isLetter cX8_isLetter 1 (some .boolean) 1 := ⟨gm (i := 1345) (by decide +kernel) rfl, ini_X8, ⟨by decide +kernel, by decide +kernel, by decide +kernel⟩, by decide +kernel, by decide⟩
theorem ms_X8_isLetter : MSt yX8_isLetter := gm (i := 1344) (by decide +kernel) rfl
theorem mi_X8_isDigit : MI yX8_isDigit cX8_isDigit 1 (some .boolean) 1 := ⟨gm (i := 1348) (by decide +kernel) rfl, ini_X8, ⟨by decide +kernel, by decide +kernel, by decide +kernel⟩, by decide +kernel, by decide⟩
theorem ms_X8_isDigit : MSt yX8_isDigit := gm (i := 1347) (by decide +kernel) rfl
theorem mi_X8_look : MI yX8_look cX8_look 1 none 0 := ⟨gm (i := 1342) (by decide +kernel) rfl, ini_X8, ⟨by decide +kernel, by decide +kernel, by decide +kernel⟩, by decide +kernel, by decide⟩
theorem mv_X8_look : MV yX8_look := ⟨gm (i := 1341) (by decide +kernel) rfl, gm (i := 42) (by decide +kernel) rfl⟩
theorem mi_X8_wrong : MI yX8_wrong cX8_wrong 1 (some .boolean) 0 := ⟨gm (i := 1375) (by decide +kernel) rfl, ini_X8, ⟨by decide +kernel, by decide +kernel, by decide +kernel⟩, by decide +kernel, by decide⟩
theorem mv_X8_wrong : MV yX8_wrong := ⟨gm (i := 1374) (by decide +kernel) rfl, gm (i := 48) (by decide +kernel) rfl⟩
theorem mi_X8_isWord : MI yX8_isWord cX8_isWord 3 (some .boolean) 1 := ⟨gm (i := 1357) (by decide +kernel) rfl, ini_X8, ⟨by decide +kernel, by decide +kernel, by decide +kernel⟩, by decide +kernel, by decide⟩
theorem mv_X8_isWord : MV yX8_isWord := ⟨gm (i := 1356) (by decide +kernel) rfl, gm (i := 44) (by decide +kernel) rfl⟩
theorem mi_X8_number : MI yX8_number cX8_number 4 (some .boolean) 3 := ⟨gm (i := 1371) (by decide +kernel) rfl, ini_X8, ⟨by decide +kernel, by decide +kernel, by decide +kernel⟩, by decide +kernel, by decide⟩
theorem mv_X8_number : MV yX8_number := ⟨gm (i := 1370) (by decide +kernel) rfl, gm (i := 47) (by decide +kernel) rfl⟩
theorem mi_X8_tells : MI yX8_tells cX8_tells 3 (some .boolean) 2 := ⟨gm (i := 1367) (by decide +kernel) rfl, ini_X8, ⟨by decide +kernel, by decide +kernel, by decide +kernel⟩, by decide +kernel, by decide⟩
theorem mv_X8_tells : MV yX8_tells := ⟨gm (i := 1366) (by decide +kernel) rfl, gm (i := 46) (by decide +kernel) rfl⟩
theorem mi_X8_tellsPerson : MI yX8_tellsPerson cX8_tellsPerson 2 (some .boolean) 0 := ⟨gm (i := 1363) (by decide +kernel) rfl, ini_X8, ⟨by decide +kernel, by decide +kernel, by decide +kernel⟩, by decide +kernel, by decide⟩
theorem mv_X8_tellsPerson : MV yX8_tellsPerson := ⟨gm (i := 1362) (by decide +kernel) rfl, gm (i := 45) (by decide +kernel) rfl⟩
theorem mi_X8_tellsClimb : MI yX8_tellsClimb cX8_tellsClimb 2 (some .boolean) 0 := ⟨gm (i := 1380) (by decide +kernel) rfl, ini_X8, ⟨by decide +kernel, by decide +kernel, by decide +kernel⟩, by decide +kernel, by decide⟩
theorem mv_X8_tellsClimb : MV yX8_tellsClimb := ⟨gm (i := 1379) (by decide +kernel) rfl, gm (i := 49) (by decide +kernel) rfl⟩
theorem mi_X8_statement : MI yX8_statement cX8_statement 2 (some .boolean) 0 := ⟨gm (i := 1352) (by decide +kernel) rfl, ini_X8, ⟨by decide +kernel, by decide +kernel, by decide +kernel⟩, by decide +kernel, by decide⟩
theorem mv_X8_statement : MV yX8_statement := ⟨gm (i := 1351) (by decide +kernel) rfl, gm (i := 43) (by decide +kernel) rfl⟩
theorem mi_X8_readAll : MI yX8_readAll cX8_readAll 1 (some .boolean) 0 := ⟨gm (i := 1338) (by decide +kernel) rfl, ini_X8, ⟨by decide +kernel, by decide +kernel, by decide +kernel⟩, by decide +kernel, by decide⟩
theorem mv_X8_readAll : MV yX8_readAll := ⟨gm (i := 1337) (by decide +kernel) rfl, gm (i := 41) (by decide +kernel) rfl⟩
theorem mi_X8_tower : MI yX8_tower cX8_tower 2 (some .int) 0 := ⟨gm (i := 1325) (by decide +kernel) rfl, ini_X8, ⟨by decide +kernel, by decide +kernel, by decide +kernel⟩, by decide +kernel, by decide⟩
theorem mv_X8_tower : MV yX8_tower := ⟨gm (i := 1323) (by decide +kernel) rfl, gm (i := 1324) (by decide +kernel) rfl⟩
theorem mi_X8_massOf : MI yX8_massOf cX8_massOf 2 (some .int) 1 := ⟨gm (i := 1283) (by decide +kernel) rfl, ini_X8, ⟨by decide +kernel, by decide +kernel, by decide +kernel⟩, by decide +kernel, by decide⟩
theorem mv_X8_massOf : MV yX8_massOf := ⟨gm (i := 1282) (by decide +kernel) rfl, gm (i := 36) (by decide +kernel) rfl⟩
theorem mi_X8_bears : MI yX8_bears cX8_bears 2 (some .int) 1 := ⟨gm (i := 1287) (by decide +kernel) rfl, ini_X8, ⟨by decide +kernel, by decide +kernel, by decide +kernel⟩, by decide +kernel, by decide⟩
theorem mv_X8_bears : MV yX8_bears := ⟨gm (i := 1286) (by decide +kernel) rfl, gm (i := 37) (by decide +kernel) rfl⟩
theorem mi_X8_tallness : MI yX8_tallness cX8_tallness 2 (some .int) 1 := ⟨gm (i := 1279) (by decide +kernel) rfl, ini_X8, ⟨by decide +kernel, by decide +kernel, by decide +kernel⟩, by decide +kernel, by decide⟩
theorem mv_X8_tallness : MV yX8_tallness := ⟨gm (i := 1278) (by decide +kernel) rfl, gm (i := 35) (by decide +kernel) rfl⟩
theorem mi_X8_courseOf : MI yX8_courseOf cX8_courseOf 3 (some .int) 1 := ⟨gm (i := 1388) (by decide +kernel) rfl, ini_X8, ⟨by decide +kernel, by decide +kernel, by decide +kernel⟩, by decide +kernel, by decide⟩
theorem mv_X8_courseOf : MV yX8_courseOf := ⟨gm (i := 1387) (by decide +kernel) rfl, gm (i := 51) (by decide +kernel) rfl⟩
theorem mi_X8_isIn : MI yX8_isIn cX8_isIn 2 (some .boolean) 1 := ⟨gm (i := 1384) (by decide +kernel) rfl, ini_X8, ⟨by decide +kernel, by decide +kernel, by decide +kernel⟩, by decide +kernel, by decide⟩
theorem mv_X8_isIn : MV yX8_isIn := ⟨gm (i := 1383) (by decide +kernel) rfl, gm (i := 50) (by decide +kernel) rfl⟩
theorem mi_X8_personOf : MI yX8_personOf cX8_personOf 3 (some .int) 2 := ⟨gm (i := 1396) (by decide +kernel) rfl, ini_X8, ⟨by decide +kernel, by decide +kernel, by decide +kernel⟩, by decide +kernel, by decide⟩
theorem mv_X8_personOf : MV yX8_personOf := ⟨gm (i := 1394) (by decide +kernel) rfl, gm (i := 1395) (by decide +kernel) rfl⟩
theorem mi_X8_fondOf : MI yX8_fondOf cX8_fondOf 4 (some .int) 2 := ⟨gm (i := 1404) (by decide +kernel) rfl, ini_X8, ⟨by decide +kernel, by decide +kernel, by decide +kernel⟩, by decide +kernel, by decide⟩
theorem mv_X8_fondOf : MV yX8_fondOf := ⟨gm (i := 1403) (by decide +kernel) rfl, gm (i := 52) (by decide +kernel) rfl⟩
theorem mi_X8_fond : MI yX8_fond cX8_fond 3 (some .int) 2 := ⟨gm (i := 1400) (by decide +kernel) rfl, ini_X8, ⟨by decide +kernel, by decide +kernel, by decide +kernel⟩, by decide +kernel, by decide⟩
theorem mv_X8_fond : MV yX8_fond := ⟨gm (i := 1398) (by decide +kernel) rfl, gm (i := 1399) (by decide +kernel) rfl⟩
theorem mi_X8_ofKind : MI yX8_ofKind cX8_ofKind 4 (some .int) 1 := ⟨gm (i := 1408) (by decide +kernel) rfl, ini_X8, ⟨by decide +kernel, by decide +kernel, by decide +kernel⟩, by decide +kernel, by decide⟩
theorem mv_X8_ofKind : MV yX8_ofKind := ⟨gm (i := 1406) (by decide +kernel) rfl, gm (i := 1407) (by decide +kernel) rfl⟩
theorem mi_X8_loadAt : MI yX8_loadAt cX8_loadAt 4 (some .int) 1 := ⟨gm (i := 1420) (by decide +kernel) rfl, ini_X8, ⟨by decide +kernel, by decide +kernel, by decide +kernel⟩, by decide +kernel, by decide⟩
theorem mv_X8_loadAt : MV yX8_loadAt := ⟨gm (i := 1419) (by decide +kernel) rfl, gm (i := 53) (by decide +kernel) rfl⟩
theorem mi_X8_upAt : MI yX8_upAt cX8_upAt 4 (some .int) 1 := ⟨gm (i := 1428) (by decide +kernel) rfl, ini_X8, ⟨by decide +kernel, by decide +kernel, by decide +kernel⟩, by decide +kernel, by decide⟩
theorem mv_X8_upAt : MV yX8_upAt := ⟨gm (i := 1427) (by decide +kernel) rfl, gm (i := 55) (by decide +kernel) rfl⟩
theorem mi_X8_slackAt : MI yX8_slackAt cX8_slackAt 2 (some .int) 1 := ⟨gm (i := 1424) (by decide +kernel) rfl, ini_X8, ⟨by decide +kernel, by decide +kernel, by decide +kernel⟩, by decide +kernel, by decide⟩
theorem mv_X8_slackAt : MV yX8_slackAt := ⟨gm (i := 1423) (by decide +kernel) rfl, gm (i := 54) (by decide +kernel) rfl⟩
theorem mi_X8_crushedAt : MI yX8_crushedAt cX8_crushedAt 2 (some .boolean) 1 := ⟨gm (i := 1432) (by decide +kernel) rfl, ini_X8, ⟨by decide +kernel, by decide +kernel, by decide +kernel⟩, by decide +kernel, by decide⟩
theorem mv_X8_crushedAt : MV yX8_crushedAt := ⟨gm (i := 1431) (by decide +kernel) rfl, gm (i := 56) (by decide +kernel) rfl⟩
theorem mi_X8_shakesAt : MI yX8_shakesAt cX8_shakesAt 2 (some .boolean) 1 := ⟨gm (i := 1436) (by decide +kernel) rfl, ini_X8, ⟨by decide +kernel, by decide +kernel, by decide +kernel⟩, by decide +kernel, by decide⟩
theorem mv_X8_shakesAt : MV yX8_shakesAt := ⟨gm (i := 1435) (by decide +kernel) rfl, gm (i := 57) (by decide +kernel) rfl⟩
theorem mi_X8_weakAt : MI yX8_weakAt cX8_weakAt 2 (some .int) 0 := ⟨gm (i := 1448) (by decide +kernel) rfl, ini_X8, ⟨by decide +kernel, by decide +kernel, by decide +kernel⟩, by decide +kernel, by decide⟩
theorem mv_X8_weakAt : MV yX8_weakAt := ⟨gm (i := 1447) (by decide +kernel) rfl, gm (i := 59) (by decide +kernel) rfl⟩
theorem mi_X8_isStanding : MI yX8_isStanding cX8_isStanding 1 (some .boolean) 0 := ⟨gm (i := 1444) (by decide +kernel) rfl, ini_X8, ⟨by decide +kernel, by decide +kernel, by decide +kernel⟩, by decide +kernel, by decide⟩
theorem mv_X8_isStanding : MV yX8_isStanding := ⟨gm (i := 1443) (by decide +kernel) rfl, gm (i := 58) (by decide +kernel) rfl⟩
theorem mi_X8_heightNow : MI yX8_heightNow cX8_heightNow 1 (some .int) 0 := ⟨gm (i := 1460) (by decide +kernel) rfl, ini_X8, ⟨by decide +kernel, by decide +kernel, by decide +kernel⟩, by decide +kernel, by decide⟩
theorem mv_X8_heightNow : MV yX8_heightNow := ⟨gm (i := 1459) (by decide +kernel) rfl, gm (i := 60) (by decide +kernel) rfl⟩
theorem mi_X8_at : MI yX8_at cX8_at 2 (some .int) 1 := ⟨gm (i := 1412) (by decide +kernel) rfl, ini_X8, ⟨by decide +kernel, by decide +kernel, by decide +kernel⟩, by decide +kernel, by decide⟩
theorem mv_X8_at : MV yX8_at := ⟨gm (i := 1410) (by decide +kernel) rfl, gm (i := 1411) (by decide +kernel) rfl⟩
theorem mi_X8_of : MI yX8_of cX8_of 4 (some .int) 2 := ⟨gm (i := 1416) (by decide +kernel) rfl, ini_X8, ⟨by decide +kernel, by decide +kernel, by decide +kernel⟩, by decide +kernel, by decide⟩
theorem mv_X8_of : MV yX8_of := ⟨gm (i := 1414) (by decide +kernel) rfl, gm (i := 1415) (by decide +kernel) rfl⟩
theorem mi_X8_stands : MI yX8_stands cX8_stands 1 (some .int) 0 := ⟨gm (i := 1440) (by decide +kernel) rfl, ini_X8, ⟨by decide +kernel, by decide +kernel, by decide +kernel⟩, by decide +kernel, by decide⟩
theorem mv_X8_stands : MV yX8_stands := ⟨gm (i := 1438) (by decide +kernel) rfl, gm (i := 1439) (by decide +kernel) rfl⟩
theorem mi_X8_weak : MI yX8_weak cX8_weak 2 (some .int) 0 := ⟨gm (i := 1452) (by decide +kernel) rfl, ini_X8, ⟨by decide +kernel, by decide +kernel, by decide +kernel⟩, by decide +kernel, by decide⟩
theorem mv_X8_weak : MV yX8_weak := ⟨gm (i := 1450) (by decide +kernel) rfl, gm (i := 1451) (by decide +kernel) rfl⟩
theorem mi_X8_height : MI yX8_height cX8_height 1 (some .int) 0 := ⟨gm (i := 1456) (by decide +kernel) rfl, ini_X8, ⟨by decide +kernel, by decide +kernel, by decide +kernel⟩, by decide +kernel, by decide⟩
theorem mv_X8_height : MV yX8_height := ⟨gm (i := 1454) (by decide +kernel) rfl, gm (i := 1455) (by decide +kernel) rfl⟩
theorem mi_X8_mass : MI yX8_mass cX8_mass 1 (some .int) 0 := ⟨gm (i := 1464) (by decide +kernel) rfl, ini_X8, ⟨by decide +kernel, by decide +kernel, by decide +kernel⟩, by decide +kernel, by decide⟩
theorem mv_X8_mass : MV yX8_mass := ⟨gm (i := 1462) (by decide +kernel) rfl, gm (i := 1463) (by decide +kernel) rfl⟩
theorem mi_X8_top : MI yX8_top cX8_top 1 (some .int) 0 := ⟨gm (i := 1468) (by decide +kernel) rfl, ini_X8, ⟨by decide +kernel, by decide +kernel, by decide +kernel⟩, by decide +kernel, by decide⟩
theorem mv_X8_top : MV yX8_top := ⟨gm (i := 1466) (by decide +kernel) rfl, gm (i := 1467) (by decide +kernel) rfl⟩
theorem mi_X8_gladness : MI yX8_gladness cX8_gladness 3 (some .int) 0 := ⟨gm (i := 1472) (by decide +kernel) rfl, ini_X8, ⟨by decide +kernel, by decide +kernel, by decide +kernel⟩, by decide +kernel, by decide⟩
theorem mv_X8_gladness : MV yX8_gladness := ⟨gm (i := 1470) (by decide +kernel) rfl, gm (i := 1471) (by decide +kernel) rfl⟩
theorem mi_X8_between : MI yX8_between cX8_between 2 (some .int) 1 := ⟨gm (i := 1476) (by decide +kernel) rfl, ini_X8, ⟨by decide +kernel, by decide +kernel, by decide +kernel⟩, by decide +kernel, by decide⟩
theorem mv_X8_between : MV yX8_between := ⟨gm (i := 1474) (by decide +kernel) rfl, gm (i := 1475) (by decide +kernel) rfl⟩
theorem mi_X8_leastAt : MI yX8_leastAt cX8_leastAt 3 (some .int) 0 := ⟨gm (i := 1484) (by decide +kernel) rfl, ini_X8, ⟨by decide +kernel, by decide +kernel, by decide +kernel⟩, by decide +kernel, by decide⟩
theorem mv_X8_leastAt : MV yX8_leastAt := ⟨gm (i := 1483) (by decide +kernel) rfl, gm (i := 61) (by decide +kernel) rfl⟩
theorem mi_X8_least : MI yX8_least cX8_least 3 (some .int) 1 := ⟨gm (i := 1480) (by decide +kernel) rfl, ini_X8, ⟨by decide +kernel, by decide +kernel, by decide +kernel⟩, by decide +kernel, by decide⟩
theorem mv_X8_least : MV yX8_least := ⟨gm (i := 1478) (by decide +kernel) rfl, gm (i := 1479) (by decide +kernel) rfl⟩
theorem mi_X8_room : MI yX8_room cX8_room 4 (some .int) 1 := ⟨gm (i := 1488) (by decide +kernel) rfl, ini_X8, ⟨by decide +kernel, by decide +kernel, by decide +kernel⟩, by decide +kernel, by decide⟩
theorem mv_X8_room : MV yX8_room := ⟨gm (i := 1486) (by decide +kernel) rfl, gm (i := 1487) (by decide +kernel) rfl⟩
theorem mi_X8_needs : MI yX8_needs cX8_needs 6 (some .int) 1 := ⟨gm (i := 1492) (by decide +kernel) rfl, ini_X8, ⟨by decide +kernel, by decide +kernel, by decide +kernel⟩, by decide +kernel, by decide⟩
theorem mv_X8_needs : MV yX8_needs := ⟨gm (i := 1490) (by decide +kernel) rfl, gm (i := 1491) (by decide +kernel) rfl⟩
theorem mi_X8_nerves : MI yX8_nerves cX8_nerves 6 (some .int) 1 := ⟨gm (i := 1496) (by decide +kernel) rfl, ini_X8, ⟨by decide +kernel, by decide +kernel, by decide +kernel⟩, by decide +kernel, by decide⟩
theorem mv_X8_nerves : MV yX8_nerves := ⟨gm (i := 1494) (by decide +kernel) rfl, gm (i := 1495) (by decide +kernel) rfl⟩
theorem mi_X8_isSet : MI yX8_isSet cX8_isSet 2 (some .boolean) 1 := ⟨gm (i := 1504) (by decide +kernel) rfl, ini_X8, ⟨by decide +kernel, by decide +kernel, by decide +kernel⟩, by decide +kernel, by decide⟩
theorem mv_X8_isSet : MV yX8_isSet := ⟨gm (i := 1503) (by decide +kernel) rfl, gm (i := 62) (by decide +kernel) rfl⟩
theorem mi_X8_massOfSet : MI yX8_massOfSet cX8_massOfSet 4 (some .int) 1 := ⟨gm (i := 1516) (by decide +kernel) rfl, ini_X8, ⟨by decide +kernel, by decide +kernel, by decide +kernel⟩, by decide +kernel, by decide⟩
theorem mv_X8_massOfSet : MV yX8_massOfSet := ⟨gm (i := 1515) (by decide +kernel) rfl, gm (i := 65) (by decide +kernel) rfl⟩
theorem mi_X8_tallnessOfSet : MI yX8_tallnessOfSet cX8_tallnessOfSet 4 (some .int) 1 := ⟨gm (i := 1520) (by decide +kernel) rfl, ini_X8, ⟨by decide +kernel, by decide +kernel, by decide +kernel⟩, by decide +kernel, by decide⟩
theorem mv_X8_tallnessOfSet : MV yX8_tallnessOfSet := ⟨gm (i := 1519) (by decide +kernel) rfl, gm (i := 66) (by decide +kernel) rfl⟩
theorem mi_X8_holds_ : MI yX8_holds_ cX8_holds_ 5 (some .boolean) 3 := ⟨gm (i := 1512) (by decide +kernel) rfl, ini_X8, ⟨by decide +kernel, by decide +kernel, by decide +kernel⟩, by decide +kernel, by decide⟩
theorem mv_X8_holds_ : MV yX8_holds_ := ⟨gm (i := 1511) (by decide +kernel) rfl, gm (i := 64) (by decide +kernel) rfl⟩
theorem mi_X8_findOrders : MI yX8_findOrders cX8_findOrders 5 (some .int) 1 := ⟨gm (i := 1508) (by decide +kernel) rfl, ini_X8, ⟨by decide +kernel, by decide +kernel, by decide +kernel⟩, by decide +kernel, by decide⟩
theorem mv_X8_findOrders : MV yX8_findOrders := ⟨gm (i := 1507) (by decide +kernel) rfl, gm (i := 63) (by decide +kernel) rfl⟩
theorem mi_X8_mayCome : MI yX8_mayCome cX8_mayCome 4 (some .boolean) 3 := ⟨gm (i := 1527) (by decide +kernel) rfl, ini_X8, ⟨by decide +kernel, by decide +kernel, by decide +kernel⟩, by decide +kernel, by decide⟩
theorem mv_X8_mayCome : MV yX8_mayCome := ⟨gm (i := 1526) (by decide +kernel) rfl, gm (i := 67) (by decide +kernel) rfl⟩
theorem mi_X8_orders : MI yX8_orders cX8_orders 7 (some .int) 2 := ⟨gm (i := 1500) (by decide +kernel) rfl, ini_X8, ⟨by decide +kernel, by decide +kernel, by decide +kernel⟩, by decide +kernel, by decide⟩
theorem mv_X8_orders : MV yX8_orders := ⟨gm (i := 1498) (by decide +kernel) rfl, gm (i := 1499) (by decide +kernel) rfl⟩
theorem mi_X8_ends : MI yX8_ends cX8_ends 5 (some .int) 2 := ⟨gm (i := 1531) (by decide +kernel) rfl, ini_X8, ⟨by decide +kernel, by decide +kernel, by decide +kernel⟩, by decide +kernel, by decide⟩
theorem mv_X8_ends : MV yX8_ends := ⟨gm (i := 1529) (by decide +kernel) rfl, gm (i := 1530) (by decide +kernel) rfl⟩
theorem mi_X8_topsOf : MI yX8_topsOf cX8_topsOf 6 (some .int) 1 := ⟨gm (i := 1535) (by decide +kernel) rfl, ini_X8, ⟨by decide +kernel, by decide +kernel, by decide +kernel⟩, by decide +kernel, by decide⟩
theorem mv_X8_topsOf : MV yX8_topsOf := ⟨gm (i := 1534) (by decide +kernel) rfl, gm (i := 68) (by decide +kernel) rfl⟩
theorem mi_X8_highest : MI yX8_highest cX8_highest 4 (some .int) 1 := ⟨gm (i := 1539) (by decide +kernel) rfl, ini_X8, ⟨by decide +kernel, by decide +kernel, by decide +kernel⟩, by decide +kernel, by decide⟩
theorem mv_X8_highest : MV yX8_highest := ⟨gm (i := 1537) (by decide +kernel) rfl, gm (i := 1538) (by decide +kernel) rfl⟩
theorem mi_X8_gladFrom : MI yX8_gladFrom cX8_gladFrom 8 (some .int) 3 := ⟨gm (i := 1547) (by decide +kernel) rfl, ini_X8, ⟨by decide +kernel, by decide +kernel, by decide +kernel⟩, by decide +kernel, by decide⟩
theorem mv_X8_gladFrom : MV yX8_gladFrom := ⟨gm (i := 1546) (by decide +kernel) rfl, gm (i := 69) (by decide +kernel) rfl⟩
theorem mi_X8_glad : MI yX8_glad cX8_glad 4 (some .int) 1 := ⟨gm (i := 1543) (by decide +kernel) rfl, ini_X8, ⟨by decide +kernel, by decide +kernel, by decide +kernel⟩, by decide +kernel, by decide⟩
theorem mv_X8_glad : MV yX8_glad := ⟨gm (i := 1541) (by decide +kernel) rfl, gm (i := 1542) (by decide +kernel) rfl⟩
theorem mi_X8_isTold : MI yX8_isTold cX8_isTold 5 (some .boolean) 4 := ⟨gm (i := 1559) (by decide +kernel) rfl, ini_X8, ⟨by decide +kernel, by decide +kernel, by decide +kernel⟩, by decide +kernel, by decide⟩
theorem mv_X8_isTold : MV yX8_isTold := ⟨gm (i := 1558) (by decide +kernel) rfl, gm (i := 71) (by decide +kernel) rfl⟩
theorem mi_X8_findBacks : MI yX8_findBacks cX8_findBacks 5 (some .int) 2 := ⟨gm (i := 1555) (by decide +kernel) rfl, ini_X8, ⟨by decide +kernel, by decide +kernel, by decide +kernel⟩, by decide +kernel, by decide⟩
theorem mv_X8_findBacks : MV yX8_findBacks := ⟨gm (i := 1554) (by decide +kernel) rfl, gm (i := 70) (by decide +kernel) rfl⟩
theorem mi_X8_backTops : MI yX8_backTops cX8_backTops 7 (some .int) 2 := ⟨gm (i := 1563) (by decide +kernel) rfl, ini_X8, ⟨by decide +kernel, by decide +kernel, by decide +kernel⟩, by decide +kernel, by decide⟩
theorem mv_X8_backTops : MV yX8_backTops := ⟨gm (i := 1562) (by decide +kernel) rfl, gm (i := 72) (by decide +kernel) rfl⟩
theorem mi_X8_backs : MI yX8_backs cX8_backs 8 (some .int) 3 := ⟨gm (i := 1551) (by decide +kernel) rfl, ini_X8, ⟨by decide +kernel, by decide +kernel, by decide +kernel⟩, by decide +kernel, by decide⟩
theorem mv_X8_backs : MV yX8_backs := ⟨gm (i := 1549) (by decide +kernel) rfl, gm (i := 1550) (by decide +kernel) rfl⟩
theorem mi_X8_takes : MI yX8_takes cX8_takes 4 (some .int) 1 := ⟨gm (i := 1575) (by decide +kernel) rfl, ini_X8, ⟨by decide +kernel, by decide +kernel, by decide +kernel⟩, by decide +kernel, by decide⟩
theorem mv_X8_takes : MV yX8_takes := ⟨gm (i := 1574) (by decide +kernel) rfl, gm (i := 74) (by decide +kernel) rfl⟩
theorem mi_X8_puts : MI yX8_puts cX8_puts 4 none 2 := ⟨gm (i := 1571) (by decide +kernel) rfl, ini_X8, ⟨by decide +kernel, by decide +kernel, by decide +kernel⟩, by decide +kernel, by decide⟩
theorem mv_X8_puts : MV yX8_puts := ⟨gm (i := 1570) (by decide +kernel) rfl, gm (i := 73) (by decide +kernel) rfl⟩
theorem mi_X8_under : MI yX8_under cX8_under 5 (some .int) 0 := ⟨gm (i := 1567) (by decide +kernel) rfl, ini_X8, ⟨by decide +kernel, by decide +kernel, by decide +kernel⟩, by decide +kernel, by decide⟩
theorem mv_X8_under : MV yX8_under := ⟨gm (i := 1565) (by decide +kernel) rfl, gm (i := 1566) (by decide +kernel) rfl⟩
theorem mi_X8_changes : MI yX8_changes cX8_changes 4 none 2 := ⟨gm (i := 1583) (by decide +kernel) rfl, ini_X8, ⟨by decide +kernel, by decide +kernel, by decide +kernel⟩, by decide +kernel, by decide⟩
theorem mv_X8_changes : MV yX8_changes := ⟨gm (i := 1582) (by decide +kernel) rfl, gm (i := 75) (by decide +kernel) rfl⟩
theorem mi_X8_change : MI yX8_change cX8_change 8 (some .int) 0 := ⟨gm (i := 1579) (by decide +kernel) rfl, ini_X8, ⟨by decide +kernel, by decide +kernel, by decide +kernel⟩, by decide +kernel, by decide⟩
theorem mv_X8_change : MV yX8_change := ⟨gm (i := 1577) (by decide +kernel) rfl, gm (i := 1578) (by decide +kernel) rfl⟩
theorem mi_X8_out : MI yX8_out cX8_out 4 (some .int) 0 := ⟨gm (i := 1587) (by decide +kernel) rfl, ini_X8, ⟨by decide +kernel, by decide +kernel, by decide +kernel⟩, by decide +kernel, by decide⟩
theorem mv_X8_out : MV yX8_out := ⟨gm (i := 1585) (by decide +kernel) rfl, gm (i := 1586) (by decide +kernel) rfl⟩
theorem mi_X8_galeNow : MI yX8_galeNow cX8_galeNow 3 (some .int) 0 := ⟨gm (i := 1595) (by decide +kernel) rfl, ini_X8, ⟨by decide +kernel, by decide +kernel, by decide +kernel⟩, by decide +kernel, by decide⟩
theorem mv_X8_galeNow : MV yX8_galeNow := ⟨gm (i := 1594) (by decide +kernel) rfl, gm (i := 76) (by decide +kernel) rfl⟩
theorem mi_X8_gale : MI yX8_gale cX8_gale 1 (some .int) 0 := ⟨gm (i := 1591) (by decide +kernel) rfl, ini_X8, ⟨by decide +kernel, by decide +kernel, by decide +kernel⟩, by decide +kernel, by decide⟩
theorem mv_X8_gale : MV yX8_gale := ⟨gm (i := 1589) (by decide +kernel) rfl, gm (i := 1590) (by decide +kernel) rfl⟩
theorem mi_X8_chance : MI yX8_chance cX8_chance 3 (some .int) 0 := ⟨gm (i := 1599) (by decide +kernel) rfl, ini_X8, ⟨by decide +kernel, by decide +kernel, by decide +kernel⟩, by decide +kernel, by decide⟩
theorem mv_X8_chance : MV yX8_chance := ⟨gm (i := 1597) (by decide +kernel) rfl, gm (i := 1598) (by decide +kernel) rfl⟩
theorem mi_X8_galeWith : MI yX8_galeWith cX8_galeWith 3 (some .int) 1 := ⟨gm (i := 1608) (by decide +kernel) rfl, ini_X8, ⟨by decide +kernel, by decide +kernel, by decide +kernel⟩, by decide +kernel, by decide⟩
theorem mv_X8_galeWith : MV yX8_galeWith := ⟨gm (i := 1607) (by decide +kernel) rfl, gm (i := 77) (by decide +kernel) rfl⟩
theorem mi_X8_fittest : MI yX8_fittest cX8_fittest 5 (some .int) 0 := ⟨gm (i := 1604) (by decide +kernel) rfl, ini_X8, ⟨by decide +kernel, by decide +kernel, by decide +kernel⟩, by decide +kernel, by decide⟩
theorem mv_X8_fittest : MV yX8_fittest := ⟨gm (i := 1602) (by decide +kernel) rfl, gm (i := 1603) (by decide +kernel) rfl⟩
theorem mi_X8_lighter : MI yX8_lighter cX8_lighter 6 (some .int) 0 := ⟨gm (i := 1612) (by decide +kernel) rfl, ini_X8, ⟨by decide +kernel, by decide +kernel, by decide +kernel⟩, by decide +kernel, by decide⟩
theorem mv_X8_lighter : MV yX8_lighter := ⟨gm (i := 1610) (by decide +kernel) rfl, gm (i := 1611) (by decide +kernel) rfl⟩
theorem mi_X8_shifted : MI yX8_shifted cX8_shifted 5 (some .int) 2 := ⟨gm (i := 1616) (by decide +kernel) rfl, ini_X8, ⟨by decide +kernel, by decide +kernel, by decide +kernel⟩, by decide +kernel, by decide⟩
theorem mv_X8_shifted : MV yX8_shifted := ⟨gm (i := 1614) (by decide +kernel) rfl, gm (i := 1615) (by decide +kernel) rfl⟩
theorem mi_X8_foot : MI yX8_foot cX8_foot 4 (some .int) 1 := ⟨gm (i := 1620) (by decide +kernel) rfl, ini_X8, ⟨by decide +kernel, by decide +kernel, by decide +kernel⟩, by decide +kernel, by decide⟩
theorem mv_X8_foot : MV yX8_foot := ⟨gm (i := 1618) (by decide +kernel) rfl, gm (i := 1619) (by decide +kernel) rfl⟩
theorem mi_X8_who : MI yX8_who cX8_who 6 (some .int) 1 := ⟨gm (i := 1624) (by decide +kernel) rfl, ini_X8, ⟨by decide +kernel, by decide +kernel, by decide +kernel⟩, by decide +kernel, by decide⟩
theorem mv_X8_who : MV yX8_who := ⟨gm (i := 1622) (by decide +kernel) rfl, gm (i := 1623) (by decide +kernel) rfl⟩
theorem mi_X8_standsWith : MI yX8_standsWith cX8_standsWith 3 (some .boolean) 1 := ⟨gm (i := 1629) (by decide +kernel) rfl, ini_X8, ⟨by decide +kernel, by decide +kernel, by decide +kernel⟩, by decide +kernel, by decide⟩
theorem mv_X8_standsWith : MV yX8_standsWith := ⟨gm (i := 1628) (by decide +kernel) rfl, gm (i := 78) (by decide +kernel) rfl⟩
theorem mi_X8_footComesOut : MI yX8_footComesOut cX8_footComesOut 1 (some .boolean) 0 := ⟨gm (i := 1646) (by decide +kernel) rfl, ini_X8, ⟨by decide +kernel, by decide +kernel, by decide +kernel⟩, by decide +kernel, by decide⟩
theorem mv_X8_footComesOut : MV yX8_footComesOut := ⟨gm (i := 1645) (by decide +kernel) rfl, gm (i := 81) (by decide +kernel) rfl⟩
theorem mi_X8_nextNow : MI yX8_nextNow cX8_nextNow 4 (some .int) 0 := ⟨gm (i := 1642) (by decide +kernel) rfl, ini_X8, ⟨by decide +kernel, by decide +kernel, by decide +kernel⟩, by decide +kernel, by decide⟩
theorem mv_X8_nextNow : MV yX8_nextNow := ⟨gm (i := 1641) (by decide +kernel) rfl, gm (i := 80) (by decide +kernel) rfl⟩
theorem mi_X8_turns : MI yX8_turns cX8_turns 2 (some .boolean) 0 := ⟨gm (i := 1638) (by decide +kernel) rfl, ini_X8, ⟨by decide +kernel, by decide +kernel, by decide +kernel⟩, by decide +kernel, by decide⟩
theorem mv_X8_turns : MV yX8_turns := ⟨gm (i := 1637) (by decide +kernel) rfl, gm (i := 79) (by decide +kernel) rfl⟩
theorem mi_X8_falls : MI yX8_falls cX8_falls 2 (some .boolean) 0 := ⟨gm (i := 1650) (by decide +kernel) rfl, ini_X8, ⟨by decide +kernel, by decide +kernel, by decide +kernel⟩, by decide +kernel, by decide⟩
theorem mv_X8_falls : MV yX8_falls := ⟨gm (i := 1649) (by decide +kernel) rfl, gm (i := 82) (by decide +kernel) rfl⟩
theorem mi_X8_ahead : MI yX8_ahead cX8_ahead 8 (some .int) 2 := ⟨gm (i := 1633) (by decide +kernel) rfl, ini_X8, ⟨by decide +kernel, by decide +kernel, by decide +kernel⟩, by decide +kernel, by decide⟩
theorem mv_X8_ahead : MV yX8_ahead := ⟨gm (i := 1631) (by decide +kernel) rfl, gm (i := 1632) (by decide +kernel) rfl⟩
theorem mi_X8_next : MI yX8_next cX8_next 1 (some .int) 0 := ⟨gm (i := 1655) (by decide +kernel) rfl, ini_X8, ⟨by decide +kernel, by decide +kernel, by decide +kernel⟩, by decide +kernel, by decide⟩
theorem mv_X8_next : MV yX8_next := ⟨gm (i := 1653) (by decide +kernel) rfl, gm (i := 1654) (by decide +kernel) rfl⟩
theorem mi_X8_noClimb : MI yX8_noClimb cX8_noClimb 4 (some .int) 2 := ⟨gm (i := 1663) (by decide +kernel) rfl, ini_X8, ⟨by decide +kernel, by decide +kernel, by decide +kernel⟩, by decide +kernel, by decide⟩
theorem mv_X8_noClimb : MV yX8_noClimb := ⟨gm (i := 1662) (by decide +kernel) rfl, gm (i := 83) (by decide +kernel) rfl⟩
theorem mi_X8_climbs : MI yX8_climbs cX8_climbs 7 none 2 := ⟨gm (i := 1667) (by decide +kernel) rfl, ini_X8, ⟨by decide +kernel, by decide +kernel, by decide +kernel⟩, by decide +kernel, by decide⟩
theorem mv_X8_climbs : MV yX8_climbs := ⟨gm (i := 1666) (by decide +kernel) rfl, gm (i := 84) (by decide +kernel) rfl⟩
theorem mi_X8_judge : MI yX8_judge cX8_judge 4 (some .int) 2 := ⟨gm (i := 1659) (by decide +kernel) rfl, ini_X8, ⟨by decide +kernel, by decide +kernel, by decide +kernel⟩, by decide +kernel, by decide⟩
theorem mv_X8_judge : MV yX8_judge := ⟨gm (i := 1657) (by decide +kernel) rfl, gm (i := 1658) (by decide +kernel) rfl⟩
theorem mi_X8_breaks : MI yX8_breaks cX8_breaks 4 (some .int) 2 := ⟨gm (i := 1671) (by decide +kernel) rfl, ini_X8, ⟨by decide +kernel, by decide +kernel, by decide +kernel⟩, by decide +kernel, by decide⟩
theorem mv_X8_breaks : MV yX8_breaks := ⟨gm (i := 1669) (by decide +kernel) rfl, gm (i := 1670) (by decide +kernel) rfl⟩
theorem mi_X8_climb : MI yX8_climb cX8_climb 2 (some .int) 1 := ⟨gm (i := 1675) (by decide +kernel) rfl, ini_X8, ⟨by decide +kernel, by decide +kernel, by decide +kernel⟩, by decide +kernel, by decide⟩
theorem mv_X8_climb : MV yX8_climb := ⟨gm (i := 1673) (by decide +kernel) rfl, gm (i := 1674) (by decide +kernel) rfl⟩
theorem mi_X8_comesOut : MI yX8_comesOut cX8_comesOut 2 (some .int) 0 := ⟨gm (i := 1679) (by decide +kernel) rfl, ini_X8, ⟨by decide +kernel, by decide +kernel, by decide +kernel⟩, by decide +kernel, by decide⟩
theorem mv_X8_comesOut : MV yX8_comesOut := ⟨gm (i := 1677) (by decide +kernel) rfl, gm (i := 1678) (by decide +kernel) rfl⟩
theorem mi_X8_noDays : MI yX8_noDays cX8_noDays 2 (some .int) 1 := ⟨gm (i := 1687) (by decide +kernel) rfl, ini_X8, ⟨by decide +kernel, by decide +kernel, by decide +kernel⟩, by decide +kernel, by decide⟩
theorem mv_X8_noDays : MV yX8_noDays := ⟨gm (i := 1686) (by decide +kernel) rfl, gm (i := 85) (by decide +kernel) rfl⟩
theorem mi_X8_days : MI yX8_days cX8_days 4 (some .int) 1 := ⟨gm (i := 1683) (by decide +kernel) rfl, ini_X8, ⟨by decide +kernel, by decide +kernel, by decide +kernel⟩, by decide +kernel, by decide⟩
theorem mv_X8_days : MV yX8_days := ⟨gm (i := 1681) (by decide +kernel) rfl, gm (i := 1682) (by decide +kernel) rfl⟩
theorem mi_X8_below : MI yX8_below cX8_below 2 (some .int) 1 := ⟨gm (i := 1695) (by decide +kernel) rfl, ini_X8, ⟨by decide +kernel, by decide +kernel, by decide +kernel⟩, by decide +kernel, by decide⟩
theorem mv_X8_below : MV yX8_below := ⟨gm (i := 1694) (by decide +kernel) rfl, gm (i := 86) (by decide +kernel) rfl⟩
theorem mi_X8_drawn : MI yX8_drawn cX8_drawn 5 (some .int) 1 := ⟨gm (i := 1691) (by decide +kernel) rfl, ini_X8, ⟨by decide +kernel, by decide +kernel, by decide +kernel⟩, by decide +kernel, by decide⟩
theorem mv_X8_drawn : MV yX8_drawn := ⟨gm (i := 1689) (by decide +kernel) rfl, gm (i := 1690) (by decide +kernel) rfl⟩
theorem mi_X8_seed : MI yX8_seed cX8_seed 3 (some .int) 1 := ⟨gm (i := 1700) (by decide +kernel) rfl, ini_X8, ⟨by decide +kernel, by decide +kernel, by decide +kernel⟩, by decide +kernel, by decide⟩
theorem mv_X8_seed : MV yX8_seed := ⟨gm (i := 1698) (by decide +kernel) rfl, gm (i := 1699) (by decide +kernel) rfl⟩
theorem mi_X8_copied : MI yX8_copied cX8_copied 3 none 2 := ⟨gm (i := 1334) (by decide +kernel) rfl, ini_X8, ⟨by decide +kernel, by decide +kernel, by decide +kernel⟩, by decide +kernel, by decide⟩
theorem ms_X8_copied : MSt yX8_copied := gm (i := 1333) (by decide +kernel) rfl
theorem mi_X8_takeFrom : MI yX8_takeFrom cX8_takeFrom 2 none 1 := ⟨gm (i := 1331) (by decide +kernel) rfl, ini_X8, ⟨by decide +kernel, by decide +kernel, by decide +kernel⟩, by decide +kernel, by decide⟩
theorem mv_X8_takeFrom : MV yX8_takeFrom := ⟨gm (i := 1330) (by decide +kernel) rfl, gm (i := 40) (by decide +kernel) rfl⟩
theorem mi_X8_image : MI yX8_image cX8_image 1 (some .int) 0 := ⟨gm (i := 1704) (by decide +kernel) rfl, ini_X8, ⟨by decide +kernel, by decide +kernel, by decide +kernel⟩, by decide +kernel, by decide⟩
theorem mv_X8_image : MV yX8_image := ⟨gm (i := 1702) (by decide +kernel) rfl, gm (i := 1703) (by decide +kernel) rfl⟩
theorem mi_X8_back : MI yX8_back cX8_back 2 (some .int) 0 := ⟨gm (i := 1708) (by decide +kernel) rfl, ini_X8, ⟨by decide +kernel, by decide +kernel, by decide +kernel⟩, by decide +kernel, by decide⟩
theorem mv_X8_back : MV yX8_back := ⟨gm (i := 1706) (by decide +kernel) rfl, gm (i := 1707) (by decide +kernel) rfl⟩
theorem mi_X8_status : MI yX8_status cX8_status 4 (some .int) 1 := ⟨gm (i := 1712) (by decide +kernel) rfl, ini_X8, ⟨by decide +kernel, by decide +kernel, by decide +kernel⟩, by decide +kernel, by decide⟩
theorem mv_X8_status : MV yX8_status := ⟨gm (i := 1710) (by decide +kernel) rfl, gm (i := 1711) (by decide +kernel) rfl⟩
theorem mi_J6_bitCount_0f7a4 : MI yJ6_bitCount_0f7a4 cJ6_bitCount_0f7a4 1 (some .int) 1 := ⟨gm (i := 758) (by decide +kernel) rfl, ini_J6, ⟨by decide +kernel, by decide +kernel, by decide +kernel⟩, by decide +kernel, by decide⟩
theorem ms_J6_bitCount_0f7a4 : MSt yJ6_bitCount_0f7a4 := gm (i := 757) (by decide +kernel) rfl
theorem mi_J0_length_8abf5 : MI yJ0_length_8abf5 cJ0_length_8abf5 1 (some .int) 0 := ⟨gm (i := 553) (by decide +kernel) rfl, ini_J0, ⟨by decide +kernel, by decide +kernel, by decide +kernel⟩, by decide +kernel, by decide⟩
theorem mv_J0_length_8abf5 : MV yJ0_length_8abf5 := ⟨gm (i := 551) (by decide +kernel) rfl, gm (i := 552) (by decide +kernel) rfl⟩
theorem mi_J0_charAt_5068e : MI yJ0_charAt_5068e cJ0_charAt_5068e 2 (some .char) 1 := ⟨gm (i := 563) (by decide +kernel) rfl, ini_J0, ⟨by decide +kernel, by decide +kernel, by decide +kernel⟩, by decide +kernel, by decide⟩
theorem mv_J0_charAt_5068e : MV yJ0_charAt_5068e := ⟨gm (i := 561) (by decide +kernel) rfl, gm (i := 562) (by decide +kernel) rfl⟩
theorem mi_J0_coder_7d493 : MI yJ0_coder_7d493 cJ0_coder_7d493 1 (some .byte) 0 := ⟨gm (i := 557) (by decide +kernel) rfl, ini_J0, ⟨by decide +kernel, by decide +kernel, by decide +kernel⟩, by decide +kernel, by decide⟩
theorem mv_J0_coder_7d493 : MV yJ0_coder_7d493 := ⟨gm (i := 555) (by decide +kernel) rfl, gm (i := 556) (by decide +kernel) rfl⟩
theorem mi_J0_isLatin1_aae02 : MI yJ0_isLatin1_aae02 cJ0_isLatin1_aae02 1 (some .boolean) 0 := ⟨gm (i := 567) (by decide +kernel) rfl, ini_J0, ⟨by decide +kernel, by decide +kernel, by decide +kernel⟩, by decide +kernel, by decide⟩
theorem mv_J0_isLatin1_aae02 : MV yJ0_isLatin1_aae02 := ⟨gm (i := 565) (by decide +kernel) rfl, gm (i := 566) (by decide +kernel) rfl⟩
theorem mi_J0_checkIndex_df160 : MI yJ0_checkIndex_df160 cJ0_checkIndex_df160 2 none 2 := ⟨gm (i := 573) (by decide +kernel) rfl, ini_J0, ⟨by decide +kernel, by decide +kernel, by decide +kernel⟩, by decide +kernel, by decide⟩
theorem ms_J0_checkIndex_df160 : MSt yJ0_checkIndex_df160 := gm (i := 572) (by decide +kernel) rfl
theorem mi_J1_charAt_3b067 : MI yJ1_charAt_3b067 cJ1_charAt_3b067 2 (some .char) 2 := ⟨gm (i := 570) (by decide +kernel) rfl, ini_J1, ⟨by decide +kernel, by decide +kernel, by decide +kernel⟩, by decide +kernel, by decide⟩
theorem ms_J1_charAt_3b067 : MSt yJ1_charAt_3b067 := gm (i := 569) (by decide +kernel) rfl
theorem mi_J2_getChar_3b067 : MI yJ2_getChar_3b067 cJ2_getChar_3b067 2 (some .char) 2 := ⟨gm (i := 591) (by decide +kernel) rfl, ini_J2, ⟨by decide +kernel, by decide +kernel, by decide +kernel⟩, by decide +kernel, by decide⟩
theorem ms_J2_getChar_3b067 : MSt yJ2_getChar_3b067 := gm (i := 590) (by decide +kernel) rfl
theorem mi_J2_length_9d52b : MI yJ2_length_9d52b cJ2_length_9d52b 1 (some .int) 1 := ⟨gm (i := 587) (by decide +kernel) rfl, ini_J2, ⟨by decide +kernel, by decide +kernel, by decide +kernel⟩, by decide +kernel, by decide⟩
theorem ms_J2_length_9d52b : MSt yJ2_length_9d52b := gm (i := 586) (by decide +kernel) rfl
theorem mi_J2_charAt_3b067 : MI yJ2_charAt_3b067 cJ2_charAt_3b067 2 (some .char) 2 := ⟨gm (i := 581) (by decide +kernel) rfl, ini_J2, ⟨by decide +kernel, by decide +kernel, by decide +kernel⟩, by decide +kernel, by decide⟩
theorem ms_J2_charAt_3b067 : MSt yJ2_charAt_3b067 := gm (i := 580) (by decide +kernel) rfl
theorem mi_J2_checkIndex_2214a : MI yJ2_checkIndex_2214a cJ2_checkIndex_2214a 2 none 2 := ⟨gm (i := 584) (by decide +kernel) rfl, ini_J2, ⟨by decide +kernel, by decide +kernel, by decide +kernel⟩, by decide +kernel, by decide⟩
theorem ms_J2_checkIndex_2214a : MSt yJ2_checkIndex_2214a := gm (i := 583) (by decide +kernel) rfl
theorem mi_J3_checkIndex_8e157 : MI yJ3_checkIndex_8e157 cJ3_checkIndex_8e157 3 (some .int) 3 := ⟨gm (i := 578) (by decide +kernel) rfl, ini_J3, ⟨by decide +kernel, by decide +kernel, by decide +kernel⟩, by decide +kernel, by decide⟩
theorem ms_J3_checkIndex_8e157 : MSt yJ3_checkIndex_8e157 := gm (i := 577) (by decide +kernel) rfl
theorem ml_L_9 : ML RL 9 yX7_init := gm (i := 106) (by decide +kernel) rfl
theorem ml_X7_3 : ML RX7 3 objectInit := gm (i := 109) (by decide +kernel) rfl
theorem ml_X6_3 : ML RX6 3 objectInit := gm (i := 117) (by decide +kernel) rfl
theorem ml_X0_3 : ML RX0 3 objectInit := gm (i := 123) (by decide +kernel) rfl
theorem ml_X6_20 : ML RX6 20 yX2_init := gm (i := 137) (by decide +kernel) rfl
theorem ml_X2_3 : ML RX2 3 objectInit := gm (i := 140) (by decide +kernel) rfl
theorem ml_X7_28 : ML RX7 28 yX2_init := gm (i := 187) (by decide +kernel) rfl
theorem ml_X7_37 : ML RX7 37 yX1_init := gm (i := 190) (by decide +kernel) rfl
theorem ml_X1_3 : ML RX1 3 objectInit := gm (i := 193) (by decide +kernel) rfl
theorem ml_X5_3 : ML RX5 3 objectInit := gm (i := 224) (by decide +kernel) rfl
theorem ml_X7_51 : ML RX7 51 yX3_init := gm (i := 236) (by decide +kernel) rfl
theorem ml_X3_3 : ML RX3 3 objectInit := gm (i := 239) (by decide +kernel) rfl
theorem ml_L_13 : ML RL 13 yX7_row := gm (i := 292) (by decide +kernel) rfl
theorem ml_X7_71 : ML RX7 71 yX7_isShelf := gm (i := 296) (by decide +kernel) rfl
theorem ml_X7_75 : ML RX7 75 yX7_refuse := gm (i := 299) (by decide +kernel) rfl
theorem ml_X7_126 : ML RX7 126 yX7_pick := gm (i := 303) (by decide +kernel) rfl
theorem ml_X7_388 : ML RX7 388 yX7_put := gm (i := 306) (by decide +kernel) rfl
theorem ml_X7_79 : ML RX7 79 yX4_init := gm (i := 310) (by decide +kernel) rfl
theorem ml_X4_3 : ML RX4 3 objectInit := gm (i := 313) (by decide +kernel) rfl
theorem ml_X4_15 : ML RX4 15 yJ9_max_7cf53 := gm (i := 314) (by decide +kernel) rfl
theorem ml_X4_21 : ML RX4 21 yJ9_min_7cf53 := gm (i := 317) (by decide +kernel) rfl
theorem ml_X7_82 : ML RX7 82 yX7_place := gm (i := 330) (by decide +kernel) rfl
theorem ml_L_20 : ML RL 20 yX7_set := gm (i := 334) (by decide +kernel) rfl
theorem ml_X7_86 : ML RX7 86 yX7_rowOn := gm (i := 338) (by decide +kernel) rfl
theorem ml_X7_90 : ML RX7 90 yX7_faultOfRow := gm (i := 342) (by decide +kernel) rfl
theorem ml_X7_101 : ML RX7 101 yX7_isShown := gm (i := 346) (by decide +kernel) rfl
theorem ml_X7_94 : ML RX7 94 yX4_has := gm (i := 350) (by decide +kernel) rfl
theorem ml_X7_97 : ML RX7 97 yX4_keep := gm (i := 354) (by decide +kernel) rfl
theorem ml_X4_28 : ML RX4 28 yX4_cut := gm (i := 358) (by decide +kernel) rfl
theorem ml_L_25 : ML RL 25 yX7_copy := gm (i := 362) (by decide +kernel) rfl
theorem ml_X7_108 : ML RX7 108 yX4_hasSpan := gm (i := 366) (by decide +kernel) rfl
theorem ml_L_30 : ML RL 30 yX7_element := gm (i := 373) (by decide +kernel) rfl
theorem ml_X7_122 : ML RX7 122 yX4_cell := gm (i := 377) (by decide +kernel) rfl
theorem ml_L_35 : ML RL 35 yX7_holds := gm (i := 381) (by decide +kernel) rfl
theorem ml_L_40 : ML RL 40 yX7_show := gm (i := 385) (by decide +kernel) rfl
theorem ml_X7_130 : ML RX7 130 yX0_has := gm (i := 389) (by decide +kernel) rfl
theorem ml_L_45 : ML RL 45 yX7_says := gm (i := 393) (by decide +kernel) rfl
theorem ml_X7_133 : ML RX7 133 yX7_isKind := gm (i := 397) (by decide +kernel) rfl
theorem ml_X7_136 : ML RX7 136 yX0_fact := gm (i := 400) (by decide +kernel) rfl
theorem ml_X7_139 : ML RX7 139 yX7_isUnder := gm (i := 404) (by decide +kernel) rfl
theorem ml_X7_142 : ML RX7 142 yX0_sayingAs := gm (i := 409) (by decide +kernel) rfl
theorem ml_X0_55 : ML RX0 55 yX0_fact := gm (i := 413) (by decide +kernel) rfl
theorem ml_L_49 : ML RL 49 yX7_person := gm (i := 414) (by decide +kernel) rfl
theorem ml_X7_145 : ML RX7 145 yX7_mayBe := gm (i := 418) (by decide +kernel) rfl
theorem ml_X7_148 : ML RX7 148 yX0_isFull := gm (i := 425) (by decide +kernel) rfl
theorem ml_X7_152 : ML RX7 152 yX0_join := gm (i := 429) (by decide +kernel) rfl
theorem ml_X0_31 : ML RX0 31 yX0_isFull := gm (i := 433) (by decide +kernel) rfl
theorem ml_X0_27 : ML RX0 27 yX0_measure := gm (i := 435) (by decide +kernel) rfl
theorem ml_X0_39 : ML RX0 39 yX0_massBy := gm (i := 440) (by decide +kernel) rfl
theorem ml_X0_43 : ML RX0 43 yX0_bearsBy := gm (i := 443) (by decide +kernel) rfl
theorem ml_X0_50 : ML RX0 50 yJ9_max_7cf53 := gm (i := 446) (by decide +kernel) rfl
theorem ml_X0_46 : ML RX0 46 yX0_tallnessBy := gm (i := 447) (by decide +kernel) rfl
theorem ml_L_53 : ML RL 53 yX7_give := gm (i := 450) (by decide +kernel) rfl
theorem ml_X7_156 : ML RX7 156 yX0_changeTrait := gm (i := 454) (by decide +kernel) rfl
theorem ml_X0_19 : ML RX0 19 yX0_has := gm (i := 458) (by decide +kernel) rfl
theorem ml_L_57 : ML RL 57 yX7_tell := gm (i := 459) (by decide +kernel) rfl
theorem ml_X7_160 : ML RX7 160 yX6_mayTell := gm (i := 463) (by decide +kernel) rfl
theorem ml_X7_163 : ML RX7 163 yX6_setting := gm (i := 472) (by decide +kernel) rfl
theorem ml_X7_166 : ML RX7 166 yX6_changeSetting := gm (i := 476) (by decide +kernel) rfl
theorem ml_L_61 : ML RL 61 yX7_feed := gm (i := 480) (by decide +kernel) rfl
theorem ml_X7_169 : ML RX7 169 yX5_isFull := gm (i := 484) (by decide +kernel) rfl
theorem ml_X7_170 : ML RX7 170 yX5_append := gm (i := 488) (by decide +kernel) rfl
theorem ml_X5_19 : ML RX5 19 yX5_isFull := gm (i := 492) (by decide +kernel) rfl
theorem ml_L_65 : ML RL 65 yX7_wipe := gm (i := 494) (by decide +kernel) rfl
theorem ml_X7_177 : ML RX7 177 yX5_clear := gm (i := 498) (by decide +kernel) rfl
theorem ml_L_70 : ML RL 70 yX7_tower := gm (i := 502) (by decide +kernel) rfl
theorem ml_X7_180 : ML RX7 180 yX6_takeFrom := gm (i := 506) (by decide +kernel) rfl
theorem ml_X6_37 : ML RX6 37 yX0_takeFrom := gm (i := 510) (by decide +kernel) rfl
theorem ml_X6_40 : ML RX6 40 yX2_takeFrom := gm (i := 517) (by decide +kernel) rfl
theorem ml_X7_184 : ML RX7 184 yX3_read := gm (i := 522) (by decide +kernel) rfl
theorem ml_X3_23 : ML RX3 23 yX3_step := gm (i := 526) (by decide +kernel) rfl
theorem ml_X3_129 : ML RX3 129 yX5_letter := gm (i := 530) (by decide +kernel) rfl
theorem ml_X3_133 : ML RX3 133 yX3_isLetter := gm (i := 535) (by decide +kernel) rfl
theorem ml_X3_136 : ML RX3 136 yX3_isDigit := gm (i := 538) (by decide +kernel) rfl
theorem ml_X3_26 : ML RX3 26 yX3_didStatement := gm (i := 541) (by decide +kernel) rfl
theorem ml_X3_38 : ML RX3 38 yX3_isWord := gm (i := 546) (by decide +kernel) rfl
theorem ml_X3_139 : ML RX3 139 yJ0_length_8abf5 := gm (i := 550) (by decide +kernel) rfl
theorem ml_J0_335 : ML RJ0 335 yJ0_coder_7d493 := gm (i := 554) (by decide +kernel) rfl
theorem ml_X3_144 : ML RX3 144 yJ0_charAt_5068e := gm (i := 560) (by decide +kernel) rfl
theorem ml_J0_492 : ML RJ0 492 yJ0_isLatin1_aae02 := gm (i := 564) (by decide +kernel) rfl
theorem ml_J0_495 : ML RJ0 495 yJ1_charAt_3b067 := gm (i := 568) (by decide +kernel) rfl
theorem ml_J1_9 : ML RJ1 9 yJ0_checkIndex_df160 := gm (i := 571) (by decide +kernel) rfl
theorem ml_J0_1059 : ML RJ0 1059 yJ3_checkIndex_8e157 := gm (i := 576) (by decide +kernel) rfl
theorem ml_J0_498 : ML RJ0 498 yJ2_charAt_3b067 := gm (i := 579) (by decide +kernel) rfl
theorem ml_J2_67 : ML RJ2 67 yJ2_checkIndex_2214a := gm (i := 582) (by decide +kernel) rfl
theorem ml_J2_48 : ML RJ2 48 yJ2_length_9d52b := gm (i := 585) (by decide +kernel) rfl
theorem ml_J2_414 : ML RJ2 414 yJ0_checkIndex_df160 := gm (i := 588) (by decide +kernel) rfl
theorem ml_J2_71 : ML RJ2 71 yJ2_getChar_3b067 := gm (i := 589) (by decide +kernel) rfl
theorem ml_X3_42 : ML RX3 42 yX3_didPerson := gm (i := 598) (by decide +kernel) rfl
theorem ml_X3_77 : ML RX3 77 yX0_isFull := gm (i := 602) (by decide +kernel) rfl
theorem ml_X3_83 : ML RX3 83 yX3_number := gm (i := 603) (by decide +kernel) rfl
theorem ml_X3_99 : ML RX3 99 yX0_join := gm (i := 610) (by decide +kernel) rfl
theorem ml_X3_47 : ML RX3 47 yX3_didClimb := gm (i := 612) (by decide +kernel) rfl
theorem ml_X3_108 : ML RX3 108 yX0_has := gm (i := 616) (by decide +kernel) rfl
theorem ml_X3_112 : ML RX3 112 yX2_isIn := gm (i := 617) (by decide +kernel) rfl
theorem ml_X2_31 : ML RX2 31 yX2_courseOf := gm (i := 621) (by decide +kernel) rfl
theorem ml_X3_115 : ML RX3 115 yX2_push := gm (i := 626) (by decide +kernel) rfl
theorem ml_X2_41 : ML RX2 41 yX2_insert := gm (i := 630) (by decide +kernel) rfl
theorem ml_X3_58 : ML RX3 58 yX2_clear := gm (i := 636) (by decide +kernel) rfl
theorem ml_X3_65 : ML RX3 65 yX3_didTell := gm (i := 641) (by decide +kernel) rfl
theorem ml_X3_119 : ML RX3 119 yX6_mayTell := gm (i := 645) (by decide +kernel) rfl
theorem ml_X3_122 : ML RX3 122 yX6_changeSetting := gm (i := 646) (by decide +kernel) rfl
theorem ml_L_74 : ML RL 74 yX7_personOf := gm (i := 650) (by decide +kernel) rfl
theorem ml_X7_191 : ML RX7 191 yX2_courseOf := gm (i := 654) (by decide +kernel) rfl
theorem ml_L_78 : ML RL 78 yX7_at := gm (i := 655) (by decide +kernel) rfl
theorem ml_X7_194 : ML RX7 194 yX2_onCourse := gm (i := 659) (by decide +kernel) rfl
theorem ml_L_82 : ML RL 82 yX7_of := gm (i := 663) (by decide +kernel) rfl
theorem ml_X7_197 : ML RX7 197 yX2_loadAt := gm (i := 667) (by decide +kernel) rfl
theorem ml_X2_49 : ML RX2 49 yX0_fact := gm (i := 671) (by decide +kernel) rfl
theorem ml_X7_200 : ML RX7 200 yX2_slackAt := gm (i := 672) (by decide +kernel) rfl
theorem ml_X2_35 : ML RX2 35 yX2_onCourse := gm (i := 676) (by decide +kernel) rfl
theorem ml_X2_58 : ML RX2 58 yX2_loadAt := gm (i := 677) (by decide +kernel) rfl
theorem ml_X7_203 : ML RX7 203 yX2_upAt := gm (i := 678) (by decide +kernel) rfl
theorem ml_X7_206 : ML RX7 206 yX2_isCrushed := gm (i := 682) (by decide +kernel) rfl
theorem ml_X2_61 : ML RX2 61 yX2_slackAt := gm (i := 686) (by decide +kernel) rfl
theorem ml_X7_209 : ML RX7 209 yX7_oneIf := gm (i := 687) (by decide +kernel) rfl
theorem ml_X7_216 : ML RX7 216 yX2_isShaken := gm (i := 690) (by decide +kernel) rfl
theorem ml_X2_55 : ML RX2 55 yX2_upAt := gm (i := 694) (by decide +kernel) rfl
theorem ml_L_86 : ML RL 86 yX7_stands := gm (i := 698) (by decide +kernel) rfl
theorem ml_X7_219 : ML RX7 219 yX2_isFirm := gm (i := 702) (by decide +kernel) rfl
theorem ml_X2_67 : ML RX2 67 yX2_weakCourse := gm (i := 706) (by decide +kernel) rfl
theorem ml_L_90 : ML RL 90 yX7_weak := gm (i := 710) (by decide +kernel) rfl
theorem ml_X7_222 : ML RX7 222 yX2_weakCourse := gm (i := 714) (by decide +kernel) rfl
theorem ml_L_94 : ML RL 94 yX7_height := gm (i := 715) (by decide +kernel) rfl
theorem ml_X7_225 : ML RX7 225 yX2_tallnessOfAll := gm (i := 719) (by decide +kernel) rfl
theorem ml_L_98 : ML RL 98 yX7_least := gm (i := 723) (by decide +kernel) rfl
theorem ml_X7_230 : ML RX7 230 yX2_leastSlack := gm (i := 727) (by decide +kernel) rfl
theorem ml_X2_81 : ML RX2 81 yX2_leastCourse := gm (i := 731) (by decide +kernel) rfl
theorem ml_X7_233 : ML RX7 233 yX2_leastCourse := gm (i := 735) (by decide +kernel) rfl
theorem ml_L_102 : ML RL 102 yX7_orders := gm (i := 736) (by decide +kernel) rfl
theorem ml_X7_236 : ML RX7 236 yX7_isSet := gm (i := 740) (by decide +kernel) rfl
theorem ml_X7_295 : ML RX7 295 yX7_bit := gm (i := 744) (by decide +kernel) rfl
theorem ml_X7_239 : ML RX7 239 yX1_letStand := gm (i := 747) (by decide +kernel) rfl
theorem ml_X1_34 : ML RX1 34 yX1_measureSets := gm (i := 751) (by decide +kernel) rfl
theorem ml_X1_55 : ML RX1 55 yJ6_bitCount_0f7a4 := gm (i := 756) (by decide +kernel) rfl
theorem ml_X1_89 : ML RX1 89 yX0_fact := gm (i := 763) (by decide +kernel) rfl
theorem ml_X1_37 : ML RX1 37 yX1_explore := gm (i := 765) (by decide +kernel) rfl
theorem ml_X1_96 : ML RX1 96 yX1_whoStands := gm (i := 769) (by decide +kernel) rfl
theorem ml_X1_99 : ML RX1 99 yX1_whoBears := gm (i := 774) (by decide +kernel) rfl
theorem ml_X1_112 : ML RX1 112 yX4_cell := gm (i := 778) (by decide +kernel) rfl
theorem ml_X1_103 : ML RX1 103 yX1_reachFrom := gm (i := 779) (by decide +kernel) rfl
theorem ml_X1_106 : ML RX1 106 yX1_countFrom := gm (i := 783) (by decide +kernel) rfl
theorem ml_X7_242 : ML RX7 242 yX1_count := gm (i := 787) (by decide +kernel) rfl
theorem ml_X7_245 : ML RX7 245 yJ6_bitCount_0f7a4 := gm (i := 791) (by decide +kernel) rfl
theorem ml_X7_250 : ML RX7 250 yX1_inFirst := gm (i := 792) (by decide +kernel) rfl
theorem ml_X1_66 : ML RX1 66 yX1_firstOn := gm (i := 796) (by decide +kernel) rfl
theorem ml_X1_69 : ML RX1 69 yX1_leadsOn := gm (i := 800) (by decide +kernel) rfl
theorem ml_L_106 : ML RL 106 yX7_highest := gm (i := 804) (by decide +kernel) rfl
theorem ml_X7_256 : ML RX7 256 yX1_highestSet := gm (i := 808) (by decide +kernel) rfl
theorem ml_X1_60 : ML RX1 60 yX1_heightOf := gm (i := 812) (by decide +kernel) rfl
theorem ml_X1_63 : ML RX1 63 yX1_count := gm (i := 816) (by decide +kernel) rfl
theorem ml_X7_259 : ML RX7 259 yX1_heightOf := gm (i := 817) (by decide +kernel) rfl
theorem ml_L_110 : ML RL 110 yX7_fond := gm (i := 818) (by decide +kernel) rfl
theorem ml_X7_262 : ML RX7 262 yX0_fondness := gm (i := 822) (by decide +kernel) rfl
theorem ml_X0_58 : ML RX0 58 yJ9_abs_0f7a4 := gm (i := 826) (by decide +kernel) rfl
theorem ml_L_114 : ML RL 114 yX7_glad := gm (i := 829) (by decide +kernel) rfl
theorem ml_X7_265 : ML RX7 265 yX1_greatestJoy := gm (i := 833) (by decide +kernel) rfl
theorem ml_X1_76 : ML RX1 76 yX1_fillJoys := gm (i := 837) (by decide +kernel) rfl
theorem ml_X1_80 : ML RX1 80 yX1_joyOf := gm (i := 841) (by decide +kernel) rfl
theorem ml_X1_118 : ML RX1 118 yX0_fondness := gm (i := 845) (by decide +kernel) rfl
theorem ml_X1_84 : ML RX1 84 yJ9_max_7cf53 := gm (i := 846) (by decide +kernel) rfl
theorem ml_L_118 : ML RL 118 yX7_backs := gm (i := 847) (by decide +kernel) rfl
theorem ml_X7_268 : ML RX7 268 yX1_letLoadsBe := gm (i := 851) (by decide +kernel) rfl
theorem ml_X7_272 : ML RX7 272 yX1_feet := gm (i := 855) (by decide +kernel) rfl
theorem ml_X7_275 : ML RX7 275 yX1_heads := gm (i := 859) (by decide +kernel) rfl
theorem ml_L_182 : ML RL 182 yX7_ends := gm (i := 863) (by decide +kernel) rfl
theorem ml_L_122 : ML RL 122 yX7_under := gm (i := 867) (by decide +kernel) rfl
theorem ml_X7_280 : ML RX7 280 yX2_isIn := gm (i := 871) (by decide +kernel) rfl
theorem ml_X7_283 : ML RX7 283 yX2_takeFrom := gm (i := 872) (by decide +kernel) rfl
theorem ml_X7_286 : ML RX7 286 yX2_insert := gm (i := 873) (by decide +kernel) rfl
theorem ml_L_126 : ML RL 126 yX7_change := gm (i := 874) (by decide +kernel) rfl
theorem ml_X7_289 : ML RX7 289 yX2_swap := gm (i := 878) (by decide +kernel) rfl
theorem ml_L_130 : ML RL 130 yX7_out := gm (i := 882) (by decide +kernel) rfl
theorem ml_X7_292 : ML RX7 292 yX7_tryWithout := gm (i := 886) (by decide +kernel) rfl
theorem ml_X7_305 : ML RX7 305 yX2_removeAt := gm (i := 890) (by decide +kernel) rfl
theorem ml_L_134 : ML RL 134 yX7_gale := gm (i := 894) (by decide +kernel) rfl
theorem ml_X7_298 : ML RX7 298 yX2_greatestWind := gm (i := 898) (by decide +kernel) rfl
theorem ml_X2_70 : ML RX2 70 yX2_isFirm := gm (i := 902) (by decide +kernel) rfl
theorem ml_L_138 : ML RL 138 yX7_chance := gm (i := 903) (by decide +kernel) rfl
theorem ml_L_142 : ML RL 142 yX7_fittest := gm (i := 908) (by decide +kernel) rfl
theorem ml_X7_302 : ML RX7 302 yX7_tryOnTop := gm (i := 912) (by decide +kernel) rfl
theorem ml_X7_354 : ML RX7 354 yX2_push := gm (i := 916) (by decide +kernel) rfl
theorem ml_L_186 : ML RL 186 yX7_lighter := gm (i := 917) (by decide +kernel) rfl
theorem ml_L_190 : ML RL 190 yX7_shifted := gm (i := 921) (by decide +kernel) rfl
theorem ml_L_170 : ML RL 170 yX7_foot := gm (i := 925) (by decide +kernel) rfl
theorem ml_X7_308 : ML RX7 308 yX2_crushedBits := gm (i := 929) (by decide +kernel) rfl
theorem ml_X2_74 : ML RX2 74 yX2_isCrushed := gm (i := 933) (by decide +kernel) rfl
theorem ml_L_146 : ML RL 146 yX7_ahead := gm (i := 935) (by decide +kernel) rfl
theorem ml_X7_311 : ML RX7 311 yX2_fellByTurn := gm (i := 939) (by decide +kernel) rfl
theorem ml_X2_98 : ML RX2 98 yX2_makeRoom := gm (i := 943) (by decide +kernel) rfl
theorem ml_X2_88 : ML RX2 88 yX2_removeAt := gm (i := 947) (by decide +kernel) rfl
theorem ml_X2_101 : ML RX2 101 yX2_firstBehindHead := gm (i := 948) (by decide +kernel) rfl
theorem ml_X2_92 : ML RX2 92 yX2_head := gm (i := 952) (by decide +kernel) rfl
theorem ml_X2_95 : ML RX2 95 yX2_isIn := gm (i := 956) (by decide +kernel) rfl
theorem ml_X2_104 : ML RX2 104 yX2_push := gm (i := 957) (by decide +kernel) rfl
theorem ml_X2_107 : ML RX2 107 yX2_clear := gm (i := 958) (by decide +kernel) rfl
theorem ml_X7_314 : ML RX7 314 yX2_head := gm (i := 959) (by decide +kernel) rfl
theorem ml_L_150 : ML RL 150 yX7_next := gm (i := 960) (by decide +kernel) rfl
theorem ml_X7_317 : ML RX7 317 yX2_makeRoom := gm (i := 964) (by decide +kernel) rfl
theorem ml_X7_320 : ML RX7 320 yX2_firstBehindHead := gm (i := 965) (by decide +kernel) rfl
theorem ml_L_154 : ML RL 154 yX7_who := gm (i := 966) (by decide +kernel) rfl
theorem ml_X7_323 : ML RX7 323 yX2_bits := gm (i := 970) (by decide +kernel) rfl
theorem ml_X7_326 : ML RX7 326 yX7_couldClimb := gm (i := 974) (by decide +kernel) rfl
theorem ml_X7_329 : ML RX7 329 yX2_shakenBits := gm (i := 978) (by decide +kernel) rfl
theorem ml_X2_77 : ML RX2 77 yX2_isShaken := gm (i := 982) (by decide +kernel) rfl
theorem ml_L_158 : ML RL 158 yX7_room := gm (i := 983) (by decide +kernel) rfl
theorem ml_X7_332 : ML RX7 332 yJ9_min_7cf53 := gm (i := 987) (by decide +kernel) rfl
theorem ml_L_162 : ML RL 162 yX7_needs := gm (i := 988) (by decide +kernel) rfl
theorem ml_X7_337 : ML RX7 337 yX0_bearsBy := gm (i := 992) (by decide +kernel) rfl
theorem ml_L_166 : ML RL 166 yX7_nerves := gm (i := 993) (by decide +kernel) rfl
theorem ml_X7_341 : ML RX7 341 yX7_sway := gm (i := 997) (by decide +kernel) rfl
theorem ml_L_174 : ML RL 174 yX7_mass := gm (i := 998) (by decide +kernel) rfl
theorem ml_L_178 : ML RL 178 yX7_gladness := gm (i := 1002) (by decide +kernel) rfl
theorem ml_L_194 : ML RL 194 yX7_between := gm (i := 1006) (by decide +kernel) rfl
theorem ml_L_198 : ML RL 198 yX7_top := gm (i := 1010) (by decide +kernel) rfl
theorem ml_L_202 : ML RL 202 yX7_ofKind := gm (i := 1014) (by decide +kernel) rfl
theorem ml_L_206 : ML RL 206 yX7_judge := gm (i := 1018) (by decide +kernel) rfl
theorem ml_X7_344 : ML RX7 344 yX7_isLength := gm (i := 1022) (by decide +kernel) rfl
theorem ml_X7_347 : ML RX7 347 yX7_firstWrong := gm (i := 1025) (by decide +kernel) rfl
theorem ml_L_210 : ML RL 210 yX7_breaks := gm (i := 1029) (by decide +kernel) rfl
theorem ml_X7_351 : ML RX7 351 yX7_firstBreak := gm (i := 1033) (by decide +kernel) rfl
theorem ml_L_214 : ML RL 214 yX7_climb := gm (i := 1037) (by decide +kernel) rfl
theorem ml_X7_357 : ML RX7 357 yX6_fellIfWeak := gm (i := 1041) (by decide +kernel) rfl
theorem ml_X6_63 : ML RX6 63 yX2_isFirm := gm (i := 1045) (by decide +kernel) rfl
theorem ml_X6_67 : ML RX6 67 yX2_clear := gm (i := 1046) (by decide +kernel) rfl
theorem ml_L_218 : ML RL 218 yX7_comesOut := gm (i := 1047) (by decide +kernel) rfl
theorem ml_L_222 : ML RL 222 yX7_days := gm (i := 1051) (by decide +kernel) rfl
theorem ml_X7_360 : ML RX7 360 yX7_isTime := gm (i := 1055) (by decide +kernel) rfl
theorem ml_X7_363 : ML RX7 363 yX6_turn := gm (i := 1058) (by decide +kernel) rfl
theorem ml_X6_70 : ML RX6 70 yX2_fellByTurn := gm (i := 1062) (by decide +kernel) rfl
theorem ml_X6_74 : ML RX6 74 yJ9_min_7cf53 := gm (i := 1063) (by decide +kernel) rfl
theorem ml_L_226 : ML RL 226 yX7_drawn := gm (i := 1064) (by decide +kernel) rfl
theorem ml_X7_369 : ML RX7 369 yX6_draw := gm (i := 1068) (by decide +kernel) rfl
theorem ml_L_230 : ML RL 230 yX7_seed := gm (i := 1073) (by decide +kernel) rfl
theorem ml_L_234 : ML RL 234 yX7_image := gm (i := 1077) (by decide +kernel) rfl
theorem ml_L_238 : ML RL 238 yX7_back := gm (i := 1081) (by decide +kernel) rfl
theorem ml_L_242 : ML RL 242 yX7_status := gm (i := 1085) (by decide +kernel) rfl
theorem ml_X7_382 : ML RX7 382 yX7_fullShelves := gm (i := 1089) (by decide +kernel) rfl
theorem ml_X7_385 : ML RX7 385 yX7_refusals := gm (i := 1093) (by decide +kernel) rfl
theorem ml_L_12 : ML RL 12 yX8_init := gm (i := 1099) (by decide +kernel) rfl
theorem ml_X8_1 : ML RX8 1 objectInit := gm (i := 1102) (by decide +kernel) rfl
theorem ml_L_17 : ML RL 17 yX8_row := gm (i := 1223) (by decide +kernel) rfl
theorem ml_X8_89 : ML RX8 89 yX8_in := gm (i := 1228) (by decide +kernel) rfl
theorem ml_X8_99 : ML RX8 99 yX8_refuse := gm (i := 1233) (by decide +kernel) rfl
theorem ml_L_24 : ML RL 24 yX8_set := gm (i := 1237) (by decide +kernel) rfl
theorem ml_X8_103 : ML RX8 103 yX8_noRow := gm (i := 1241) (by decide +kernel) rfl
theorem ml_X8_106 : ML RX8 106 yX8_fit := gm (i := 1245) (by decide +kernel) rfl
theorem ml_L_29 : ML RL 29 yX8_copy := gm (i := 1248) (by decide +kernel) rfl
theorem ml_L_34 : ML RL 34 yX8_element := gm (i := 1252) (by decide +kernel) rfl
theorem ml_L_39 : ML RL 39 yX8_holds := gm (i := 1256) (by decide +kernel) rfl
theorem ml_L_44 : ML RL 44 yX8_show := gm (i := 1260) (by decide +kernel) rfl
theorem ml_X8_110 : ML RX8 110 yX8_isPerson := gm (i := 1264) (by decide +kernel) rfl
theorem ml_L_48 : ML RL 48 yX8_says := gm (i := 1268) (by decide +kernel) rfl
theorem ml_X8_116 : ML RX8 116 yX8_isUnder := gm (i := 1273) (by decide +kernel) rfl
theorem ml_X8_120 : ML RX8 120 yX8_tallness := gm (i := 1276) (by decide +kernel) rfl
theorem ml_X8_123 : ML RX8 123 yX8_massOf := gm (i := 1280) (by decide +kernel) rfl
theorem ml_X8_126 : ML RX8 126 yX8_bears := gm (i := 1284) (by decide +kernel) rfl
theorem ml_L_52 : ML RL 52 yX8_person := gm (i := 1288) (by decide +kernel) rfl
theorem ml_X8_133 : ML RX8 133 yX8_addPerson := gm (i := 1294) (by decide +kernel) rfl
theorem ml_L_56 : ML RL 56 yX8_give := gm (i := 1298) (by decide +kernel) rfl
theorem ml_L_60 : ML RL 60 yX8_tell := gm (i := 1303) (by decide +kernel) rfl
theorem ml_X8_142 : ML RX8 142 yX8_leastMost := gm (i := 1307) (by decide +kernel) rfl
theorem ml_L_64 : ML RL 64 yX8_feed := gm (i := 1313) (by decide +kernel) rfl
theorem ml_L_69 : ML RL 69 yX8_wipe := gm (i := 1318) (by decide +kernel) rfl
theorem ml_L_73 : ML RL 73 yX8_tower := gm (i := 1322) (by decide +kernel) rfl
theorem ml_X8_235 : ML RX8 235 yX8_init := gm (i := 1327) (by decide +kernel) rfl
theorem ml_X8_236 : ML RX8 236 yX8_takeFrom := gm (i := 1328) (by decide +kernel) rfl
theorem ml_X8_376 : ML RX8 376 yX8_copied := gm (i := 1332) (by decide +kernel) rfl
theorem ml_X8_240 : ML RX8 240 yX8_readAll := gm (i := 1335) (by decide +kernel) rfl
theorem ml_X8_193 : ML RX8 193 yX8_look := gm (i := 1339) (by decide +kernel) rfl
theorem ml_X8_170 : ML RX8 170 yX8_isLetter := gm (i := 1343) (by decide +kernel) rfl
theorem ml_X8_174 : ML RX8 174 yX8_isDigit := gm (i := 1346) (by decide +kernel) rfl
theorem ml_X8_228 : ML RX8 228 yX8_statement := gm (i := 1349) (by decide +kernel) rfl
theorem ml_X8_208 : ML RX8 208 yX8_isWord := gm (i := 1354) (by decide +kernel) rfl
theorem ml_X8_180 : ML RX8 180 yJ0_length_8abf5 := gm (i := 1358) (by decide +kernel) rfl
theorem ml_X8_185 : ML RX8 185 yJ0_charAt_5068e := gm (i := 1359) (by decide +kernel) rfl
theorem ml_X8_212 : ML RX8 212 yX8_tellsPerson := gm (i := 1360) (by decide +kernel) rfl
theorem ml_X8_200 : ML RX8 200 yX8_tells := gm (i := 1364) (by decide +kernel) rfl
theorem ml_X8_196 : ML RX8 196 yX8_number := gm (i := 1368) (by decide +kernel) rfl
theorem ml_X8_189 : ML RX8 189 yX8_wrong := gm (i := 1372) (by decide +kernel) rfl
theorem ml_X8_217 : ML RX8 217 yX8_tellsClimb := gm (i := 1377) (by decide +kernel) rfl
theorem ml_X8_203 : ML RX8 203 yX8_isIn := gm (i := 1381) (by decide +kernel) rfl
theorem ml_X8_243 : ML RX8 243 yX8_courseOf := gm (i := 1385) (by decide +kernel) rfl
theorem ml_L_77 : ML RL 77 yX8_personOf := gm (i := 1393) (by decide +kernel) rfl
theorem ml_L_113 : ML RL 113 yX8_fond := gm (i := 1397) (by decide +kernel) rfl
theorem ml_X8_246 : ML RX8 246 yX8_fondOf := gm (i := 1401) (by decide +kernel) rfl
theorem ml_L_205 : ML RL 205 yX8_ofKind := gm (i := 1405) (by decide +kernel) rfl
theorem ml_L_81 : ML RL 81 yX8_at := gm (i := 1409) (by decide +kernel) rfl
theorem ml_L_85 : ML RL 85 yX8_of := gm (i := 1413) (by decide +kernel) rfl
theorem ml_X8_250 : ML RX8 250 yX8_loadAt := gm (i := 1417) (by decide +kernel) rfl
theorem ml_X8_253 : ML RX8 253 yX8_slackAt := gm (i := 1421) (by decide +kernel) rfl
theorem ml_X8_256 : ML RX8 256 yX8_upAt := gm (i := 1425) (by decide +kernel) rfl
theorem ml_X8_259 : ML RX8 259 yX8_crushedAt := gm (i := 1429) (by decide +kernel) rfl
theorem ml_X8_262 : ML RX8 262 yX8_shakesAt := gm (i := 1433) (by decide +kernel) rfl
theorem ml_L_89 : ML RL 89 yX8_stands := gm (i := 1437) (by decide +kernel) rfl
theorem ml_X8_268 : ML RX8 268 yX8_isStanding := gm (i := 1441) (by decide +kernel) rfl
theorem ml_X8_265 : ML RX8 265 yX8_weakAt := gm (i := 1445) (by decide +kernel) rfl
theorem ml_L_93 : ML RL 93 yX8_weak := gm (i := 1449) (by decide +kernel) rfl
theorem ml_L_97 : ML RL 97 yX8_height := gm (i := 1453) (by decide +kernel) rfl
theorem ml_X8_271 : ML RX8 271 yX8_heightNow := gm (i := 1457) (by decide +kernel) rfl
theorem ml_L_177 : ML RL 177 yX8_mass := gm (i := 1461) (by decide +kernel) rfl
theorem ml_L_201 : ML RL 201 yX8_top := gm (i := 1465) (by decide +kernel) rfl
theorem ml_L_181 : ML RL 181 yX8_gladness := gm (i := 1469) (by decide +kernel) rfl
theorem ml_L_197 : ML RL 197 yX8_between := gm (i := 1473) (by decide +kernel) rfl
theorem ml_L_101 : ML RL 101 yX8_least := gm (i := 1477) (by decide +kernel) rfl
theorem ml_X8_274 : ML RX8 274 yX8_leastAt := gm (i := 1481) (by decide +kernel) rfl
theorem ml_L_161 : ML RL 161 yX8_room := gm (i := 1485) (by decide +kernel) rfl
theorem ml_L_165 : ML RL 165 yX8_needs := gm (i := 1489) (by decide +kernel) rfl
theorem ml_L_169 : ML RL 169 yX8_nerves := gm (i := 1493) (by decide +kernel) rfl
theorem ml_L_105 : ML RL 105 yX8_orders := gm (i := 1497) (by decide +kernel) rfl
theorem ml_X8_286 : ML RX8 286 yX8_isSet := gm (i := 1501) (by decide +kernel) rfl
theorem ml_X8_289 : ML RX8 289 yX8_findOrders := gm (i := 1505) (by decide +kernel) rfl
theorem ml_X8_283 : ML RX8 283 yX8_holds_ := gm (i := 1509) (by decide +kernel) rfl
theorem ml_X8_277 : ML RX8 277 yX8_massOfSet := gm (i := 1513) (by decide +kernel) rfl
theorem ml_X8_280 : ML RX8 280 yX8_tallnessOfSet := gm (i := 1517) (by decide +kernel) rfl
theorem ml_X8_292 : ML RX8 292 yX8_bits := gm (i := 1521) (by decide +kernel) rfl
theorem ml_X8_295 : ML RX8 295 yX8_mayCome := gm (i := 1524) (by decide +kernel) rfl
theorem ml_L_185 : ML RL 185 yX8_ends := gm (i := 1528) (by decide +kernel) rfl
theorem ml_X8_298 : ML RX8 298 yX8_topsOf := gm (i := 1532) (by decide +kernel) rfl
theorem ml_L_109 : ML RL 109 yX8_highest := gm (i := 1536) (by decide +kernel) rfl
theorem ml_L_117 : ML RL 117 yX8_glad := gm (i := 1540) (by decide +kernel) rfl
theorem ml_X8_301 : ML RX8 301 yX8_gladFrom := gm (i := 1544) (by decide +kernel) rfl
theorem ml_L_121 : ML RL 121 yX8_backs := gm (i := 1548) (by decide +kernel) rfl
theorem ml_X8_309 : ML RX8 309 yX8_findBacks := gm (i := 1552) (by decide +kernel) rfl
theorem ml_X8_305 : ML RX8 305 yX8_isTold := gm (i := 1556) (by decide +kernel) rfl
theorem ml_X8_312 : ML RX8 312 yX8_backTops := gm (i := 1560) (by decide +kernel) rfl
theorem ml_L_125 : ML RL 125 yX8_under := gm (i := 1564) (by decide +kernel) rfl
theorem ml_X8_315 : ML RX8 315 yX8_puts := gm (i := 1568) (by decide +kernel) rfl
theorem ml_X8_319 : ML RX8 319 yX8_takes := gm (i := 1572) (by decide +kernel) rfl
theorem ml_L_129 : ML RL 129 yX8_change := gm (i := 1576) (by decide +kernel) rfl
theorem ml_X8_322 : ML RX8 322 yX8_changes := gm (i := 1580) (by decide +kernel) rfl
theorem ml_L_133 : ML RL 133 yX8_out := gm (i := 1584) (by decide +kernel) rfl
theorem ml_L_137 : ML RL 137 yX8_gale := gm (i := 1588) (by decide +kernel) rfl
theorem ml_X8_325 : ML RX8 325 yX8_galeNow := gm (i := 1592) (by decide +kernel) rfl
theorem ml_L_141 : ML RL 141 yX8_chance := gm (i := 1596) (by decide +kernel) rfl
theorem ml_L_145 : ML RL 145 yX8_fittest := gm (i := 1601) (by decide +kernel) rfl
theorem ml_X8_329 : ML RX8 329 yX8_galeWith := gm (i := 1605) (by decide +kernel) rfl
theorem ml_L_189 : ML RL 189 yX8_lighter := gm (i := 1609) (by decide +kernel) rfl
theorem ml_L_193 : ML RL 193 yX8_shifted := gm (i := 1613) (by decide +kernel) rfl
theorem ml_L_173 : ML RL 173 yX8_foot := gm (i := 1617) (by decide +kernel) rfl
theorem ml_L_157 : ML RL 157 yX8_who := gm (i := 1621) (by decide +kernel) rfl
theorem ml_X8_334 : ML RX8 334 yX8_standsWith := gm (i := 1626) (by decide +kernel) rfl
theorem ml_L_149 : ML RL 149 yX8_ahead := gm (i := 1630) (by decide +kernel) rfl
theorem ml_X8_351 : ML RX8 351 yX8_turns := gm (i := 1635) (by decide +kernel) rfl
theorem ml_X8_340 : ML RX8 340 yX8_nextNow := gm (i := 1639) (by decide +kernel) rfl
theorem ml_X8_337 : ML RX8 337 yX8_footComesOut := gm (i := 1643) (by decide +kernel) rfl
theorem ml_X8_343 : ML RX8 343 yX8_falls := gm (i := 1647) (by decide +kernel) rfl
theorem ml_X8_354 : ML RX8 354 yX8_top := gm (i := 1651) (by decide +kernel) rfl
theorem ml_L_153 : ML RL 153 yX8_next := gm (i := 1652) (by decide +kernel) rfl
theorem ml_L_209 : ML RL 209 yX8_judge := gm (i := 1656) (by decide +kernel) rfl
theorem ml_X8_363 : ML RX8 363 yX8_noClimb := gm (i := 1660) (by decide +kernel) rfl
theorem ml_X8_366 : ML RX8 366 yX8_climbs := gm (i := 1664) (by decide +kernel) rfl
theorem ml_L_213 : ML RL 213 yX8_breaks := gm (i := 1668) (by decide +kernel) rfl
theorem ml_L_217 : ML RL 217 yX8_climb := gm (i := 1672) (by decide +kernel) rfl
theorem ml_L_221 : ML RL 221 yX8_comesOut := gm (i := 1676) (by decide +kernel) rfl
theorem ml_L_225 : ML RL 225 yX8_days := gm (i := 1680) (by decide +kernel) rfl
theorem ml_X8_369 : ML RX8 369 yX8_noDays := gm (i := 1684) (by decide +kernel) rfl
theorem ml_L_229 : ML RL 229 yX8_drawn := gm (i := 1688) (by decide +kernel) rfl
theorem ml_X8_373 : ML RX8 373 yX8_below := gm (i := 1692) (by decide +kernel) rfl
theorem ml_L_233 : ML RL 233 yX8_seed := gm (i := 1697) (by decide +kernel) rfl
theorem ml_L_237 : ML RL 237 yX8_image := gm (i := 1701) (by decide +kernel) rfl
theorem ml_L_241 : ML RL 241 yX8_back := gm (i := 1705) (by decide +kernel) rfl
theorem ml_L_245 : ML RL 245 yX8_status := gm (i := 1709) (by decide +kernel) rfl
theorem cc_L_7 : Cond.classLink RL 7 RX7 ∈ gtbl := gm (i := 104) (by decide +kernel) rfl
theorem in_X7 : Cond.instantiable RX7 11 ∈ gtbl := gm (i := 105) (by decide +kernel) rfl
theorem cc_X7_9 : Cond.classLink RX7 9 RX6 ∈ gtbl := gm (i := 112) (by decide +kernel) rfl
theorem in_X6 : Cond.instantiable RX6 7 ∈ gtbl := gm (i := 113) (by decide +kernel) rfl
theorem cc_X6_9 : Cond.classLink RX6 9 RX0 ∈ gtbl := gm (i := 118) (by decide +kernel) rfl
theorem in_X0 : Cond.instantiable RX0 2 ∈ gtbl := gm (i := 119) (by decide +kernel) rfl
theorem fl_X0_9 : Cond.fieldLink RX0 9 "TowerOfTurns$Crowd" "facts" "[I" ∈ gtbl := gm (i := 124) (by decide +kernel) rfl
theorem fl_X0_15 : Cond.fieldLink RX0 15 "TowerOfTurns$Crowd" "count" "I" ∈ gtbl := gm (i := 125) (by decide +kernel) rfl
theorem ac_int : Cond.arrayClass .int ∈ gtbl := gm (i := 134) (by decide +kernel) rfl
theorem cc_X6_18 : Cond.classLink RX6 18 RX2 ∈ gtbl := gm (i := 135) (by decide +kernel) rfl
theorem in_X2 : Cond.instantiable RX2 3 ∈ gtbl := gm (i := 136) (by decide +kernel) rfl
theorem fl_X2_15 : Cond.fieldLink RX2 15 "TowerOfTurns$Pile" "crowd" "LTowerOfTurns$Crowd;" ∈ gtbl := gm (i := 141) (by decide +kernel) rfl
theorem fl_X2_9 : Cond.fieldLink RX2 9 "TowerOfTurns$Pile" "order" "[I" ∈ gtbl := gm (i := 142) (by decide +kernel) rfl
theorem fl_X2_23 : Cond.fieldLink RX2 23 "TowerOfTurns$Pile" "size" "I" ∈ gtbl := gm (i := 143) (by decide +kernel) rfl
theorem fl_X6_12 : Cond.fieldLink RX6 12 "TowerOfTurns$World" "crowd" "LTowerOfTurns$Crowd;" ∈ gtbl := gm (i := 154) (by decide +kernel) rfl
theorem fl_X6_23 : Cond.fieldLink RX6 23 "TowerOfTurns$World" "pile" "LTowerOfTurns$Pile;" ∈ gtbl := gm (i := 157) (by decide +kernel) rfl
theorem fl_X6_27 : Cond.fieldLink RX6 27 "TowerOfTurns$World" "wind" "I" ∈ gtbl := gm (i := 160) (by decide +kernel) rfl
theorem fl_X6_31 : Cond.fieldLink RX6 31 "TowerOfTurns$World" "most" "I" ∈ gtbl := gm (i := 162) (by decide +kernel) rfl
theorem fl_X6_43 : Cond.fieldLink RX6 43 "TowerOfTurns$World" "day" "I" ∈ gtbl := gm (i := 165) (by decide +kernel) rfl
theorem fl_X6_46 : Cond.fieldLink RX6 46 "TowerOfTurns$World" "fallen" "I" ∈ gtbl := gm (i := 167) (by decide +kernel) rfl
theorem fl_X6_34 : Cond.fieldLink RX6 34 "TowerOfTurns$World" "seed" "I" ∈ gtbl := gm (i := 169) (by decide +kernel) rfl
theorem cc_X7_22 : Cond.classLink RX7 22 RX2 ∈ gtbl := gm (i := 186) (by decide +kernel) rfl
theorem cc_X7_35 : Cond.classLink RX7 35 RX1 ∈ gtbl := gm (i := 188) (by decide +kernel) rfl
theorem in_X1 : Cond.instantiable RX1 8 ∈ gtbl := gm (i := 189) (by decide +kernel) rfl
theorem fl_X1_30 : Cond.fieldLink RX1 30 "TowerOfTurns$Lineups" "crowd" "LTowerOfTurns$Crowd;" ∈ gtbl := gm (i := 194) (by decide +kernel) rfl
theorem fl_X1_9 : Cond.fieldLink RX1 9 "TowerOfTurns$Lineups" "masses" "[I" ∈ gtbl := gm (i := 195) (by decide +kernel) rfl
theorem fl_X1_15 : Cond.fieldLink RX1 15 "TowerOfTurns$Lineups" "heights" "[I" ∈ gtbl := gm (i := 196) (by decide +kernel) rfl
theorem fl_X1_18 : Cond.fieldLink RX1 18 "TowerOfTurns$Lineups" "fits" "[I" ∈ gtbl := gm (i := 197) (by decide +kernel) rfl
theorem fl_X1_21 : Cond.fieldLink RX1 21 "TowerOfTurns$Lineups" "ways" "[I" ∈ gtbl := gm (i := 198) (by decide +kernel) rfl
theorem fl_X1_24 : Cond.fieldLink RX1 24 "TowerOfTurns$Lineups" "lasts" "[I" ∈ gtbl := gm (i := 199) (by decide +kernel) rfl
theorem fl_X1_27 : Cond.fieldLink RX1 27 "TowerOfTurns$Lineups" "joys" "[I" ∈ gtbl := gm (i := 200) (by decide +kernel) rfl
theorem fl_X1_73 : Cond.fieldLink RX1 73 "TowerOfTurns$Lineups" "whole" "I" ∈ gtbl := gm (i := 201) (by decide +kernel) rfl
theorem cc_X7_42 : Cond.classLink RX7 42 RX5 ∈ gtbl := gm (i := 219) (by decide +kernel) rfl
theorem in_X5 : Cond.instantiable RX5 2 ∈ gtbl := gm (i := 220) (by decide +kernel) rfl
theorem fl_X5_9 : Cond.fieldLink RX5 9 "TowerOfTurns$Tape" "letters" "[I" ∈ gtbl := gm (i := 225) (by decide +kernel) rfl
theorem fl_X5_15 : Cond.fieldLink RX5 15 "TowerOfTurns$Tape" "size" "I" ∈ gtbl := gm (i := 226) (by decide +kernel) rfl
theorem cc_X7_49 : Cond.classLink RX7 49 RX3 ∈ gtbl := gm (i := 234) (by decide +kernel) rfl
theorem in_X3 : Cond.instantiable RX3 5 ∈ gtbl := gm (i := 235) (by decide +kernel) rfl
theorem fl_X3_15 : Cond.fieldLink RX3 15 "TowerOfTurns$Reader" "tape" "LTowerOfTurns$Tape;" ∈ gtbl := gm (i := 240) (by decide +kernel) rfl
theorem fl_X3_9 : Cond.fieldLink RX3 9 "TowerOfTurns$Reader" "told" "[I" ∈ gtbl := gm (i := 241) (by decide +kernel) rfl
theorem fl_X3_33 : Cond.fieldLink RX3 33 "TowerOfTurns$Reader" "token" "I" ∈ gtbl := gm (i := 242) (by decide +kernel) rfl
theorem fl_X3_30 : Cond.fieldLink RX3 30 "TowerOfTurns$Reader" "start" "I" ∈ gtbl := gm (i := 243) (by decide +kernel) rfl
theorem fl_X3_19 : Cond.fieldLink RX3 19 "TowerOfTurns$Reader" "place" "I" ∈ gtbl := gm (i := 244) (by decide +kernel) rfl
theorem cc_X7_58 : Cond.classLink RX7 58 RX4 ∈ gtbl := gm (i := 256) (by decide +kernel) rfl
theorem fl_X7_12 : Cond.fieldLink RX7 12 "TowerOfTurns" "world" "LTowerOfTurns$World;" ∈ gtbl := gm (i := 258) (by decide +kernel) rfl
theorem fl_X7_16 : Cond.fieldLink RX7 16 "TowerOfTurns" "kept" "LTowerOfTurns$World;" ∈ gtbl := gm (i := 259) (by decide +kernel) rfl
theorem fl_X7_19 : Cond.fieldLink RX7 19 "TowerOfTurns" "draft" "LTowerOfTurns$World;" ∈ gtbl := gm (i := 260) (by decide +kernel) rfl
theorem fl_X7_31 : Cond.fieldLink RX7 31 "TowerOfTurns" "trial" "LTowerOfTurns$Pile;" ∈ gtbl := gm (i := 261) (by decide +kernel) rfl
theorem fl_X7_38 : Cond.fieldLink RX7 38 "TowerOfTurns" "lineups" "LTowerOfTurns$Lineups;" ∈ gtbl := gm (i := 262) (by decide +kernel) rfl
theorem fl_X7_45 : Cond.fieldLink RX7 45 "TowerOfTurns" "tape" "LTowerOfTurns$Tape;" ∈ gtbl := gm (i := 263) (by decide +kernel) rfl
theorem fl_X7_54 : Cond.fieldLink RX7 54 "TowerOfTurns" "reader" "LTowerOfTurns$Reader;" ∈ gtbl := gm (i := 264) (by decide +kernel) rfl
theorem fl_X7_60 : Cond.fieldLink RX7 60 "TowerOfTurns" "rows" "[LTowerOfTurns$Row;" ∈ gtbl := gm (i := 265) (by decide +kernel) rfl
theorem fl_X7_64 : Cond.fieldLink RX7 64 "TowerOfTurns" "shown" "[I" ∈ gtbl := gm (i := 266) (by decide +kernel) rfl
theorem fl_X7_68 : Cond.fieldLink RX7 68 "TowerOfTurns" "refused" "[I" ∈ gtbl := gm (i := 267) (by decide +kernel) rfl
theorem fl_X7_375 : Cond.fieldLink RX7 375 "TowerOfTurns" "hasKept" "Z" ∈ gtbl := gm (i := 268) (by decide +kernel) rfl
theorem in_X4 : Cond.instantiable RX4 2 ∈ gtbl := gm (i := 309) (by decide +kernel) rfl
theorem fl_X4_9 : Cond.fieldLink RX4 9 "TowerOfTurns$Row" "sort" "I" ∈ gtbl := gm (i := 320) (by decide +kernel) rfl
theorem fl_X4_24 : Cond.fieldLink RX4 24 "TowerOfTurns$Row" "cells" "[J" ∈ gtbl := gm (i := 322) (by decide +kernel) rfl
theorem ac_long : Cond.arrayClass .long ∈ gtbl := gm (i := 329) (by decide +kernel) rfl
theorem fl_X7_398 : Cond.fieldLink RX7 398 "TowerOfTurns" "KIND_ABOVE" "[I" ∈ gtbl := gm (i := 407) (by decide +kernel) rfl
theorem fl_X7_392 : Cond.fieldLink RX7 392 "TowerOfTurns" "LEAST_TRAIT" "[I" ∈ gtbl := gm (i := 421) (by decide +kernel) rfl
theorem fl_X7_395 : Cond.fieldLink RX7 395 "TowerOfTurns" "GREATEST_TRAIT" "[I" ∈ gtbl := gm (i := 423) (by decide +kernel) rfl
theorem fl_J0_38 : Cond.fieldLink RJ0 38 "java/lang/String" "COMPACT_STRINGS" "Z" ∈ gtbl := gm (i := 558) (by decide +kernel) rfl
theorem fl_J0_1053 : Cond.fieldLink RJ0 1053 "jdk/internal/util/Preconditions" "SIOOBE_FORMATTER" "Ljava/util/function/BiFunction;" ∈ gtbl := gm (i := 574) (by decide +kernel) rfl
theorem fl_J2_44 : Cond.fieldLink RJ2 44 "java/lang/StringUTF16" "$assertionsDisabled" "Z" ∈ gtbl := gm (i := 592) (by decide +kernel) rfl
theorem fl_J2_59 : Cond.fieldLink RJ2 59 "java/lang/StringUTF16" "HI_BYTE_SHIFT" "I" ∈ gtbl := gm (i := 594) (by decide +kernel) rfl
theorem fl_J2_63 : Cond.fieldLink RJ2 63 "java/lang/StringUTF16" "LO_BYTE_SHIFT" "I" ∈ gtbl := gm (i := 596) (by decide +kernel) rfl
theorem ac_byte : Cond.arrayClass .byte ∈ gtbl := gm (i := 649) (by decide +kernel) rfl
theorem ci_J6_265 : Cond.constant RJ6 265 (1431655765) ∈ gtbl := gm (i := 759) (by decide +kernel) rfl
theorem ci_J6_266 : Cond.constant RJ6 266 (858993459) ∈ gtbl := gm (i := 760) (by decide +kernel) rfl
theorem ci_J6_267 : Cond.constant RJ6 267 (252645135) ∈ gtbl := gm (i := 761) (by decide +kernel) rfl
theorem ci_X7_301 : Cond.constant RX7 301 (100000) ∈ gtbl := gm (i := 907) (by decide +kernel) rfl
theorem ci_X6_80 : Cond.constant RX6 80 (1103515245) ∈ gtbl := gm (i := 1072) (by decide +kernel) rfl
theorem cc_L_10 : Cond.classLink RL 10 RX8 ∈ gtbl := gm (i := 1097) (by decide +kernel) rfl
theorem in_X8 : Cond.instantiable RX8 38 ∈ gtbl := gm (i := 1098) (by decide +kernel) rfl
theorem cc_X8_19 : Cond.classLink RX8 19 "[[J" ∈ gtbl := gm (i := 1103) (by decide +kernel) rfl
theorem cc_X8_75 : Cond.classLink RX8 75 "[[I" ∈ gtbl := gm (i := 1105) (by decide +kernel) rfl
theorem fl_X8_7 : Cond.fieldLink RX8 7 "TowerOfTurnsModel" "shelf" "[I" ∈ gtbl := gm (i := 1107) (by decide +kernel) rfl
theorem fl_X8_13 : Cond.fieldLink RX8 13 "TowerOfTurnsModel" "rowSort" "[I" ∈ gtbl := gm (i := 1108) (by decide +kernel) rfl
theorem fl_X8_16 : Cond.fieldLink RX8 16 "TowerOfTurnsModel" "rowSize" "[I" ∈ gtbl := gm (i := 1109) (by decide +kernel) rfl
theorem fl_X8_21 : Cond.fieldLink RX8 21 "TowerOfTurnsModel" "rows" "[[J" ∈ gtbl := gm (i := 1110) (by decide +kernel) rfl
theorem fl_X8_24 : Cond.fieldLink RX8 24 "TowerOfTurnsModel" "moved" "[J" ∈ gtbl := gm (i := 1111) (by decide +kernel) rfl
theorem fl_X8_28 : Cond.fieldLink RX8 28 "TowerOfTurnsModel" "shown" "[I" ∈ gtbl := gm (i := 1112) (by decide +kernel) rfl
theorem fl_X8_31 : Cond.fieldLink RX8 31 "TowerOfTurnsModel" "tape" "[I" ∈ gtbl := gm (i := 1113) (by decide +kernel) rfl
theorem fl_X8_155 : Cond.fieldLink RX8 155 "TowerOfTurnsModel" "tapeSize" "I" ∈ gtbl := gm (i := 1114) (by decide +kernel) rfl
theorem fl_X8_34 : Cond.fieldLink RX8 34 "TowerOfTurnsModel" "refused" "[I" ∈ gtbl := gm (i := 1115) (by decide +kernel) rfl
theorem fl_X8_37 : Cond.fieldLink RX8 37 "TowerOfTurnsModel" "wind" "I" ∈ gtbl := gm (i := 1116) (by decide +kernel) rfl
theorem fl_X8_41 : Cond.fieldLink RX8 41 "TowerOfTurnsModel" "most" "I" ∈ gtbl := gm (i := 1117) (by decide +kernel) rfl
theorem fl_X8_150 : Cond.fieldLink RX8 150 "TowerOfTurnsModel" "day" "I" ∈ gtbl := gm (i := 1118) (by decide +kernel) rfl
theorem fl_X8_346 : Cond.fieldLink RX8 346 "TowerOfTurnsModel" "fallen" "I" ∈ gtbl := gm (i := 1119) (by decide +kernel) rfl
theorem fl_X8_86 : Cond.fieldLink RX8 86 "TowerOfTurnsModel" "people" "I" ∈ gtbl := gm (i := 1120) (by decide +kernel) rfl
theorem fl_X8_44 : Cond.fieldLink RX8 44 "TowerOfTurnsModel" "kind" "[I" ∈ gtbl := gm (i := 1121) (by decide +kernel) rfl
theorem fl_X8_47 : Cond.fieldLink RX8 47 "TowerOfTurnsModel" "by" "[I" ∈ gtbl := gm (i := 1122) (by decide +kernel) rfl
theorem fl_X8_50 : Cond.fieldLink RX8 50 "TowerOfTurnsModel" "weight" "[I" ∈ gtbl := gm (i := 1123) (by decide +kernel) rfl
theorem fl_X8_53 : Cond.fieldLink RX8 53 "TowerOfTurnsModel" "strength" "[I" ∈ gtbl := gm (i := 1124) (by decide +kernel) rfl
theorem fl_X8_56 : Cond.fieldLink RX8 56 "TowerOfTurnsModel" "nerve" "[I" ∈ gtbl := gm (i := 1125) (by decide +kernel) rfl
theorem fl_X8_59 : Cond.fieldLink RX8 59 "TowerOfTurnsModel" "stack" "[I" ∈ gtbl := gm (i := 1126) (by decide +kernel) rfl
theorem fl_X8_139 : Cond.fieldLink RX8 139 "TowerOfTurnsModel" "size" "I" ∈ gtbl := gm (i := 1127) (by decide +kernel) rfl
theorem fl_X8_62 : Cond.fieldLink RX8 62 "TowerOfTurnsModel" "seed" "I" ∈ gtbl := gm (i := 1128) (by decide +kernel) rfl
theorem fl_X8_380 : Cond.fieldLink RX8 380 "TowerOfTurnsModel" "kept" "LTowerOfTurnsModel;" ∈ gtbl := gm (i := 1129) (by decide +kernel) rfl
theorem fl_X8_231 : Cond.fieldLink RX8 231 "TowerOfTurnsModel" "tried" "LTowerOfTurnsModel;" ∈ gtbl := gm (i := 1130) (by decide +kernel) rfl
theorem fl_X8_158 : Cond.fieldLink RX8 158 "TowerOfTurnsModel" "at" "I" ∈ gtbl := gm (i := 1131) (by decide +kernel) rfl
theorem fl_X8_167 : Cond.fieldLink RX8 167 "TowerOfTurnsModel" "token" "I" ∈ gtbl := gm (i := 1132) (by decide +kernel) rfl
theorem fl_X8_161 : Cond.fieldLink RX8 161 "TowerOfTurnsModel" "from" "I" ∈ gtbl := gm (i := 1133) (by decide +kernel) rfl
theorem fl_X8_164 : Cond.fieldLink RX8 164 "TowerOfTurnsModel" "figures" "I" ∈ gtbl := gm (i := 1134) (by decide +kernel) rfl
theorem fl_X8_177 : Cond.fieldLink RX8 177 "TowerOfTurnsModel" "fault" "I" ∈ gtbl := gm (i := 1135) (by decide +kernel) rfl
theorem fl_X8_65 : Cond.fieldLink RX8 65 "TowerOfTurnsModel" "told" "[I" ∈ gtbl := gm (i := 1136) (by decide +kernel) rfl
theorem fl_X8_225 : Cond.fieldLink RX8 225 "TowerOfTurnsModel" "statements" "I" ∈ gtbl := gm (i := 1137) (by decide +kernel) rfl
theorem fl_X8_68 : Cond.fieldLink RX8 68 "TowerOfTurnsModel" "ways" "[I" ∈ gtbl := gm (i := 1138) (by decide +kernel) rfl
theorem fl_X8_71 : Cond.fieldLink RX8 71 "TowerOfTurnsModel" "comes" "[Z" ∈ gtbl := gm (i := 1139) (by decide +kernel) rfl
theorem fl_X8_77 : Cond.fieldLink RX8 77 "TowerOfTurnsModel" "gladness" "[[I" ∈ gtbl := gm (i := 1140) (by decide +kernel) rfl
theorem fl_X8_80 : Cond.fieldLink RX8 80 "TowerOfTurnsModel" "above" "[I" ∈ gtbl := gm (i := 1141) (by decide +kernel) rfl
theorem fl_X8_83 : Cond.fieldLink RX8 83 "TowerOfTurnsModel" "wasStack" "[I" ∈ gtbl := gm (i := 1142) (by decide +kernel) rfl
theorem fl_X8_357 : Cond.fieldLink RX8 357 "TowerOfTurnsModel" "wrongAt" "I" ∈ gtbl := gm (i := 1143) (by decide +kernel) rfl
theorem fl_X8_360 : Cond.fieldLink RX8 360 "TowerOfTurnsModel" "breakAt" "I" ∈ gtbl := gm (i := 1144) (by decide +kernel) rfl
theorem ac_boolean : Cond.arrayClass .boolean ∈ gtbl := gm (i := 1222) (by decide +kernel) rfl
theorem cl_X8_93 : Cond.constantLong RX8 93 (7) ∈ gtbl := gm (i := 1227) (by decide +kernel) rfl
theorem cl_X8_95 : Cond.constantLong RX8 95 (4) ∈ gtbl := gm (i := 1231) (by decide +kernel) rfl
theorem cl_X8_97 : Cond.constantLong RX8 97 (40) ∈ gtbl := gm (i := 1232) (by decide +kernel) rfl
theorem cl_X8_114 : Cond.constantLong RX8 114 (5) ∈ gtbl := gm (i := 1272) (by decide +kernel) rfl
theorem cl_X8_129 : Cond.constantLong RX8 129 (9) ∈ gtbl := gm (i := 1292) (by decide +kernel) rfl
theorem cl_X8_131 : Cond.constantLong RX8 131 (99) ∈ gtbl := gm (i := 1293) (by decide +kernel) rfl
theorem cl_X8_137 : Cond.constantLong RX8 137 (2) ∈ gtbl := gm (i := 1302) (by decide +kernel) rfl
theorem cl_X8_146 : Cond.constantLong RX8 146 (8) ∈ gtbl := gm (i := 1311) (by decide +kernel) rfl
theorem cl_X8_148 : Cond.constantLong RX8 148 (999) ∈ gtbl := gm (i := 1312) (by decide +kernel) rfl
theorem cl_X8_153 : Cond.constantLong RX8 153 (255) ∈ gtbl := gm (i := 1317) (by decide +kernel) rfl
theorem cc_X8_8 : Cond.classLink RX8 8 RX8 ∈ gtbl := gm (i := 1326) (by decide +kernel) rfl
theorem ci_X8_328 : Cond.constant RX8 328 (100000) ∈ gtbl := gm (i := 1600) (by decide +kernel) rfl
theorem cl_X8_332 : Cond.constantLong RX8 332 (3) ∈ gtbl := gm (i := 1625) (by decide +kernel) rfl
theorem cl_X8_349 : Cond.constantLong RX8 349 (60) ∈ gtbl := gm (i := 1634) (by decide +kernel) rfl
theorem ci_X8_372 : Cond.constant RX8 372 (1103515245) ∈ gtbl := gm (i := 1696) (by decide +kernel) rfl
theorem cl_X8_383 : Cond.constantLong RX8 383 (12) ∈ gtbl := gm (i := 1713) (by decide +kernel) rfl
theorem cl_X8_385 : Cond.constantLong RX8 385 (16) ∈ gtbl := gm (i := 1714) (by decide +kernel) rfl
theorem cl_L_18 : Cond.constantLong RL 18 (4294967295) ∈ gtbl := gm (i := 1715) (by decide +kernel) rfl
theorem fl_J0_9 : Cond.fieldLink RJ0 9 "java/lang/String" "value" "[B" ∈ gtbl := gm (i := 1716) (by decide +kernel) rfl
theorem fl_J0_15 : Cond.fieldLink RJ0 15 "java/lang/String" "coder" "B" ∈ gtbl := gm (i := 1717) (by decide +kernel) rfl
theorem uws_0 : ∀ w ∈ u_ws RX0 TX0 2, w ∈ gtbl := fun w hw => by
  have h := (goodIn_r (big := lw_tbl) (u_ws RX0 TX0 2) [129, 131] (by decide +kernel) (by decide +kernel)) w hw
  exact List.mem_filter.mpr ⟨h.1, List.all_eq_true.mp (by decide +kernel : (u_ws RX0 TX0 2).all goodWord = true) w hw⟩
theorem uws_1 : ∀ w ∈ u_ws RX1 TX1 8, w ∈ gtbl := fun w hw => by
  have h := (goodIn_r (big := lw_tbl) (u_ws RX1 TX1 8) [202, 204, 206, 208, 210, 212, 214, 216] (by decide +kernel) (by decide +kernel)) w hw
  exact List.mem_filter.mpr ⟨h.1, List.all_eq_true.mp (by decide +kernel : (u_ws RX1 TX1 8).all goodWord = true) w hw⟩
theorem uws_2 : ∀ w ∈ u_ws RX2 TX2 3, w ∈ gtbl := fun w hw => by
  have h := (goodIn_r (big := lw_tbl) (u_ws RX2 TX2 3) [147, 149, 151] (by decide +kernel) (by decide +kernel)) w hw
  exact List.mem_filter.mpr ⟨h.1, List.all_eq_true.mp (by decide +kernel : (u_ws RX2 TX2 3).all goodWord = true) w hw⟩
theorem uws_3 : ∀ w ∈ u_ws RX3 TX3 5, w ∈ gtbl := fun w hw => by
  have h := (goodIn_r (big := lw_tbl) (u_ws RX3 TX3 5) [245, 247, 249, 251, 253] (by decide +kernel) (by decide +kernel)) w hw
  exact List.mem_filter.mpr ⟨h.1, List.all_eq_true.mp (by decide +kernel : (u_ws RX3 TX3 5).all goodWord = true) w hw⟩
theorem uws_4 : ∀ w ∈ u_ws RX4 TX4 2, w ∈ gtbl := fun w hw => by
  have h := (goodIn_r (big := lw_tbl) (u_ws RX4 TX4 2) [324, 326] (by decide +kernel) (by decide +kernel)) w hw
  exact List.mem_filter.mpr ⟨h.1, List.all_eq_true.mp (by decide +kernel : (u_ws RX4 TX4 2).all goodWord = true) w hw⟩
theorem uws_5 : ∀ w ∈ u_ws RX5 TX5 2, w ∈ gtbl := fun w hw => by
  have h := (goodIn_r (big := lw_tbl) (u_ws RX5 TX5 2) [229, 231] (by decide +kernel) (by decide +kernel)) w hw
  exact List.mem_filter.mpr ⟨h.1, List.all_eq_true.mp (by decide +kernel : (u_ws RX5 TX5 2).all goodWord = true) w hw⟩
theorem uws_6 : ∀ w ∈ u_ws RX6 TX6 7, w ∈ gtbl := fun w hw => by
  have h := (goodIn_r (big := lw_tbl) (u_ws RX6 TX6 7) [171, 173, 175, 177, 179, 181, 183] (by decide +kernel) (by decide +kernel)) w hw
  exact List.mem_filter.mpr ⟨h.1, List.all_eq_true.mp (by decide +kernel : (u_ws RX6 TX6 7).all goodWord = true) w hw⟩
theorem uws_7 : ∀ w ∈ u_ws RX7 TX7 11, w ∈ gtbl := fun w hw => by
  have h := (goodIn_r (big := lw_tbl) (u_ws RX7 TX7 11) [269, 271, 273, 275, 277, 279, 281, 283, 285, 287, 289] (by decide +kernel) (by decide +kernel)) w hw
  exact List.mem_filter.mpr ⟨h.1, List.all_eq_true.mp (by decide +kernel : (u_ws RX7 TX7 11).all goodWord = true) w hw⟩
theorem uws_8 : ∀ w ∈ u_ws RX8 TX8 38, w ∈ gtbl := fun w hw => by
  have h := (goodIn_r (big := lw_tbl) (u_ws RX8 TX8 38) [1145, 1147, 1149, 1151, 1153, 1155, 1157, 1159, 1161, 1163, 1165, 1167, 1169, 1171, 1173, 1175, 1177, 1179, 1181, 1183, 1185, 1187, 1189, 1191, 1193, 1195, 1197, 1199, 1201, 1203, 1205, 1207, 1209, 1211, 1213, 1215, 1217, 1219] (by decide +kernel) (by decide +kernel)) w hw
  exact List.mem_filter.mpr ⟨h.1, List.all_eq_true.mp (by decide +kernel : (u_ws RX8 TX8 38).all goodWord = true) w hw⟩
