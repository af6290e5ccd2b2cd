theorem in_places {ws big : List Cond} (ps : List Nat) (hp : ws = ps.filterMap (fun i => big[i]?)) (hg : ws.all goodWord = true) : ∀ w ∈ ws, w ∈ big.filter goodWord := by
  intro w hw
  have h1 := List.all_eq_true.mp hg w hw
  rw [hp] at hw
  obtain ⟨i, -, hi⟩ := List.mem_filterMap.mp hw
  exact List.mem_filter.mpr ⟨List.mem_of_getElem? hi, h1⟩
theorem wi_RL : Cond.initialized RL ∈ TB := TB_mem (List.mem_of_getElem? (i := 59) (by decide +kernel)) rfl
theorem wi_RX11 : Cond.initialized RX11 ∈ TB := TB_mem (List.mem_of_getElem? (i := 60) (by decide +kernel)) rfl
theorem wi_RX5 : Cond.initialized RX5 ∈ TB := TB_mem (List.mem_of_getElem? (i := 61) (by decide +kernel)) rfl
theorem wi_RX8 : Cond.initialized RX8 ∈ TB := TB_mem (List.mem_of_getElem? (i := 62) (by decide +kernel)) rfl
theorem wi_RX1 : Cond.initialized RX1 ∈ TB := TB_mem (List.mem_of_getElem? (i := 63) (by decide +kernel)) rfl
theorem wi_RX3 : Cond.initialized RX3 ∈ TB := TB_mem (List.mem_of_getElem? (i := 64) (by decide +kernel)) rfl
theorem wi_RX10 : Cond.initialized RX10 ∈ TB := TB_mem (List.mem_of_getElem? (i := 65) (by decide +kernel)) rfl
theorem wi_RX0 : Cond.initialized RX0 ∈ TB := TB_mem (List.mem_of_getElem? (i := 66) (by decide +kernel)) rfl
theorem wi_RX6 : Cond.initialized RX6 ∈ TB := TB_mem (List.mem_of_getElem? (i := 67) (by decide +kernel)) rfl
theorem wi_RX9 : Cond.initialized RX9 ∈ TB := TB_mem (List.mem_of_getElem? (i := 68) (by decide +kernel)) rfl
theorem wi_RX4 : Cond.initialized RX4 ∈ TB := TB_mem (List.mem_of_getElem? (i := 69) (by decide +kernel)) rfl
theorem wi_RX2 : Cond.initialized RX2 ∈ TB := TB_mem (List.mem_of_getElem? (i := 70) (by decide +kernel)) rfl
theorem wi_RX7 : Cond.initialized RX7 ∈ TB := TB_mem (List.mem_of_getElem? (i := 71) (by decide +kernel)) rfl
theorem wi_RJ0 : Cond.initialized RJ0 ∈ TB := TB_mem (List.mem_of_getElem? (i := 72) (by decide +kernel)) rfl
theorem wi_RJ1 : Cond.initialized RJ1 ∈ TB := TB_mem (List.mem_of_getElem? (i := 73) (by decide +kernel)) rfl
theorem wi_RJ3 : Cond.initialized RJ3 ∈ TB := TB_mem (List.mem_of_getElem? (i := 74) (by decide +kernel)) rfl
theorem wi_RJ2 : Cond.initialized RJ2 ∈ TB := TB_mem (List.mem_of_getElem? (i := 75) (by decide +kernel)) rfl
theorem wi_RX12 : Cond.initialized RX12 ∈ TB := TB_mem (List.mem_of_getElem? (i := 76) (by decide +kernel)) rfl
theorem wi_RJ9 : Cond.initialized RJ9 ∈ TB := TB_mem (List.mem_of_getElem? (i := 77) (by decide +kernel)) rfl
theorem wi_RJ6 : Cond.initialized RJ6 ∈ TB := TB_mem (List.mem_of_getElem? (i := 78) (by decide +kernel)) rfl
theorem wi_RJ10 : Cond.initialized RJ10 ∈ TB := TB_mem (List.mem_of_getElem? (i := 79) (by decide +kernel)) rfl
theorem wc_yX11_init : Cond.code yX11_init cX11_init 2 none ∈ TB := TB_mem (List.mem_of_getElem? (i := 84) (by decide +kernel)) rfl
theorem wc_yX5_init : Cond.code yX5_init cX5_init 1 none ∈ TB := TB_mem (List.mem_of_getElem? (i := 92) (by decide +kernel)) rfl
theorem wc_yX8_init : Cond.code yX8_init cX8_init 1 none ∈ TB := TB_mem (List.mem_of_getElem? (i := 98) (by decide +kernel)) rfl
theorem wc_yX1_init : Cond.code yX1_init cX1_init 1 none ∈ TB := TB_mem (List.mem_of_getElem? (i := 129) (by decide +kernel)) rfl
theorem wc_yX3_init : Cond.code yX3_init cX3_init 1 none ∈ TB := TB_mem (List.mem_of_getElem? (i := 149) (by decide +kernel)) rfl
theorem wc_yX10_init : Cond.code yX10_init cX10_init 1 none ∈ TB := TB_mem (List.mem_of_getElem? (i := 168) (by decide +kernel)) rfl
theorem wc_yX0_init : Cond.code yX0_init cX0_init 1 none ∈ TB := TB_mem (List.mem_of_getElem? (i := 198) (by decide +kernel)) rfl
theorem wc_yX6_init : Cond.code yX6_init cX6_init 1 none ∈ TB := TB_mem (List.mem_of_getElem? (i := 277) (by decide +kernel)) rfl
theorem wc_yX9_init : Cond.code yX9_init cX9_init 1 none ∈ TB := TB_mem (List.mem_of_getElem? (i := 283) (by decide +kernel)) rfl
theorem wc_yX4_init : Cond.code yX4_init cX4_init 1 none ∈ TB := TB_mem (List.mem_of_getElem? (i := 333) (by decide +kernel)) rfl
theorem wc_yX2_init : Cond.code yX2_init cX2_init 1 none ∈ TB := TB_mem (List.mem_of_getElem? (i := 368) (by decide +kernel)) rfl
theorem wc_yX7_init : Cond.code yX7_init cX7_init 1 none ∈ TB := TB_mem (List.mem_of_getElem? (i := 388) (by decide +kernel)) rfl
theorem wc_yJ0_length_8abf5 : Cond.code yJ0_length_8abf5 cJ0_length_8abf5 1 (some .int) ∈ TB := TB_mem (List.mem_of_getElem? (i := 409) (by decide +kernel)) rfl
theorem wc_yJ0_coder_7d493 : Cond.code yJ0_coder_7d493 cJ0_coder_7d493 1 (some .byte) ∈ TB := TB_mem (List.mem_of_getElem? (i := 413) (by decide +kernel)) rfl
theorem wc_yJ0_charAt_5068e : Cond.code yJ0_charAt_5068e cJ0_charAt_5068e 2 (some .char) ∈ TB := TB_mem (List.mem_of_getElem? (i := 419) (by decide +kernel)) rfl
theorem wc_yJ0_isLatin1_aae02 : Cond.code yJ0_isLatin1_aae02 cJ0_isLatin1_aae02 1 (some .boolean) ∈ TB := TB_mem (List.mem_of_getElem? (i := 423) (by decide +kernel)) rfl
theorem wc_yJ1_charAt_3b067 : Cond.code yJ1_charAt_3b067 cJ1_charAt_3b067 2 (some .char) ∈ TB := TB_mem (List.mem_of_getElem? (i := 426) (by decide +kernel)) rfl
theorem wc_yJ0_checkIndex_df160 : Cond.code yJ0_checkIndex_df160 cJ0_checkIndex_df160 2 none ∈ TB := TB_mem (List.mem_of_getElem? (i := 429) (by decide +kernel)) rfl
theorem wc_yJ3_checkIndex_8e157 : Cond.code yJ3_checkIndex_8e157 cJ3_checkIndex_8e157 3 (some .int) ∈ TB := TB_mem (List.mem_of_getElem? (i := 434) (by decide +kernel)) rfl
theorem wc_yJ2_charAt_3b067 : Cond.code yJ2_charAt_3b067 cJ2_charAt_3b067 2 (some .char) ∈ TB := TB_mem (List.mem_of_getElem? (i := 437) (by decide +kernel)) rfl
theorem wc_yJ2_checkIndex_2214a : Cond.code yJ2_checkIndex_2214a cJ2_checkIndex_2214a 2 none ∈ TB := TB_mem (List.mem_of_getElem? (i := 440) (by decide +kernel)) rfl
theorem wc_yJ2_length_9d52b : Cond.code yJ2_length_9d52b cJ2_length_9d52b 1 (some .int) ∈ TB := TB_mem (List.mem_of_getElem? (i := 443) (by decide +kernel)) rfl
theorem wc_yJ2_getChar_3b067 : Cond.code yJ2_getChar_3b067 cJ2_getChar_3b067 2 (some .char) ∈ TB := TB_mem (List.mem_of_getElem? (i := 447) (by decide +kernel)) rfl
theorem wc_yX9_put : Cond.code yX9_put cX9_put 2 none ∈ TB := TB_mem (List.mem_of_getElem? (i := 457) (by decide +kernel)) rfl
theorem wc_yX6_readTape : Cond.code yX6_readTape cX6_readTape 3 (some .int) ∈ TB := TB_mem (List.mem_of_getElem? (i := 461) (by decide +kernel)) rfl
theorem wc_yX9_cut : Cond.code yX9_cut cX9_cut 4 none ∈ TB := TB_mem (List.mem_of_getElem? (i := 465) (by decide +kernel)) rfl
theorem wc_yX9_byteAt : Cond.code yX9_byteAt cX9_byteAt 2 (some .int) ∈ TB := TB_mem (List.mem_of_getElem? (i := 469) (by decide +kernel)) rfl
theorem wc_yX9_isLetter : Cond.code yX9_isLetter cX9_isLetter 1 (some .boolean) ∈ TB := TB_mem (List.mem_of_getElem? (i := 472) (by decide +kernel)) rfl
theorem wc_yX11_isWithin : Cond.code yX11_isWithin cX11_isWithin 3 (some .boolean) ∈ TB := TB_mem (List.mem_of_getElem? (i := 475) (by decide +kernel)) rfl
theorem wc_yX9_cutWord : Cond.code yX9_cutWord cX9_cutWord 4 (some .int) ∈ TB := TB_mem (List.mem_of_getElem? (i := 479) (by decide +kernel)) rfl
theorem wc_yX9_wordAmong : Cond.code yX9_wordAmong cX9_wordAmong 5 (some .int) ∈ TB := TB_mem (List.mem_of_getElem? (i := 483) (by decide +kernel)) rfl
theorem wc_yX9_note : Cond.code yX9_note cX9_note 4 none ∈ TB := TB_mem (List.mem_of_getElem? (i := 489) (by decide +kernel)) rfl
theorem wc_yX9_isDigit : Cond.code yX9_isDigit cX9_isDigit 1 (some .boolean) ∈ TB := TB_mem (List.mem_of_getElem? (i := 492) (by decide +kernel)) rfl
theorem wc_yX9_cutNumber : Cond.code yX9_cutNumber cX9_cutNumber 5 (some .int) ∈ TB := TB_mem (List.mem_of_getElem? (i := 496) (by decide +kernel)) rfl
theorem wc_yX9_isSign : Cond.code yX9_isSign cX9_isSign 1 (some .boolean) ∈ TB := TB_mem (List.mem_of_getElem? (i := 499) (by decide +kernel)) rfl
theorem wc_yX6_readKeys : Cond.code yX6_readKeys cX6_readKeys 2 (some .boolean) ∈ TB := TB_mem (List.mem_of_getElem? (i := 503) (by decide +kernel)) rfl
theorem wc_yX6_pass : Cond.code yX6_pass cX6_pass 2 (some .boolean) ∈ TB := TB_mem (List.mem_of_getElem? (i := 507) (by decide +kernel)) rfl
theorem wc_yX6_kindNow : Cond.code yX6_kindNow cX6_kindNow 1 (some .int) ∈ TB := TB_mem (List.mem_of_getElem? (i := 511) (by decide +kernel)) rfl
theorem wc_yX6_readOr : Cond.code yX6_readOr cX6_readOr 3 (some .boolean) ∈ TB := TB_mem (List.mem_of_getElem? (i := 515) (by decide +kernel)) rfl
theorem wc_yX6_readAnd : Cond.code yX6_readAnd cX6_readAnd 3 (some .boolean) ∈ TB := TB_mem (List.mem_of_getElem? (i := 519) (by decide +kernel)) rfl
theorem wc_yX6_readNot : Cond.code yX6_readNot cX6_readNot 3 (some .boolean) ∈ TB := TB_mem (List.mem_of_getElem? (i := 523) (by decide +kernel)) rfl
theorem wc_yX6_emit : Cond.code yX6_emit cX6_emit 2 none ∈ TB := TB_mem (List.mem_of_getElem? (i := 527) (by decide +kernel)) rfl
theorem wc_yX6_readSum : Cond.code yX6_readSum cX6_readSum 4 (some .boolean) ∈ TB := TB_mem (List.mem_of_getElem? (i := 531) (by decide +kernel)) rfl
theorem wc_yX6_readTerm : Cond.code yX6_readTerm cX6_readTerm 3 (some .boolean) ∈ TB := TB_mem (List.mem_of_getElem? (i := 535) (by decide +kernel)) rfl
theorem wc_yX6_readOne : Cond.code yX6_readOne cX6_readOne 3 (some .boolean) ∈ TB := TB_mem (List.mem_of_getElem? (i := 539) (by decide +kernel)) rfl
theorem wc_yX10_keep : Cond.code yX10_keep cX10_keep 5 (some .int) ∈ TB := TB_mem (List.mem_of_getElem? (i := 543) (by decide +kernel)) rfl
theorem wc_yX11_man : Cond.code yX11_man cX11_man 4 (some .int) ∈ TB := TB_mem (List.mem_of_getElem? (i := 579) (by decide +kernel)) rfl
theorem wc_yX8_add : Cond.code yX8_add cX8_add 4 (some .int) ∈ TB := TB_mem (List.mem_of_getElem? (i := 583) (by decide +kernel)) rfl
theorem wc_yX11_isSide : Cond.code yX11_isSide cX11_isSide 1 (some .boolean) ∈ TB := TB_mem (List.mem_of_getElem? (i := 586) (by decide +kernel)) rfl
theorem wc_yX11_isPlace : Cond.code yX11_isPlace cX11_isPlace 1 (some .boolean) ∈ TB := TB_mem (List.mem_of_getElem? (i := 590) (by decide +kernel)) rfl
theorem wc_yX11_isSpeed : Cond.code yX11_isSpeed cX11_isSpeed 1 (some .boolean) ∈ TB := TB_mem (List.mem_of_getElem? (i := 593) (by decide +kernel)) rfl
theorem wc_yX11_part : Cond.code yX11_part cX11_part 5 (some .int) ∈ TB := TB_mem (List.mem_of_getElem? (i := 597) (by decide +kernel)) rfl
theorem wc_yX8_has : Cond.code yX8_has cX8_has 2 (some .boolean) ∈ TB := TB_mem (List.mem_of_getElem? (i := 601) (by decide +kernel)) rfl
theorem wc_yX11_isPart : Cond.code yX11_isPart cX11_isPart 1 (some .boolean) ∈ TB := TB_mem (List.mem_of_getElem? (i := 604) (by decide +kernel)) rfl
theorem wc_yX8_offOf : Cond.code yX8_offOf cX8_offOf 4 (some .int) ∈ TB := TB_mem (List.mem_of_getElem? (i := 608) (by decide +kernel)) rfl
theorem wc_yX11_move : Cond.code yX11_move cX11_move 5 (some .int) ∈ TB := TB_mem (List.mem_of_getElem? (i := 612) (by decide +kernel)) rfl
theorem wc_yX11_front : Cond.code yX11_front cX11_front 4 (some .long) ∈ TB := TB_mem (List.mem_of_getElem? (i := 618) (by decide +kernel)) rfl
theorem wc_yX11_isTick : Cond.code yX11_isTick cX11_isTick 1 (some .boolean) ∈ TB := TB_mem (List.mem_of_getElem? (i := 621) (by decide +kernel)) rfl
theorem wc_yX5_lookAs : Cond.code yX5_lookAs cX5_lookAs 2 none ∈ TB := TB_mem (List.mem_of_getElem? (i := 626) (by decide +kernel)) rfl
theorem wc_yX5_lookAsStanding : Cond.code yX5_lookAsStanding cX5_lookAsStanding 4 none ∈ TB := TB_mem (List.mem_of_getElem? (i := 630) (by decide +kernel)) rfl
theorem wc_yX5_frontOf : Cond.code yX5_frontOf cX5_frontOf 5 (some .int) ∈ TB := TB_mem (List.mem_of_getElem? (i := 634) (by decide +kernel)) rfl
theorem wc_yX5_leadOf : Cond.code yX5_leadOf cX5_leadOf 7 (some .int) ∈ TB := TB_mem (List.mem_of_getElem? (i := 638) (by decide +kernel)) rfl
theorem wc_yX10_regard : Cond.code yX10_regard cX10_regard 5 none ∈ TB := TB_mem (List.mem_of_getElem? (i := 642) (by decide +kernel)) rfl
theorem wc_yX10_worth : Cond.code yX10_worth cX10_worth 8 (some .int) ∈ TB := TB_mem (List.mem_of_getElem? (i := 647) (by decide +kernel)) rfl
theorem wc_yX10_ofOne : Cond.code yX10_ofOne cX10_ofOne 2 (some .int) ∈ TB := TB_mem (List.mem_of_getElem? (i := 650) (by decide +kernel)) rfl
theorem wc_yX10_ofTwo : Cond.code yX10_ofTwo cX10_ofTwo 3 (some .int) ∈ TB := TB_mem (List.mem_of_getElem? (i := 653) (by decide +kernel)) rfl
theorem wc_yX5_whereIs : Cond.code yX5_whereIs cX5_whereIs 4 (some .int) ∈ TB := TB_mem (List.mem_of_getElem? (i := 657) (by decide +kernel)) rfl
theorem wc_yX11_footIfNone : Cond.code yX11_footIfNone cX11_footIfNone 1 (some .int) ∈ TB := TB_mem (List.mem_of_getElem? (i := 661) (by decide +kernel)) rfl
theorem wc_yX11_camera : Cond.code yX11_camera cX11_camera 4 (some .int) ∈ TB := TB_mem (List.mem_of_getElem? (i := 666) (by decide +kernel)) rfl
theorem wc_yX1_add : Cond.code yX1_add cX1_add 4 (some .int) ∈ TB := TB_mem (List.mem_of_getElem? (i := 670) (by decide +kernel)) rfl
theorem wc_yX11_frame : Cond.code yX11_frame cX11_frame 3 (some .int) ∈ TB := TB_mem (List.mem_of_getElem? (i := 675) (by decide +kernel)) rfl
theorem wc_yX1_has : Cond.code yX1_has cX1_has 2 (some .boolean) ∈ TB := TB_mem (List.mem_of_getElem? (i := 679) (by decide +kernel)) rfl
theorem wc_yX1_frameFor : Cond.code yX1_frameFor cX1_frameFor 5 (some .int) ∈ TB := TB_mem (List.mem_of_getElem? (i := 683) (by decide +kernel)) rfl
theorem wc_yX11_sees : Cond.code yX11_sees cX11_sees 3 (some .long) ∈ TB := TB_mem (List.mem_of_getElem? (i := 687) (by decide +kernel)) rfl
theorem wc_yX1_seenAt : Cond.code yX1_seenAt cX1_seenAt 3 (some .int) ∈ TB := TB_mem (List.mem_of_getElem? (i := 693) (by decide +kernel)) rfl
theorem wc_yX11_crosser : Cond.code yX11_crosser cX11_crosser 3 (some .int) ∈ TB := TB_mem (List.mem_of_getElem? (i := 697) (by decide +kernel)) rfl
theorem wc_yX3_add : Cond.code yX3_add cX3_add 3 (some .int) ∈ TB := TB_mem (List.mem_of_getElem? (i := 701) (by decide +kernel)) rfl
theorem wc_yX11_feed : Cond.code yX11_feed cX11_feed 5 (some .int) ∈ TB := TB_mem (List.mem_of_getElem? (i := 706) (by decide +kernel)) rfl
theorem wc_yX11_text : Cond.code yX11_text cX11_text 2 (some .int) ∈ TB := TB_mem (List.mem_of_getElem? (i := 710) (by decide +kernel)) rfl
theorem wc_yX11_force : Cond.code yX11_force cX11_force 3 (some .int) ∈ TB := TB_mem (List.mem_of_getElem? (i := 714) (by decide +kernel)) rfl
theorem wc_yX10_has : Cond.code yX10_has cX10_has 2 (some .boolean) ∈ TB := TB_mem (List.mem_of_getElem? (i := 718) (by decide +kernel)) rfl
theorem wc_yX11_says : Cond.code yX11_says cX11_says 5 (some .long) ∈ TB := TB_mem (List.mem_of_getElem? (i := 722) (by decide +kernel)) rfl
theorem wc_yX5_worthOf : Cond.code yX5_worthOf cX5_worthOf 5 (some .int) ∈ TB := TB_mem (List.mem_of_getElem? (i := 726) (by decide +kernel)) rfl
theorem wc_yX11_width : Cond.code yX11_width cX11_width 3 (some .int) ∈ TB := TB_mem (List.mem_of_getElem? (i := 730) (by decide +kernel)) rfl
theorem wc_yX11_isWidth : Cond.code yX11_isWidth cX11_isWidth 1 (some .boolean) ∈ TB := TB_mem (List.mem_of_getElem? (i := 733) (by decide +kernel)) rfl
theorem wc_yX11_call : Cond.code yX11_call cX11_call 7 (some .int) ∈ TB := TB_mem (List.mem_of_getElem? (i := 737) (by decide +kernel)) rfl
theorem wc_yX3_has : Cond.code yX3_has cX3_has 2 (some .boolean) ∈ TB := TB_mem (List.mem_of_getElem? (i := 741) (by decide +kernel)) rfl
theorem wc_yX0_add : Cond.code yX0_add cX0_add 7 (some .int) ∈ TB := TB_mem (List.mem_of_getElem? (i := 745) (by decide +kernel)) rfl
theorem wc_yX11_told : Cond.code yX11_told cX11_told 4 (some .long) ∈ TB := TB_mem (List.mem_of_getElem? (i := 749) (by decide +kernel)) rfl
theorem wc_yX0_has : Cond.code yX0_has cX0_has 2 (some .boolean) ∈ TB := TB_mem (List.mem_of_getElem? (i := 753) (by decide +kernel)) rfl
theorem wc_yX5_marginOf : Cond.code yX5_marginOf cX5_marginOf 9 (some .int) ∈ TB := TB_mem (List.mem_of_getElem? (i := 757) (by decide +kernel)) rfl
theorem wc_yX11_isUnder : Cond.code yX11_isUnder cX11_isUnder 4 (some .boolean) ∈ TB := TB_mem (List.mem_of_getElem? (i := 760) (by decide +kernel)) rfl
theorem wc_yX5_leanOn : Cond.code yX5_leanOn cX5_leanOn 4 (some .int) ∈ TB := TB_mem (List.mem_of_getElem? (i := 769) (by decide +kernel)) rfl
theorem wc_yX5_bandOf : Cond.code yX5_bandOf cX5_bandOf 4 (some .int) ∈ TB := TB_mem (List.mem_of_getElem? (i := 773) (by decide +kernel)) rfl
theorem wc_yX5_ruledOn : Cond.code yX5_ruledOn cX5_ruledOn 4 (some .int) ∈ TB := TB_mem (List.mem_of_getElem? (i := 777) (by decide +kernel)) rfl
theorem wc_yJ9_min_7cf53 : Cond.code yJ9_min_7cf53 cJ9_min_7cf53 2 (some .int) ∈ TB := TB_mem (List.mem_of_getElem? (i := 782) (by decide +kernel)) rfl
theorem wc_yJ9_max_7cf53 : Cond.code yJ9_max_7cf53 cJ9_max_7cf53 2 (some .int) ∈ TB := TB_mem (List.mem_of_getElem? (i := 785) (by decide +kernel)) rfl
theorem wc_yX5_isOffside : Cond.code yX5_isOffside cX5_isOffside 4 (some .boolean) ∈ TB := TB_mem (List.mem_of_getElem? (i := 789) (by decide +kernel)) rfl
theorem wc_yX5_waysOf : Cond.code yX5_waysOf cX5_waysOf 8 (some .int) ∈ TB := TB_mem (List.mem_of_getElem? (i := 795) (by decide +kernel)) rfl
theorem wc_yX5_spreadOf : Cond.code yX5_spreadOf cX5_spreadOf 3 (some .int) ∈ TB := TB_mem (List.mem_of_getElem? (i := 799) (by decide +kernel)) rfl
theorem wc_yX5_pairsOf : Cond.code yX5_pairsOf cX5_pairsOf 3 (some .int) ∈ TB := TB_mem (List.mem_of_getElem? (i := 803) (by decide +kernel)) rfl
theorem wc_yX5_frameErrorOf : Cond.code yX5_frameErrorOf cX5_frameErrorOf 4 (some .int) ∈ TB := TB_mem (List.mem_of_getElem? (i := 807) (by decide +kernel)) rfl
theorem wc_yX5_trueMargin : Cond.code yX5_trueMargin cX5_trueMargin 3 (some .int) ∈ TB := TB_mem (List.mem_of_getElem? (i := 811) (by decide +kernel)) rfl
theorem wc_yX5_turnOf : Cond.code yX5_turnOf cX5_turnOf 8 (some .int) ∈ TB := TB_mem (List.mem_of_getElem? (i := 815) (by decide +kernel)) rfl
theorem wc_yX10_mindsWidth : Cond.code yX10_mindsWidth cX10_mindsWidth 4 (some .boolean) ∈ TB := TB_mem (List.mem_of_getElem? (i := 819) (by decide +kernel)) rfl
theorem wc_yX11_offside : Cond.code yX11_offside cX11_offside 1 (some .int) ∈ TB := TB_mem (List.mem_of_getElem? (i := 824) (by decide +kernel)) rfl
theorem wc_yX0_all : Cond.code yX0_all cX0_all 1 (some .int) ∈ TB := TB_mem (List.mem_of_getElem? (i := 828) (by decide +kernel)) rfl
theorem wc_yX5_offsideAmong : Cond.code yX5_offsideAmong cX5_offsideAmong 4 (some .int) ∈ TB := TB_mem (List.mem_of_getElem? (i := 832) (by decide +kernel)) rfl
theorem wc_yX11_wrong : Cond.code yX11_wrong cX11_wrong 6 (some .int) ∈ TB := TB_mem (List.mem_of_getElem? (i := 837) (by decide +kernel)) rfl
theorem wc_yX11_isSheet : Cond.code yX11_isSheet cX11_isSheet 1 (some .boolean) ∈ TB := TB_mem (List.mem_of_getElem? (i := 840) (by decide +kernel)) rfl
theorem wc_yX0_hasAll : Cond.code yX0_hasAll cX0_hasAll 2 (some .boolean) ∈ TB := TB_mem (List.mem_of_getElem? (i := 844) (by decide +kernel)) rfl
theorem wc_yX7_refusalAsWidths : Cond.code yX7_refusalAsWidths cX7_refusalAsWidths 3 (some .int) ∈ TB := TB_mem (List.mem_of_getElem? (i := 849) (by decide +kernel)) rfl
theorem wc_yX7_isMissing : Cond.code yX7_isMissing cX7_isMissing 2 (some .boolean) ∈ TB := TB_mem (List.mem_of_getElem? (i := 853) (by decide +kernel)) rfl
theorem wc_yX7_itemOf : Cond.code yX7_itemOf cX7_itemOf 3 (some .int) ∈ TB := TB_mem (List.mem_of_getElem? (i := 858) (by decide +kernel)) rfl
theorem wc_yX7_has : Cond.code yX7_has cX7_has 3 (some .boolean) ∈ TB := TB_mem (List.mem_of_getElem? (i := 862) (by decide +kernel)) rfl
theorem wc_yX5_weigh : Cond.code yX5_weigh cX5_weigh 5 none ∈ TB := TB_mem (List.mem_of_getElem? (i := 869) (by decide +kernel)) rfl
theorem wc_yX11_best : Cond.code yX11_best cX11_best 10 (some .int) ∈ TB := TB_mem (List.mem_of_getElem? (i := 873) (by decide +kernel)) rfl
theorem wc_yX11_match : Cond.code yX11_match cX11_match 4 (some .int) ∈ TB := TB_mem (List.mem_of_getElem? (i := 877) (by decide +kernel)) rfl
theorem wc_yX4_add : Cond.code yX4_add cX4_add 4 (some .int) ∈ TB := TB_mem (List.mem_of_getElem? (i := 882) (by decide +kernel)) rfl
theorem wc_yX11_table : Cond.code yX11_table cX11_table 4 (some .int) ∈ TB := TB_mem (List.mem_of_getElem? (i := 886) (by decide +kernel)) rfl
theorem wc_yX4_playAll : Cond.code yX4_playAll cX4_playAll 7 none ∈ TB := TB_mem (List.mem_of_getElem? (i := 890) (by decide +kernel)) rfl
theorem wc_yX0_attackedBy : Cond.code yX0_attackedBy cX0_attackedBy 5 (some .int) ∈ TB := TB_mem (List.mem_of_getElem? (i := 894) (by decide +kernel)) rfl
theorem wc_yJ6_bitCount_0f7a4 : Cond.code yJ6_bitCount_0f7a4 cJ6_bitCount_0f7a4 1 (some .int) ∈ TB := TB_mem (List.mem_of_getElem? (i := 897) (by decide +kernel)) rfl
theorem wc_yX4_score : Cond.code yX4_score cX4_score 4 none ∈ TB := TB_mem (List.mem_of_getElem? (i := 904) (by decide +kernel)) rfl
theorem wc_yX4_rankOf : Cond.code yX4_rankOf cX4_rankOf 4 (some .int) ∈ TB := TB_mem (List.mem_of_getElem? (i := 908) (by decide +kernel)) rfl
theorem wc_yX4_isAbove : Cond.code yX4_isAbove cX4_isAbove 5 (some .boolean) ∈ TB := TB_mem (List.mem_of_getElem? (i := 912) (by decide +kernel)) rfl
theorem wc_yX11_season : Cond.code yX11_season cX11_season 7 (some .int) ∈ TB := TB_mem (List.mem_of_getElem? (i := 916) (by decide +kernel)) rfl
theorem wc_yX4_allRanks : Cond.code yX4_allRanks cX4_allRanks 3 (some .int) ∈ TB := TB_mem (List.mem_of_getElem? (i := 920) (by decide +kernel)) rfl
theorem wc_yX11_stand : Cond.code yX11_stand cX11_stand 4 (some .int) ∈ TB := TB_mem (List.mem_of_getElem? (i := 925) (by decide +kernel)) rfl
theorem wc_yX11_shown : Cond.code yX11_shown cX11_shown 3 (some .int) ∈ TB := TB_mem (List.mem_of_getElem? (i := 931) (by decide +kernel)) rfl
theorem wc_yX2_add : Cond.code yX2_add cX2_add 3 (some .int) ∈ TB := TB_mem (List.mem_of_getElem? (i := 935) (by decide +kernel)) rfl
theorem wc_yX11_split : Cond.code yX11_split cX11_split 1 (some .int) ∈ TB := TB_mem (List.mem_of_getElem? (i := 940) (by decide +kernel)) rfl
theorem wc_yX2_fewestMarks : Cond.code yX2_fewestMarks cX2_fewestMarks 4 (some .int) ∈ TB := TB_mem (List.mem_of_getElem? (i := 944) (by decide +kernel)) rfl
theorem wc_yX2_isSplitBy : Cond.code yX2_isSplitBy cX2_isSplitBy 4 (some .boolean) ∈ TB := TB_mem (List.mem_of_getElem? (i := 949) (by decide +kernel)) rfl
theorem wc_yX11_image : Cond.code yX11_image cX11_image 1 (some .int) ∈ TB := TB_mem (List.mem_of_getElem? (i := 953) (by decide +kernel)) rfl
theorem wc_yX8_takeMenOf : Cond.code yX8_takeMenOf cX8_takeMenOf 4 none ∈ TB := TB_mem (List.mem_of_getElem? (i := 957) (by decide +kernel)) rfl
theorem wc_yX11_back : Cond.code yX11_back cX11_back 1 (some .int) ∈ TB := TB_mem (List.mem_of_getElem? (i := 961) (by decide +kernel)) rfl
theorem wc_yX11_count : Cond.code yX11_count cX11_count 2 (some .int) ∈ TB := TB_mem (List.mem_of_getElem? (i := 965) (by decide +kernel)) rfl
theorem wc_yX11_sheet : Cond.code yX11_sheet cX11_sheet 4 (some .int) ∈ TB := TB_mem (List.mem_of_getElem? (i := 969) (by decide +kernel)) rfl
theorem wc_yX7_layOut : Cond.code yX7_layOut cX7_layOut 5 none ∈ TB := TB_mem (List.mem_of_getElem? (i := 973) (by decide +kernel)) rfl
theorem wc_yX11_cell : Cond.code yX11_cell cX11_cell 4 (some .int) ∈ TB := TB_mem (List.mem_of_getElem? (i := 977) (by decide +kernel)) rfl
theorem wc_yX7_put : Cond.code yX7_put cX7_put 5 none ∈ TB := TB_mem (List.mem_of_getElem? (i := 982) (by decide +kernel)) rfl
theorem wc_yX11_copy : Cond.code yX11_copy cX11_copy 6 (some .int) ∈ TB := TB_mem (List.mem_of_getElem? (i := 986) (by decide +kernel)) rfl
theorem wc_yX7_hasRun : Cond.code yX7_hasRun cX7_hasRun 4 (some .boolean) ∈ TB := TB_mem (List.mem_of_getElem? (i := 990) (by decide +kernel)) rfl
theorem wc_yX11_men : Cond.code yX11_men cX11_men 9 (some .int) ∈ TB := TB_mem (List.mem_of_getElem? (i := 997) (by decide +kernel)) rfl
theorem wc_yX11_taken : Cond.code yX11_taken cX11_taken 3 (some .int) ∈ TB := TB_mem (List.mem_of_getElem? (i := 1001) (by decide +kernel)) rfl
theorem wc_yX12_init : Cond.code yX12_init cX12_init 1 none ∈ TB := TB_mem (List.mem_of_getElem? (i := 1007) (by decide +kernel)) rfl
theorem wc_yX12_spell : Cond.code yX12_spell cX12_spell 5 none ∈ TB := TB_mem (List.mem_of_getElem? (i := 1013) (by decide +kernel)) rfl
theorem wc_yX12_man : Cond.code yX12_man cX12_man 5 (some .int) ∈ TB := TB_mem (List.mem_of_getElem? (i := 1213) (by decide +kernel)) rfl
theorem wc_yX12_in : Cond.code yX12_in cX12_in 6 (some .boolean) ∈ TB := TB_mem (List.mem_of_getElem? (i := 1217) (by decide +kernel)) rfl
theorem wc_yX12_part : Cond.code yX12_part cX12_part 5 (some .int) ∈ TB := TB_mem (List.mem_of_getElem? (i := 1224) (by decide +kernel)) rfl
theorem wc_yX12_isMan : Cond.code yX12_isMan cX12_isMan 2 (some .boolean) ∈ TB := TB_mem (List.mem_of_getElem? (i := 1228) (by decide +kernel)) rfl
theorem wc_yX12_move : Cond.code yX12_move cX12_move 5 (some .int) ∈ TB := TB_mem (List.mem_of_getElem? (i := 1234) (by decide +kernel)) rfl
theorem wc_yX12_feed : Cond.code yX12_feed cX12_feed 5 (some .int) ∈ TB := TB_mem (List.mem_of_getElem? (i := 1238) (by decide +kernel)) rfl
theorem wc_yX12_text : Cond.code yX12_text cX12_text 2 (some .int) ∈ TB := TB_mem (List.mem_of_getElem? (i := 1243) (by decide +kernel)) rfl
theorem wc_yX12_read : Cond.code yX12_read cX12_read 9 (some .int) ∈ TB := TB_mem (List.mem_of_getElem? (i := 1247) (by decide +kernel)) rfl
theorem wc_yX12_next : Cond.code yX12_next cX12_next 3 none ∈ TB := TB_mem (List.mem_of_getElem? (i := 1251) (by decide +kernel)) rfl
theorem wc_yX12_byteAt : Cond.code yX12_byteAt cX12_byteAt 2 (some .int) ∈ TB := TB_mem (List.mem_of_getElem? (i := 1255) (by decide +kernel)) rfl
theorem wc_yX12_section : Cond.code yX12_section cX12_section 4 (some .int) ∈ TB := TB_mem (List.mem_of_getElem? (i := 1268) (by decide +kernel)) rfl
theorem wc_yX12_isWord : Cond.code yX12_isWord cX12_isWord 3 (some .boolean) ∈ TB := TB_mem (List.mem_of_getElem? (i := 1272) (by decide +kernel)) rfl
theorem wc_yX12_fail : Cond.code yX12_fail cX12_fail 1 none ∈ TB := TB_mem (List.mem_of_getElem? (i := 1276) (by decide +kernel)) rfl
theorem wc_yX12_either : Cond.code yX12_either cX12_either 3 (some .int) ∈ TB := TB_mem (List.mem_of_getElem? (i := 1280) (by decide +kernel)) rfl
theorem wc_yX12_both : Cond.code yX12_both cX12_both 3 (some .int) ∈ TB := TB_mem (List.mem_of_getElem? (i := 1284) (by decide +kernel)) rfl
theorem wc_yX12_not : Cond.code yX12_not cX12_not 4 (some .int) ∈ TB := TB_mem (List.mem_of_getElem? (i := 1288) (by decide +kernel)) rfl
theorem wc_yX12_opens : Cond.code yX12_opens cX12_opens 1 (some .boolean) ∈ TB := TB_mem (List.mem_of_getElem? (i := 1293) (by decide +kernel)) rfl
theorem wc_yX12_added : Cond.code yX12_added cX12_added 4 (some .int) ∈ TB := TB_mem (List.mem_of_getElem? (i := 1297) (by decide +kernel)) rfl
theorem wc_yX12_term : Cond.code yX12_term cX12_term 2 (some .int) ∈ TB := TB_mem (List.mem_of_getElem? (i := 1301) (by decide +kernel)) rfl
theorem wc_yX12_one : Cond.code yX12_one cX12_one 2 (some .int) ∈ TB := TB_mem (List.mem_of_getElem? (i := 1305) (by decide +kernel)) rfl
theorem wc_yX12_isSign : Cond.code yX12_isSign cX12_isSign 2 (some .boolean) ∈ TB := TB_mem (List.mem_of_getElem? (i := 1309) (by decide +kernel)) rfl
theorem wc_yX12_name : Cond.code yX12_name cX12_name 1 (some .int) ∈ TB := TB_mem (List.mem_of_getElem? (i := 1313) (by decide +kernel)) rfl
theorem wc_yX12_force : Cond.code yX12_force cX12_force 3 (some .int) ∈ TB := TB_mem (List.mem_of_getElem? (i := 1329) (by decide +kernel)) rfl
theorem wc_yX12_says : Cond.code yX12_says cX12_says 5 (some .long) ∈ TB := TB_mem (List.mem_of_getElem? (i := 1333) (by decide +kernel)) rfl
theorem wc_yX12_isTick : Cond.code yX12_isTick cX12_isTick 1 (some .boolean) ∈ TB := TB_mem (List.mem_of_getElem? (i := 1336) (by decide +kernel)) rfl
theorem wc_yX12_width : Cond.code yX12_width cX12_width 3 (some .int) ∈ TB := TB_mem (List.mem_of_getElem? (i := 1343) (by decide +kernel)) rfl
theorem wc_yX12_isWidth : Cond.code yX12_isWidth cX12_isWidth 1 (some .boolean) ∈ TB := TB_mem (List.mem_of_getElem? (i := 1346) (by decide +kernel)) rfl
theorem wc_yX12_front : Cond.code yX12_front cX12_front 4 (some .long) ∈ TB := TB_mem (List.mem_of_getElem? (i := 1351) (by decide +kernel)) rfl
theorem wc_yX12_frontOf : Cond.code yX12_frontOf cX12_frontOf 4 (some .int) ∈ TB := TB_mem (List.mem_of_getElem? (i := 1355) (by decide +kernel)) rfl
theorem wc_yX12_foremost : Cond.code yX12_foremost cX12_foremost 5 (some .int) ∈ TB := TB_mem (List.mem_of_getElem? (i := 1359) (by decide +kernel)) rfl
theorem wc_yX12_whereOf : Cond.code yX12_whereOf cX12_whereOf 3 (some .int) ∈ TB := TB_mem (List.mem_of_getElem? (i := 1363) (by decide +kernel)) rfl
theorem wc_yX12_camera : Cond.code yX12_camera cX12_camera 4 (some .int) ∈ TB := TB_mem (List.mem_of_getElem? (i := 1367) (by decide +kernel)) rfl
theorem wc_yX12_frame : Cond.code yX12_frame cX12_frame 3 (some .int) ∈ TB := TB_mem (List.mem_of_getElem? (i := 1375) (by decide +kernel)) rfl
theorem wc_yX12_frameOf : Cond.code yX12_frameOf cX12_frameOf 3 (some .int) ∈ TB := TB_mem (List.mem_of_getElem? (i := 1379) (by decide +kernel)) rfl
theorem wc_yX12_sees : Cond.code yX12_sees cX12_sees 3 (some .long) ∈ TB := TB_mem (List.mem_of_getElem? (i := 1383) (by decide +kernel)) rfl
theorem wc_yX12_seen : Cond.code yX12_seen cX12_seen 3 (some .int) ∈ TB := TB_mem (List.mem_of_getElem? (i := 1389) (by decide +kernel)) rfl
theorem wc_yX12_crosser : Cond.code yX12_crosser cX12_crosser 3 (some .int) ∈ TB := TB_mem (List.mem_of_getElem? (i := 1393) (by decide +kernel)) rfl
theorem wc_yX12_call : Cond.code yX12_call cX12_call 6 (some .int) ∈ TB := TB_mem (List.mem_of_getElem? (i := 1398) (by decide +kernel)) rfl
theorem wc_yX12_told : Cond.code yX12_told cX12_told 5 (some .long) ∈ TB := TB_mem (List.mem_of_getElem? (i := 1403) (by decide +kernel)) rfl
theorem wc_yX12_isCall : Cond.code yX12_isCall cX12_isCall 2 (some .boolean) ∈ TB := TB_mem (List.mem_of_getElem? (i := 1407) (by decide +kernel)) rfl
theorem wc_yX12_spreadOf : Cond.code yX12_spreadOf cX12_spreadOf 2 (some .int) ∈ TB := TB_mem (List.mem_of_getElem? (i := 1411) (by decide +kernel)) rfl
theorem wc_yX12_marginBy : Cond.code yX12_marginBy cX12_marginBy 5 (some .int) ∈ TB := TB_mem (List.mem_of_getElem? (i := 1415) (by decide +kernel)) rfl
theorem wc_yX12_trueMargin : Cond.code yX12_trueMargin cX12_trueMargin 3 (some .int) ∈ TB := TB_mem (List.mem_of_getElem? (i := 1419) (by decide +kernel)) rfl
theorem wc_yX12_crossed : Cond.code yX12_crossed cX12_crossed 7 (some .int) ∈ TB := TB_mem (List.mem_of_getElem? (i := 1423) (by decide +kernel)) rfl
theorem wc_yX12_bandBy : Cond.code yX12_bandBy cX12_bandBy 3 (some .int) ∈ TB := TB_mem (List.mem_of_getElem? (i := 1427) (by decide +kernel)) rfl
theorem wc_yX12_nearOf : Cond.code yX12_nearOf cX12_nearOf 3 (some .int) ∈ TB := TB_mem (List.mem_of_getElem? (i := 1431) (by decide +kernel)) rfl
theorem wc_yX12_isAhead : Cond.code yX12_isAhead cX12_isAhead 3 (some .boolean) ∈ TB := TB_mem (List.mem_of_getElem? (i := 1435) (by decide +kernel)) rfl
theorem wc_yX12_isOffside : Cond.code yX12_isOffside cX12_isOffside 3 (some .boolean) ∈ TB := TB_mem (List.mem_of_getElem? (i := 1439) (by decide +kernel)) rfl
theorem wc_yX12_waysOf : Cond.code yX12_waysOf cX12_waysOf 8 (some .int) ∈ TB := TB_mem (List.mem_of_getElem? (i := 1443) (by decide +kernel)) rfl
theorem wc_yX12_turnsOf : Cond.code yX12_turnsOf cX12_turnsOf 5 (some .int) ∈ TB := TB_mem (List.mem_of_getElem? (i := 1447) (by decide +kernel)) rfl
theorem wc_yX12_offside : Cond.code yX12_offside cX12_offside 1 (some .int) ∈ TB := TB_mem (List.mem_of_getElem? (i := 1451) (by decide +kernel)) rfl
theorem wc_yX12_all : Cond.code yX12_all cX12_all 1 (some .int) ∈ TB := TB_mem (List.mem_of_getElem? (i := 1455) (by decide +kernel)) rfl
theorem wc_yX12_offsides : Cond.code yX12_offsides cX12_offsides 4 (some .int) ∈ TB := TB_mem (List.mem_of_getElem? (i := 1459) (by decide +kernel)) rfl
theorem wc_yX12_wrong : Cond.code yX12_wrong cX12_wrong 6 (some .int) ∈ TB := TB_mem (List.mem_of_getElem? (i := 1463) (by decide +kernel)) rfl
theorem wc_yX12_isSheet : Cond.code yX12_isSheet cX12_isSheet 1 (some .boolean) ∈ TB := TB_mem (List.mem_of_getElem? (i := 1466) (by decide +kernel)) rfl
theorem wc_yX12_widths : Cond.code yX12_widths cX12_widths 3 (some .int) ∈ TB := TB_mem (List.mem_of_getElem? (i := 1470) (by decide +kernel)) rfl
theorem wc_yX12_wrongs : Cond.code yX12_wrongs cX12_wrongs 9 (some .int) ∈ TB := TB_mem (List.mem_of_getElem? (i := 1474) (by decide +kernel)) rfl
theorem wc_yX12_best : Cond.code yX12_best cX12_best 10 (some .int) ∈ TB := TB_mem (List.mem_of_getElem? (i := 1478) (by decide +kernel)) rfl
theorem wc_yX12_match : Cond.code yX12_match cX12_match 4 (some .int) ∈ TB := TB_mem (List.mem_of_getElem? (i := 1482) (by decide +kernel)) rfl
theorem wc_yX12_table : Cond.code yX12_table cX12_table 4 (some .int) ∈ TB := TB_mem (List.mem_of_getElem? (i := 1486) (by decide +kernel)) rfl
theorem wc_yX12_tables : Cond.code yX12_tables cX12_tables 9 none ∈ TB := TB_mem (List.mem_of_getElem? (i := 1490) (by decide +kernel)) rfl
theorem wc_yX12_counts : Cond.code yX12_counts cX12_counts 4 none ∈ TB := TB_mem (List.mem_of_getElem? (i := 1494) (by decide +kernel)) rfl
theorem wc_yX12_rankOf : Cond.code yX12_rankOf cX12_rankOf 4 (some .int) ∈ TB := TB_mem (List.mem_of_getElem? (i := 1498) (by decide +kernel)) rfl
theorem wc_yX12_isAbove : Cond.code yX12_isAbove cX12_isAbove 5 (some .boolean) ∈ TB := TB_mem (List.mem_of_getElem? (i := 1502) (by decide +kernel)) rfl
theorem wc_yX12_season : Cond.code yX12_season cX12_season 7 (some .int) ∈ TB := TB_mem (List.mem_of_getElem? (i := 1506) (by decide +kernel)) rfl
theorem wc_yX12_ranks : Cond.code yX12_ranks cX12_ranks 4 (some .int) ∈ TB := TB_mem (List.mem_of_getElem? (i := 1510) (by decide +kernel)) rfl
theorem wc_yX12_stand : Cond.code yX12_stand cX12_stand 7 (some .int) ∈ TB := TB_mem (List.mem_of_getElem? (i := 1514) (by decide +kernel)) rfl
theorem wc_yX12_shown : Cond.code yX12_shown cX12_shown 3 (some .int) ∈ TB := TB_mem (List.mem_of_getElem? (i := 1518) (by decide +kernel)) rfl
theorem wc_yX12_split : Cond.code yX12_split cX12_split 6 (some .int) ∈ TB := TB_mem (List.mem_of_getElem? (i := 1523) (by decide +kernel)) rfl
theorem wc_yX12_bitsOf : Cond.code yX12_bitsOf cX12_bitsOf 3 (some .int) ∈ TB := TB_mem (List.mem_of_getElem? (i := 1526) (by decide +kernel)) rfl
theorem wc_yX12_image : Cond.code yX12_image cX12_image 3 (some .int) ∈ TB := TB_mem (List.mem_of_getElem? (i := 1530) (by decide +kernel)) rfl
theorem wc_yX12_back : Cond.code yX12_back cX12_back 3 (some .int) ∈ TB := TB_mem (List.mem_of_getElem? (i := 1534) (by decide +kernel)) rfl
theorem wc_yX12_count : Cond.code yX12_count cX12_count 2 (some .int) ∈ TB := TB_mem (List.mem_of_getElem? (i := 1538) (by decide +kernel)) rfl
theorem wc_yX12_sheet : Cond.code yX12_sheet cX12_sheet 5 (some .int) ∈ TB := TB_mem (List.mem_of_getElem? (i := 1542) (by decide +kernel)) rfl
theorem wc_yX12_cell : Cond.code yX12_cell cX12_cell 4 (some .int) ∈ TB := TB_mem (List.mem_of_getElem? (i := 1546) (by decide +kernel)) rfl
theorem wc_yX12_copy : Cond.code yX12_copy cX12_copy 9 (some .int) ∈ TB := TB_mem (List.mem_of_getElem? (i := 1550) (by decide +kernel)) rfl
theorem wc_yX12_men : Cond.code yX12_men cX12_men 8 (some .int) ∈ TB := TB_mem (List.mem_of_getElem? (i := 1554) (by decide +kernel)) rfl
theorem wc_yX12_taken : Cond.code yX12_taken cX12_taken 4 (some .int) ∈ TB := TB_mem (List.mem_of_getElem? (i := 1559) (by decide +kernel)) rfl
theorem wc_yX12_over : Cond.code yX12_over cX12_over 1 (some .int) ∈ TB := TB_mem (List.mem_of_getElem? (i := 1562) (by decide +kernel)) rfl
theorem wn_yX11_init : Cond.instanceMethod yX11_init ∈ TB := TB_mem (List.mem_of_getElem? (i := 83) (by decide +kernel)) rfl
theorem wn_yX5_init : Cond.instanceMethod yX5_init ∈ TB := TB_mem (List.mem_of_getElem? (i := 91) (by decide +kernel)) rfl
theorem wn_yX8_init : Cond.instanceMethod yX8_init ∈ TB := TB_mem (List.mem_of_getElem? (i := 97) (by decide +kernel)) rfl
theorem wn_yX1_init : Cond.instanceMethod yX1_init ∈ TB := TB_mem (List.mem_of_getElem? (i := 128) (by decide +kernel)) rfl
theorem wn_yX3_init : Cond.instanceMethod yX3_init ∈ TB := TB_mem (List.mem_of_getElem? (i := 148) (by decide +kernel)) rfl
theorem wn_yX10_init : Cond.instanceMethod yX10_init ∈ TB := TB_mem (List.mem_of_getElem? (i := 167) (by decide +kernel)) rfl
theorem wn_yX0_init : Cond.instanceMethod yX0_init ∈ TB := TB_mem (List.mem_of_getElem? (i := 197) (by decide +kernel)) rfl
theorem wn_yX6_init : Cond.instanceMethod yX6_init ∈ TB := TB_mem (List.mem_of_getElem? (i := 276) (by decide +kernel)) rfl
theorem wn_yX9_init : Cond.instanceMethod yX9_init ∈ TB := TB_mem (List.mem_of_getElem? (i := 282) (by decide +kernel)) rfl
theorem wn_yX4_init : Cond.instanceMethod yX4_init ∈ TB := TB_mem (List.mem_of_getElem? (i := 332) (by decide +kernel)) rfl
theorem wn_yX2_init : Cond.instanceMethod yX2_init ∈ TB := TB_mem (List.mem_of_getElem? (i := 367) (by decide +kernel)) rfl
theorem wn_yX7_init : Cond.instanceMethod yX7_init ∈ TB := TB_mem (List.mem_of_getElem? (i := 387) (by decide +kernel)) rfl
theorem wn_yJ0_length_8abf5 : Cond.instanceMethod yJ0_length_8abf5 ∈ TB := TB_mem (List.mem_of_getElem? (i := 407) (by decide +kernel)) rfl
theorem wn_yJ0_coder_7d493 : Cond.instanceMethod yJ0_coder_7d493 ∈ TB := TB_mem (List.mem_of_getElem? (i := 411) (by decide +kernel)) rfl
theorem wn_yJ0_charAt_5068e : Cond.instanceMethod yJ0_charAt_5068e ∈ TB := TB_mem (List.mem_of_getElem? (i := 417) (by decide +kernel)) rfl
theorem wn_yJ0_isLatin1_aae02 : Cond.instanceMethod yJ0_isLatin1_aae02 ∈ TB := TB_mem (List.mem_of_getElem? (i := 421) (by decide +kernel)) rfl
theorem wn_yX9_put : Cond.instanceMethod yX9_put ∈ TB := TB_mem (List.mem_of_getElem? (i := 455) (by decide +kernel)) rfl
theorem wn_yX6_readTape : Cond.instanceMethod yX6_readTape ∈ TB := TB_mem (List.mem_of_getElem? (i := 459) (by decide +kernel)) rfl
theorem wn_yX9_cut : Cond.instanceMethod yX9_cut ∈ TB := TB_mem (List.mem_of_getElem? (i := 463) (by decide +kernel)) rfl
theorem wn_yX9_byteAt : Cond.instanceMethod yX9_byteAt ∈ TB := TB_mem (List.mem_of_getElem? (i := 467) (by decide +kernel)) rfl
theorem wn_yX9_cutWord : Cond.instanceMethod yX9_cutWord ∈ TB := TB_mem (List.mem_of_getElem? (i := 478) (by decide +kernel)) rfl
theorem wn_yX9_wordAmong : Cond.instanceMethod yX9_wordAmong ∈ TB := TB_mem (List.mem_of_getElem? (i := 482) (by decide +kernel)) rfl
theorem wn_yX9_note : Cond.instanceMethod yX9_note ∈ TB := TB_mem (List.mem_of_getElem? (i := 488) (by decide +kernel)) rfl
theorem wn_yX9_cutNumber : Cond.instanceMethod yX9_cutNumber ∈ TB := TB_mem (List.mem_of_getElem? (i := 495) (by decide +kernel)) rfl
theorem wn_yX6_readKeys : Cond.instanceMethod yX6_readKeys ∈ TB := TB_mem (List.mem_of_getElem? (i := 502) (by decide +kernel)) rfl
theorem wn_yX6_pass : Cond.instanceMethod yX6_pass ∈ TB := TB_mem (List.mem_of_getElem? (i := 506) (by decide +kernel)) rfl
theorem wn_yX6_kindNow : Cond.instanceMethod yX6_kindNow ∈ TB := TB_mem (List.mem_of_getElem? (i := 510) (by decide +kernel)) rfl
theorem wn_yX6_readOr : Cond.instanceMethod yX6_readOr ∈ TB := TB_mem (List.mem_of_getElem? (i := 514) (by decide +kernel)) rfl
theorem wn_yX6_readAnd : Cond.instanceMethod yX6_readAnd ∈ TB := TB_mem (List.mem_of_getElem? (i := 518) (by decide +kernel)) rfl
theorem wn_yX6_readNot : Cond.instanceMethod yX6_readNot ∈ TB := TB_mem (List.mem_of_getElem? (i := 522) (by decide +kernel)) rfl
theorem wn_yX6_emit : Cond.instanceMethod yX6_emit ∈ TB := TB_mem (List.mem_of_getElem? (i := 526) (by decide +kernel)) rfl
theorem wn_yX6_readSum : Cond.instanceMethod yX6_readSum ∈ TB := TB_mem (List.mem_of_getElem? (i := 530) (by decide +kernel)) rfl
theorem wn_yX6_readTerm : Cond.instanceMethod yX6_readTerm ∈ TB := TB_mem (List.mem_of_getElem? (i := 534) (by decide +kernel)) rfl
theorem wn_yX6_readOne : Cond.instanceMethod yX6_readOne ∈ TB := TB_mem (List.mem_of_getElem? (i := 538) (by decide +kernel)) rfl
theorem wn_yX10_keep : Cond.instanceMethod yX10_keep ∈ TB := TB_mem (List.mem_of_getElem? (i := 541) (by decide +kernel)) rfl
theorem wn_yX11_man : Cond.instanceMethod yX11_man ∈ TB := TB_mem (List.mem_of_getElem? (i := 577) (by decide +kernel)) rfl
theorem wn_yX8_add : Cond.instanceMethod yX8_add ∈ TB := TB_mem (List.mem_of_getElem? (i := 581) (by decide +kernel)) rfl
theorem wn_yX11_part : Cond.instanceMethod yX11_part ∈ TB := TB_mem (List.mem_of_getElem? (i := 595) (by decide +kernel)) rfl
theorem wn_yX8_has : Cond.instanceMethod yX8_has ∈ TB := TB_mem (List.mem_of_getElem? (i := 599) (by decide +kernel)) rfl
theorem wn_yX8_offOf : Cond.instanceMethod yX8_offOf ∈ TB := TB_mem (List.mem_of_getElem? (i := 606) (by decide +kernel)) rfl
theorem wn_yX11_move : Cond.instanceMethod yX11_move ∈ TB := TB_mem (List.mem_of_getElem? (i := 610) (by decide +kernel)) rfl
theorem wn_yX11_front : Cond.instanceMethod yX11_front ∈ TB := TB_mem (List.mem_of_getElem? (i := 616) (by decide +kernel)) rfl
theorem wn_yX5_lookAs : Cond.instanceMethod yX5_lookAs ∈ TB := TB_mem (List.mem_of_getElem? (i := 624) (by decide +kernel)) rfl
theorem wn_yX5_lookAsStanding : Cond.instanceMethod yX5_lookAsStanding ∈ TB := TB_mem (List.mem_of_getElem? (i := 628) (by decide +kernel)) rfl
theorem wn_yX5_frontOf : Cond.instanceMethod yX5_frontOf ∈ TB := TB_mem (List.mem_of_getElem? (i := 632) (by decide +kernel)) rfl
theorem wn_yX5_leadOf : Cond.instanceMethod yX5_leadOf ∈ TB := TB_mem (List.mem_of_getElem? (i := 636) (by decide +kernel)) rfl
theorem wn_yX10_regard : Cond.instanceMethod yX10_regard ∈ TB := TB_mem (List.mem_of_getElem? (i := 640) (by decide +kernel)) rfl
theorem wn_yX10_worth : Cond.instanceMethod yX10_worth ∈ TB := TB_mem (List.mem_of_getElem? (i := 645) (by decide +kernel)) rfl
theorem wn_yX5_whereIs : Cond.instanceMethod yX5_whereIs ∈ TB := TB_mem (List.mem_of_getElem? (i := 655) (by decide +kernel)) rfl
theorem wn_yX11_camera : Cond.instanceMethod yX11_camera ∈ TB := TB_mem (List.mem_of_getElem? (i := 664) (by decide +kernel)) rfl
theorem wn_yX1_add : Cond.instanceMethod yX1_add ∈ TB := TB_mem (List.mem_of_getElem? (i := 668) (by decide +kernel)) rfl
theorem wn_yX11_frame : Cond.instanceMethod yX11_frame ∈ TB := TB_mem (List.mem_of_getElem? (i := 673) (by decide +kernel)) rfl
theorem wn_yX1_has : Cond.instanceMethod yX1_has ∈ TB := TB_mem (List.mem_of_getElem? (i := 677) (by decide +kernel)) rfl
theorem wn_yX1_frameFor : Cond.instanceMethod yX1_frameFor ∈ TB := TB_mem (List.mem_of_getElem? (i := 681) (by decide +kernel)) rfl
theorem wn_yX11_sees : Cond.instanceMethod yX11_sees ∈ TB := TB_mem (List.mem_of_getElem? (i := 685) (by decide +kernel)) rfl
theorem wn_yX1_seenAt : Cond.instanceMethod yX1_seenAt ∈ TB := TB_mem (List.mem_of_getElem? (i := 691) (by decide +kernel)) rfl
theorem wn_yX11_crosser : Cond.instanceMethod yX11_crosser ∈ TB := TB_mem (List.mem_of_getElem? (i := 695) (by decide +kernel)) rfl
theorem wn_yX3_add : Cond.instanceMethod yX3_add ∈ TB := TB_mem (List.mem_of_getElem? (i := 699) (by decide +kernel)) rfl
theorem wn_yX11_feed : Cond.instanceMethod yX11_feed ∈ TB := TB_mem (List.mem_of_getElem? (i := 704) (by decide +kernel)) rfl
theorem wn_yX11_text : Cond.instanceMethod yX11_text ∈ TB := TB_mem (List.mem_of_getElem? (i := 708) (by decide +kernel)) rfl
theorem wn_yX11_force : Cond.instanceMethod yX11_force ∈ TB := TB_mem (List.mem_of_getElem? (i := 712) (by decide +kernel)) rfl
theorem wn_yX10_has : Cond.instanceMethod yX10_has ∈ TB := TB_mem (List.mem_of_getElem? (i := 716) (by decide +kernel)) rfl
theorem wn_yX11_says : Cond.instanceMethod yX11_says ∈ TB := TB_mem (List.mem_of_getElem? (i := 720) (by decide +kernel)) rfl
theorem wn_yX5_worthOf : Cond.instanceMethod yX5_worthOf ∈ TB := TB_mem (List.mem_of_getElem? (i := 724) (by decide +kernel)) rfl
theorem wn_yX11_width : Cond.instanceMethod yX11_width ∈ TB := TB_mem (List.mem_of_getElem? (i := 728) (by decide +kernel)) rfl
theorem wn_yX11_call : Cond.instanceMethod yX11_call ∈ TB := TB_mem (List.mem_of_getElem? (i := 735) (by decide +kernel)) rfl
theorem wn_yX3_has : Cond.instanceMethod yX3_has ∈ TB := TB_mem (List.mem_of_getElem? (i := 739) (by decide +kernel)) rfl
theorem wn_yX0_add : Cond.instanceMethod yX0_add ∈ TB := TB_mem (List.mem_of_getElem? (i := 743) (by decide +kernel)) rfl
theorem wn_yX11_told : Cond.instanceMethod yX11_told ∈ TB := TB_mem (List.mem_of_getElem? (i := 747) (by decide +kernel)) rfl
theorem wn_yX0_has : Cond.instanceMethod yX0_has ∈ TB := TB_mem (List.mem_of_getElem? (i := 751) (by decide +kernel)) rfl
theorem wn_yX5_marginOf : Cond.instanceMethod yX5_marginOf ∈ TB := TB_mem (List.mem_of_getElem? (i := 755) (by decide +kernel)) rfl
theorem wn_yX5_leanOn : Cond.instanceMethod yX5_leanOn ∈ TB := TB_mem (List.mem_of_getElem? (i := 767) (by decide +kernel)) rfl
theorem wn_yX5_bandOf : Cond.instanceMethod yX5_bandOf ∈ TB := TB_mem (List.mem_of_getElem? (i := 771) (by decide +kernel)) rfl
theorem wn_yX5_ruledOn : Cond.instanceMethod yX5_ruledOn ∈ TB := TB_mem (List.mem_of_getElem? (i := 775) (by decide +kernel)) rfl
theorem wn_yX5_isOffside : Cond.instanceMethod yX5_isOffside ∈ TB := TB_mem (List.mem_of_getElem? (i := 787) (by decide +kernel)) rfl
theorem wn_yX5_waysOf : Cond.instanceMethod yX5_waysOf ∈ TB := TB_mem (List.mem_of_getElem? (i := 793) (by decide +kernel)) rfl
theorem wn_yX5_spreadOf : Cond.instanceMethod yX5_spreadOf ∈ TB := TB_mem (List.mem_of_getElem? (i := 797) (by decide +kernel)) rfl
theorem wn_yX5_pairsOf : Cond.instanceMethod yX5_pairsOf ∈ TB := TB_mem (List.mem_of_getElem? (i := 801) (by decide +kernel)) rfl
theorem wn_yX5_frameErrorOf : Cond.instanceMethod yX5_frameErrorOf ∈ TB := TB_mem (List.mem_of_getElem? (i := 805) (by decide +kernel)) rfl
theorem wn_yX5_trueMargin : Cond.instanceMethod yX5_trueMargin ∈ TB := TB_mem (List.mem_of_getElem? (i := 809) (by decide +kernel)) rfl
theorem wn_yX5_turnOf : Cond.instanceMethod yX5_turnOf ∈ TB := TB_mem (List.mem_of_getElem? (i := 813) (by decide +kernel)) rfl
theorem wn_yX10_mindsWidth : Cond.instanceMethod yX10_mindsWidth ∈ TB := TB_mem (List.mem_of_getElem? (i := 817) (by decide +kernel)) rfl
theorem wn_yX11_offside : Cond.instanceMethod yX11_offside ∈ TB := TB_mem (List.mem_of_getElem? (i := 822) (by decide +kernel)) rfl
theorem wn_yX0_all : Cond.instanceMethod yX0_all ∈ TB := TB_mem (List.mem_of_getElem? (i := 826) (by decide +kernel)) rfl
theorem wn_yX5_offsideAmong : Cond.instanceMethod yX5_offsideAmong ∈ TB := TB_mem (List.mem_of_getElem? (i := 830) (by decide +kernel)) rfl
theorem wn_yX11_wrong : Cond.instanceMethod yX11_wrong ∈ TB := TB_mem (List.mem_of_getElem? (i := 835) (by decide +kernel)) rfl
theorem wn_yX0_hasAll : Cond.instanceMethod yX0_hasAll ∈ TB := TB_mem (List.mem_of_getElem? (i := 842) (by decide +kernel)) rfl
theorem wn_yX7_refusalAsWidths : Cond.instanceMethod yX7_refusalAsWidths ∈ TB := TB_mem (List.mem_of_getElem? (i := 847) (by decide +kernel)) rfl
theorem wn_yX7_isMissing : Cond.instanceMethod yX7_isMissing ∈ TB := TB_mem (List.mem_of_getElem? (i := 851) (by decide +kernel)) rfl
theorem wn_yX7_itemOf : Cond.instanceMethod yX7_itemOf ∈ TB := TB_mem (List.mem_of_getElem? (i := 856) (by decide +kernel)) rfl
theorem wn_yX7_has : Cond.instanceMethod yX7_has ∈ TB := TB_mem (List.mem_of_getElem? (i := 860) (by decide +kernel)) rfl
theorem wn_yX5_weigh : Cond.instanceMethod yX5_weigh ∈ TB := TB_mem (List.mem_of_getElem? (i := 867) (by decide +kernel)) rfl
theorem wn_yX11_best : Cond.instanceMethod yX11_best ∈ TB := TB_mem (List.mem_of_getElem? (i := 871) (by decide +kernel)) rfl
theorem wn_yX11_match : Cond.instanceMethod yX11_match ∈ TB := TB_mem (List.mem_of_getElem? (i := 875) (by decide +kernel)) rfl
theorem wn_yX4_add : Cond.instanceMethod yX4_add ∈ TB := TB_mem (List.mem_of_getElem? (i := 880) (by decide +kernel)) rfl
theorem wn_yX11_table : Cond.instanceMethod yX11_table ∈ TB := TB_mem (List.mem_of_getElem? (i := 884) (by decide +kernel)) rfl
theorem wn_yX4_playAll : Cond.instanceMethod yX4_playAll ∈ TB := TB_mem (List.mem_of_getElem? (i := 888) (by decide +kernel)) rfl
theorem wn_yX0_attackedBy : Cond.instanceMethod yX0_attackedBy ∈ TB := TB_mem (List.mem_of_getElem? (i := 892) (by decide +kernel)) rfl
theorem wn_yX4_score : Cond.instanceMethod yX4_score ∈ TB := TB_mem (List.mem_of_getElem? (i := 903) (by decide +kernel)) rfl
theorem wn_yX4_rankOf : Cond.instanceMethod yX4_rankOf ∈ TB := TB_mem (List.mem_of_getElem? (i := 906) (by decide +kernel)) rfl
theorem wn_yX4_isAbove : Cond.instanceMethod yX4_isAbove ∈ TB := TB_mem (List.mem_of_getElem? (i := 911) (by decide +kernel)) rfl
theorem wn_yX11_season : Cond.instanceMethod yX11_season ∈ TB := TB_mem (List.mem_of_getElem? (i := 914) (by decide +kernel)) rfl
theorem wn_yX4_allRanks : Cond.instanceMethod yX4_allRanks ∈ TB := TB_mem (List.mem_of_getElem? (i := 918) (by decide +kernel)) rfl
theorem wn_yX11_stand : Cond.instanceMethod yX11_stand ∈ TB := TB_mem (List.mem_of_getElem? (i := 923) (by decide +kernel)) rfl
theorem wn_yX11_shown : Cond.instanceMethod yX11_shown ∈ TB := TB_mem (List.mem_of_getElem? (i := 929) (by decide +kernel)) rfl
theorem wn_yX2_add : Cond.instanceMethod yX2_add ∈ TB := TB_mem (List.mem_of_getElem? (i := 933) (by decide +kernel)) rfl
theorem wn_yX11_split : Cond.instanceMethod yX11_split ∈ TB := TB_mem (List.mem_of_getElem? (i := 938) (by decide +kernel)) rfl
theorem wn_yX2_fewestMarks : Cond.instanceMethod yX2_fewestMarks ∈ TB := TB_mem (List.mem_of_getElem? (i := 942) (by decide +kernel)) rfl
theorem wn_yX2_isSplitBy : Cond.instanceMethod yX2_isSplitBy ∈ TB := TB_mem (List.mem_of_getElem? (i := 948) (by decide +kernel)) rfl
theorem wn_yX11_image : Cond.instanceMethod yX11_image ∈ TB := TB_mem (List.mem_of_getElem? (i := 951) (by decide +kernel)) rfl
theorem wn_yX8_takeMenOf : Cond.instanceMethod yX8_takeMenOf ∈ TB := TB_mem (List.mem_of_getElem? (i := 955) (by decide +kernel)) rfl
theorem wn_yX11_back : Cond.instanceMethod yX11_back ∈ TB := TB_mem (List.mem_of_getElem? (i := 959) (by decide +kernel)) rfl
theorem wn_yX11_count : Cond.instanceMethod yX11_count ∈ TB := TB_mem (List.mem_of_getElem? (i := 963) (by decide +kernel)) rfl
theorem wn_yX11_sheet : Cond.instanceMethod yX11_sheet ∈ TB := TB_mem (List.mem_of_getElem? (i := 967) (by decide +kernel)) rfl
theorem wn_yX7_layOut : Cond.instanceMethod yX7_layOut ∈ TB := TB_mem (List.mem_of_getElem? (i := 971) (by decide +kernel)) rfl
theorem wn_yX11_cell : Cond.instanceMethod yX11_cell ∈ TB := TB_mem (List.mem_of_getElem? (i := 975) (by decide +kernel)) rfl
theorem wn_yX7_put : Cond.instanceMethod yX7_put ∈ TB := TB_mem (List.mem_of_getElem? (i := 980) (by decide +kernel)) rfl
theorem wn_yX11_copy : Cond.instanceMethod yX11_copy ∈ TB := TB_mem (List.mem_of_getElem? (i := 984) (by decide +kernel)) rfl
theorem wn_yX7_hasRun : Cond.instanceMethod yX7_hasRun ∈ TB := TB_mem (List.mem_of_getElem? (i := 988) (by decide +kernel)) rfl
theorem wn_yX11_men : Cond.instanceMethod yX11_men ∈ TB := TB_mem (List.mem_of_getElem? (i := 995) (by decide +kernel)) rfl
theorem wn_yX11_taken : Cond.instanceMethod yX11_taken ∈ TB := TB_mem (List.mem_of_getElem? (i := 999) (by decide +kernel)) rfl
theorem wn_yX12_init : Cond.instanceMethod yX12_init ∈ TB := TB_mem (List.mem_of_getElem? (i := 1006) (by decide +kernel)) rfl
theorem wn_yX12_spell : Cond.instanceMethod yX12_spell ∈ TB := TB_mem (List.mem_of_getElem? (i := 1012) (by decide +kernel)) rfl
theorem wn_yX12_man : Cond.instanceMethod yX12_man ∈ TB := TB_mem (List.mem_of_getElem? (i := 1211) (by decide +kernel)) rfl
theorem wn_yX12_part : Cond.instanceMethod yX12_part ∈ TB := TB_mem (List.mem_of_getElem? (i := 1222) (by decide +kernel)) rfl
theorem wn_yX12_isMan : Cond.instanceMethod yX12_isMan ∈ TB := TB_mem (List.mem_of_getElem? (i := 1227) (by decide +kernel)) rfl
theorem wn_yX12_move : Cond.instanceMethod yX12_move ∈ TB := TB_mem (List.mem_of_getElem? (i := 1232) (by decide +kernel)) rfl
theorem wn_yX12_feed : Cond.instanceMethod yX12_feed ∈ TB := TB_mem (List.mem_of_getElem? (i := 1236) (by decide +kernel)) rfl
theorem wn_yX12_text : Cond.instanceMethod yX12_text ∈ TB := TB_mem (List.mem_of_getElem? (i := 1241) (by decide +kernel)) rfl
theorem wn_yX12_read : Cond.instanceMethod yX12_read ∈ TB := TB_mem (List.mem_of_getElem? (i := 1246) (by decide +kernel)) rfl
theorem wn_yX12_next : Cond.instanceMethod yX12_next ∈ TB := TB_mem (List.mem_of_getElem? (i := 1250) (by decide +kernel)) rfl
theorem wn_yX12_byteAt : Cond.instanceMethod yX12_byteAt ∈ TB := TB_mem (List.mem_of_getElem? (i := 1254) (by decide +kernel)) rfl
theorem wn_yX12_section : Cond.instanceMethod yX12_section ∈ TB := TB_mem (List.mem_of_getElem? (i := 1267) (by decide +kernel)) rfl
theorem wn_yX12_isWord : Cond.instanceMethod yX12_isWord ∈ TB := TB_mem (List.mem_of_getElem? (i := 1271) (by decide +kernel)) rfl
theorem wn_yX12_fail : Cond.instanceMethod yX12_fail ∈ TB := TB_mem (List.mem_of_getElem? (i := 1275) (by decide +kernel)) rfl
theorem wn_yX12_either : Cond.instanceMethod yX12_either ∈ TB := TB_mem (List.mem_of_getElem? (i := 1279) (by decide +kernel)) rfl
theorem wn_yX12_both : Cond.instanceMethod yX12_both ∈ TB := TB_mem (List.mem_of_getElem? (i := 1283) (by decide +kernel)) rfl
theorem wn_yX12_not : Cond.instanceMethod yX12_not ∈ TB := TB_mem (List.mem_of_getElem? (i := 1287) (by decide +kernel)) rfl
theorem wn_yX12_opens : Cond.instanceMethod yX12_opens ∈ TB := TB_mem (List.mem_of_getElem? (i := 1292) (by decide +kernel)) rfl
theorem wn_yX12_added : Cond.instanceMethod yX12_added ∈ TB := TB_mem (List.mem_of_getElem? (i := 1296) (by decide +kernel)) rfl
theorem wn_yX12_term : Cond.instanceMethod yX12_term ∈ TB := TB_mem (List.mem_of_getElem? (i := 1300) (by decide +kernel)) rfl
theorem wn_yX12_one : Cond.instanceMethod yX12_one ∈ TB := TB_mem (List.mem_of_getElem? (i := 1304) (by decide +kernel)) rfl
theorem wn_yX12_isSign : Cond.instanceMethod yX12_isSign ∈ TB := TB_mem (List.mem_of_getElem? (i := 1308) (by decide +kernel)) rfl
theorem wn_yX12_name : Cond.instanceMethod yX12_name ∈ TB := TB_mem (List.mem_of_getElem? (i := 1312) (by decide +kernel)) rfl
theorem wn_yX12_force : Cond.instanceMethod yX12_force ∈ TB := TB_mem (List.mem_of_getElem? (i := 1327) (by decide +kernel)) rfl
theorem wn_yX12_says : Cond.instanceMethod yX12_says ∈ TB := TB_mem (List.mem_of_getElem? (i := 1331) (by decide +kernel)) rfl
theorem wn_yX12_width : Cond.instanceMethod yX12_width ∈ TB := TB_mem (List.mem_of_getElem? (i := 1341) (by decide +kernel)) rfl
theorem wn_yX12_front : Cond.instanceMethod yX12_front ∈ TB := TB_mem (List.mem_of_getElem? (i := 1349) (by decide +kernel)) rfl
theorem wn_yX12_frontOf : Cond.instanceMethod yX12_frontOf ∈ TB := TB_mem (List.mem_of_getElem? (i := 1354) (by decide +kernel)) rfl
theorem wn_yX12_foremost : Cond.instanceMethod yX12_foremost ∈ TB := TB_mem (List.mem_of_getElem? (i := 1358) (by decide +kernel)) rfl
theorem wn_yX12_whereOf : Cond.instanceMethod yX12_whereOf ∈ TB := TB_mem (List.mem_of_getElem? (i := 1362) (by decide +kernel)) rfl
theorem wn_yX12_camera : Cond.instanceMethod yX12_camera ∈ TB := TB_mem (List.mem_of_getElem? (i := 1365) (by decide +kernel)) rfl
theorem wn_yX12_frame : Cond.instanceMethod yX12_frame ∈ TB := TB_mem (List.mem_of_getElem? (i := 1373) (by decide +kernel)) rfl
theorem wn_yX12_frameOf : Cond.instanceMethod yX12_frameOf ∈ TB := TB_mem (List.mem_of_getElem? (i := 1378) (by decide +kernel)) rfl
theorem wn_yX12_sees : Cond.instanceMethod yX12_sees ∈ TB := TB_mem (List.mem_of_getElem? (i := 1381) (by decide +kernel)) rfl
theorem wn_yX12_seen : Cond.instanceMethod yX12_seen ∈ TB := TB_mem (List.mem_of_getElem? (i := 1388) (by decide +kernel)) rfl
theorem wn_yX12_crosser : Cond.instanceMethod yX12_crosser ∈ TB := TB_mem (List.mem_of_getElem? (i := 1391) (by decide +kernel)) rfl
theorem wn_yX12_call : Cond.instanceMethod yX12_call ∈ TB := TB_mem (List.mem_of_getElem? (i := 1396) (by decide +kernel)) rfl
theorem wn_yX12_told : Cond.instanceMethod yX12_told ∈ TB := TB_mem (List.mem_of_getElem? (i := 1401) (by decide +kernel)) rfl
theorem wn_yX12_isCall : Cond.instanceMethod yX12_isCall ∈ TB := TB_mem (List.mem_of_getElem? (i := 1406) (by decide +kernel)) rfl
theorem wn_yX12_spreadOf : Cond.instanceMethod yX12_spreadOf ∈ TB := TB_mem (List.mem_of_getElem? (i := 1410) (by decide +kernel)) rfl
theorem wn_yX12_marginBy : Cond.instanceMethod yX12_marginBy ∈ TB := TB_mem (List.mem_of_getElem? (i := 1414) (by decide +kernel)) rfl
theorem wn_yX12_trueMargin : Cond.instanceMethod yX12_trueMargin ∈ TB := TB_mem (List.mem_of_getElem? (i := 1418) (by decide +kernel)) rfl
theorem wn_yX12_crossed : Cond.instanceMethod yX12_crossed ∈ TB := TB_mem (List.mem_of_getElem? (i := 1422) (by decide +kernel)) rfl
theorem wn_yX12_bandBy : Cond.instanceMethod yX12_bandBy ∈ TB := TB_mem (List.mem_of_getElem? (i := 1426) (by decide +kernel)) rfl
theorem wn_yX12_nearOf : Cond.instanceMethod yX12_nearOf ∈ TB := TB_mem (List.mem_of_getElem? (i := 1430) (by decide +kernel)) rfl
theorem wn_yX12_isAhead : Cond.instanceMethod yX12_isAhead ∈ TB := TB_mem (List.mem_of_getElem? (i := 1434) (by decide +kernel)) rfl
theorem wn_yX12_isOffside : Cond.instanceMethod yX12_isOffside ∈ TB := TB_mem (List.mem_of_getElem? (i := 1438) (by decide +kernel)) rfl
theorem wn_yX12_waysOf : Cond.instanceMethod yX12_waysOf ∈ TB := TB_mem (List.mem_of_getElem? (i := 1442) (by decide +kernel)) rfl
theorem wn_yX12_turnsOf : Cond.instanceMethod yX12_turnsOf ∈ TB := TB_mem (List.mem_of_getElem? (i := 1446) (by decide +kernel)) rfl
theorem wn_yX12_offside : Cond.instanceMethod yX12_offside ∈ TB := TB_mem (List.mem_of_getElem? (i := 1449) (by decide +kernel)) rfl
theorem wn_yX12_all : Cond.instanceMethod yX12_all ∈ TB := TB_mem (List.mem_of_getElem? (i := 1454) (by decide +kernel)) rfl
theorem wn_yX12_offsides : Cond.instanceMethod yX12_offsides ∈ TB := TB_mem (List.mem_of_getElem? (i := 1458) (by decide +kernel)) rfl
theorem wn_yX12_wrong : Cond.instanceMethod yX12_wrong ∈ TB := TB_mem (List.mem_of_getElem? (i := 1461) (by decide +kernel)) rfl
theorem wn_yX12_widths : Cond.instanceMethod yX12_widths ∈ TB := TB_mem (List.mem_of_getElem? (i := 1469) (by decide +kernel)) rfl
theorem wn_yX12_wrongs : Cond.instanceMethod yX12_wrongs ∈ TB := TB_mem (List.mem_of_getElem? (i := 1473) (by decide +kernel)) rfl
theorem wn_yX12_best : Cond.instanceMethod yX12_best ∈ TB := TB_mem (List.mem_of_getElem? (i := 1476) (by decide +kernel)) rfl
theorem wn_yX12_match : Cond.instanceMethod yX12_match ∈ TB := TB_mem (List.mem_of_getElem? (i := 1480) (by decide +kernel)) rfl
theorem wn_yX12_table : Cond.instanceMethod yX12_table ∈ TB := TB_mem (List.mem_of_getElem? (i := 1484) (by decide +kernel)) rfl
theorem wn_yX12_tables : Cond.instanceMethod yX12_tables ∈ TB := TB_mem (List.mem_of_getElem? (i := 1489) (by decide +kernel)) rfl
theorem wn_yX12_counts : Cond.instanceMethod yX12_counts ∈ TB := TB_mem (List.mem_of_getElem? (i := 1493) (by decide +kernel)) rfl
theorem wn_yX12_rankOf : Cond.instanceMethod yX12_rankOf ∈ TB := TB_mem (List.mem_of_getElem? (i := 1497) (by decide +kernel)) rfl
theorem wn_yX12_isAbove : Cond.instanceMethod yX12_isAbove ∈ TB := TB_mem (List.mem_of_getElem? (i := 1501) (by decide +kernel)) rfl
theorem wn_yX12_season : Cond.instanceMethod yX12_season ∈ TB := TB_mem (List.mem_of_getElem? (i := 1504) (by decide +kernel)) rfl
theorem wn_yX12_ranks : Cond.instanceMethod yX12_ranks ∈ TB := TB_mem (List.mem_of_getElem? (i := 1509) (by decide +kernel)) rfl
theorem wn_yX12_stand : Cond.instanceMethod yX12_stand ∈ TB := TB_mem (List.mem_of_getElem? (i := 1512) (by decide +kernel)) rfl
theorem wn_yX12_shown : Cond.instanceMethod yX12_shown ∈ TB := TB_mem (List.mem_of_getElem? (i := 1516) (by decide +kernel)) rfl
theorem wn_yX12_split : Cond.instanceMethod yX12_split ∈ TB := TB_mem (List.mem_of_getElem? (i := 1521) (by decide +kernel)) rfl
theorem wn_yX12_image : Cond.instanceMethod yX12_image ∈ TB := TB_mem (List.mem_of_getElem? (i := 1528) (by decide +kernel)) rfl
theorem wn_yX12_back : Cond.instanceMethod yX12_back ∈ TB := TB_mem (List.mem_of_getElem? (i := 1532) (by decide +kernel)) rfl
theorem wn_yX12_count : Cond.instanceMethod yX12_count ∈ TB := TB_mem (List.mem_of_getElem? (i := 1536) (by decide +kernel)) rfl
theorem wn_yX12_sheet : Cond.instanceMethod yX12_sheet ∈ TB := TB_mem (List.mem_of_getElem? (i := 1540) (by decide +kernel)) rfl
theorem wn_yX12_cell : Cond.instanceMethod yX12_cell ∈ TB := TB_mem (List.mem_of_getElem? (i := 1544) (by decide +kernel)) rfl
theorem wn_yX12_copy : Cond.instanceMethod yX12_copy ∈ TB := TB_mem (List.mem_of_getElem? (i := 1548) (by decide +kernel)) rfl
theorem wn_yX12_men : Cond.instanceMethod yX12_men ∈ TB := TB_mem (List.mem_of_getElem? (i := 1552) (by decide +kernel)) rfl
theorem wn_yX12_taken : Cond.instanceMethod yX12_taken ∈ TB := TB_mem (List.mem_of_getElem? (i := 1557) (by decide +kernel)) rfl
theorem wt_yJ1_charAt_3b067 : Cond.static yJ1_charAt_3b067 ∈ TB := TB_mem (List.mem_of_getElem? (i := 425) (by decide +kernel)) rfl
theorem wt_yJ0_checkIndex_df160 : Cond.static yJ0_checkIndex_df160 ∈ TB := TB_mem (List.mem_of_getElem? (i := 428) (by decide +kernel)) rfl
theorem wt_yJ3_checkIndex_8e157 : Cond.static yJ3_checkIndex_8e157 ∈ TB := TB_mem (List.mem_of_getElem? (i := 433) (by decide +kernel)) rfl
theorem wt_yJ2_charAt_3b067 : Cond.static yJ2_charAt_3b067 ∈ TB := TB_mem (List.mem_of_getElem? (i := 436) (by decide +kernel)) rfl
theorem wt_yJ2_checkIndex_2214a : Cond.static yJ2_checkIndex_2214a ∈ TB := TB_mem (List.mem_of_getElem? (i := 439) (by decide +kernel)) rfl
theorem wt_yJ2_length_9d52b : Cond.static yJ2_length_9d52b ∈ TB := TB_mem (List.mem_of_getElem? (i := 442) (by decide +kernel)) rfl
theorem wt_yJ2_getChar_3b067 : Cond.static yJ2_getChar_3b067 ∈ TB := TB_mem (List.mem_of_getElem? (i := 446) (by decide +kernel)) rfl
theorem wt_yX9_isLetter : Cond.static yX9_isLetter ∈ TB := TB_mem (List.mem_of_getElem? (i := 471) (by decide +kernel)) rfl
theorem wt_yX11_isWithin : Cond.static yX11_isWithin ∈ TB := TB_mem (List.mem_of_getElem? (i := 474) (by decide +kernel)) rfl
theorem wt_yX9_isDigit : Cond.static yX9_isDigit ∈ TB := TB_mem (List.mem_of_getElem? (i := 491) (by decide +kernel)) rfl
theorem wt_yX9_isSign : Cond.static yX9_isSign ∈ TB := TB_mem (List.mem_of_getElem? (i := 498) (by decide +kernel)) rfl
theorem wt_yX11_isSide : Cond.static yX11_isSide ∈ TB := TB_mem (List.mem_of_getElem? (i := 585) (by decide +kernel)) rfl
theorem wt_yX11_isPlace : Cond.static yX11_isPlace ∈ TB := TB_mem (List.mem_of_getElem? (i := 589) (by decide +kernel)) rfl
theorem wt_yX11_isSpeed : Cond.static yX11_isSpeed ∈ TB := TB_mem (List.mem_of_getElem? (i := 592) (by decide +kernel)) rfl
theorem wt_yX11_isPart : Cond.static yX11_isPart ∈ TB := TB_mem (List.mem_of_getElem? (i := 603) (by decide +kernel)) rfl
theorem wt_yX11_isTick : Cond.static yX11_isTick ∈ TB := TB_mem (List.mem_of_getElem? (i := 620) (by decide +kernel)) rfl
theorem wt_yX10_ofOne : Cond.static yX10_ofOne ∈ TB := TB_mem (List.mem_of_getElem? (i := 649) (by decide +kernel)) rfl
theorem wt_yX10_ofTwo : Cond.static yX10_ofTwo ∈ TB := TB_mem (List.mem_of_getElem? (i := 652) (by decide +kernel)) rfl
theorem wt_yX11_footIfNone : Cond.static yX11_footIfNone ∈ TB := TB_mem (List.mem_of_getElem? (i := 660) (by decide +kernel)) rfl
theorem wt_yX11_isWidth : Cond.static yX11_isWidth ∈ TB := TB_mem (List.mem_of_getElem? (i := 732) (by decide +kernel)) rfl
theorem wt_yX11_isUnder : Cond.static yX11_isUnder ∈ TB := TB_mem (List.mem_of_getElem? (i := 759) (by decide +kernel)) rfl
theorem wt_yJ9_min_7cf53 : Cond.static yJ9_min_7cf53 ∈ TB := TB_mem (List.mem_of_getElem? (i := 781) (by decide +kernel)) rfl
theorem wt_yJ9_max_7cf53 : Cond.static yJ9_max_7cf53 ∈ TB := TB_mem (List.mem_of_getElem? (i := 784) (by decide +kernel)) rfl
theorem wt_yX11_isSheet : Cond.static yX11_isSheet ∈ TB := TB_mem (List.mem_of_getElem? (i := 839) (by decide +kernel)) rfl
theorem wt_yJ6_bitCount_0f7a4 : Cond.static yJ6_bitCount_0f7a4 ∈ TB := TB_mem (List.mem_of_getElem? (i := 896) (by decide +kernel)) rfl
theorem wt_yX12_in : Cond.static yX12_in ∈ TB := TB_mem (List.mem_of_getElem? (i := 1216) (by decide +kernel)) rfl
theorem wt_yX12_isTick : Cond.static yX12_isTick ∈ TB := TB_mem (List.mem_of_getElem? (i := 1335) (by decide +kernel)) rfl
theorem wt_yX12_isWidth : Cond.static yX12_isWidth ∈ TB := TB_mem (List.mem_of_getElem? (i := 1345) (by decide +kernel)) rfl
theorem wt_yX12_isSheet : Cond.static yX12_isSheet ∈ TB := TB_mem (List.mem_of_getElem? (i := 1465) (by decide +kernel)) rfl
theorem wt_yX12_bitsOf : Cond.static yX12_bitsOf ∈ TB := TB_mem (List.mem_of_getElem? (i := 1525) (by decide +kernel)) rfl
theorem wt_yX12_over : Cond.static yX12_over ∈ TB := TB_mem (List.mem_of_getElem? (i := 1561) (by decide +kernel)) rfl
theorem ws_RJ0_yJ0_length_8abf5 : Cond.selects RJ0 yJ0_length_8abf5 yJ0_length_8abf5 ∈ TB := TB_mem (List.mem_of_getElem? (i := 408) (by decide +kernel)) rfl
theorem ws_RJ0_yJ0_coder_7d493 : Cond.selects RJ0 yJ0_coder_7d493 yJ0_coder_7d493 ∈ TB := TB_mem (List.mem_of_getElem? (i := 412) (by decide +kernel)) rfl
theorem ws_RJ0_yJ0_charAt_5068e : Cond.selects RJ0 yJ0_charAt_5068e yJ0_charAt_5068e ∈ TB := TB_mem (List.mem_of_getElem? (i := 418) (by decide +kernel)) rfl
theorem ws_RJ0_yJ0_isLatin1_aae02 : Cond.selects RJ0 yJ0_isLatin1_aae02 yJ0_isLatin1_aae02 ∈ TB := TB_mem (List.mem_of_getElem? (i := 422) (by decide +kernel)) rfl
theorem ws_RX9_yX9_put : Cond.selects RX9 yX9_put yX9_put ∈ TB := TB_mem (List.mem_of_getElem? (i := 456) (by decide +kernel)) rfl
theorem ws_RX6_yX6_readTape : Cond.selects RX6 yX6_readTape yX6_readTape ∈ TB := TB_mem (List.mem_of_getElem? (i := 460) (by decide +kernel)) rfl
theorem ws_RX9_yX9_cut : Cond.selects RX9 yX9_cut yX9_cut ∈ TB := TB_mem (List.mem_of_getElem? (i := 464) (by decide +kernel)) rfl
theorem ws_RX9_yX9_byteAt : Cond.selects RX9 yX9_byteAt yX9_byteAt ∈ TB := TB_mem (List.mem_of_getElem? (i := 468) (by decide +kernel)) rfl
theorem ws_RX10_yX10_keep : Cond.selects RX10 yX10_keep yX10_keep ∈ TB := TB_mem (List.mem_of_getElem? (i := 542) (by decide +kernel)) rfl
theorem ws_RX11_yX11_man : Cond.selects RX11 yX11_man yX11_man ∈ TB := TB_mem (List.mem_of_getElem? (i := 578) (by decide +kernel)) rfl
theorem ws_RX8_yX8_add : Cond.selects RX8 yX8_add yX8_add ∈ TB := TB_mem (List.mem_of_getElem? (i := 582) (by decide +kernel)) rfl
theorem ws_RX11_yX11_part : Cond.selects RX11 yX11_part yX11_part ∈ TB := TB_mem (List.mem_of_getElem? (i := 596) (by decide +kernel)) rfl
theorem ws_RX8_yX8_has : Cond.selects RX8 yX8_has yX8_has ∈ TB := TB_mem (List.mem_of_getElem? (i := 600) (by decide +kernel)) rfl
theorem ws_RX8_yX8_offOf : Cond.selects RX8 yX8_offOf yX8_offOf ∈ TB := TB_mem (List.mem_of_getElem? (i := 607) (by decide +kernel)) rfl
theorem ws_RX11_yX11_move : Cond.selects RX11 yX11_move yX11_move ∈ TB := TB_mem (List.mem_of_getElem? (i := 611) (by decide +kernel)) rfl
theorem ws_RX11_yX11_front : Cond.selects RX11 yX11_front yX11_front ∈ TB := TB_mem (List.mem_of_getElem? (i := 617) (by decide +kernel)) rfl
theorem ws_RX5_yX5_lookAs : Cond.selects RX5 yX5_lookAs yX5_lookAs ∈ TB := TB_mem (List.mem_of_getElem? (i := 625) (by decide +kernel)) rfl
theorem ws_RX5_yX5_lookAsStanding : Cond.selects RX5 yX5_lookAsStanding yX5_lookAsStanding ∈ TB := TB_mem (List.mem_of_getElem? (i := 629) (by decide +kernel)) rfl
theorem ws_RX5_yX5_frontOf : Cond.selects RX5 yX5_frontOf yX5_frontOf ∈ TB := TB_mem (List.mem_of_getElem? (i := 633) (by decide +kernel)) rfl
theorem ws_RX5_yX5_leadOf : Cond.selects RX5 yX5_leadOf yX5_leadOf ∈ TB := TB_mem (List.mem_of_getElem? (i := 637) (by decide +kernel)) rfl
theorem ws_RX10_yX10_regard : Cond.selects RX10 yX10_regard yX10_regard ∈ TB := TB_mem (List.mem_of_getElem? (i := 641) (by decide +kernel)) rfl
theorem ws_RX10_yX10_worth : Cond.selects RX10 yX10_worth yX10_worth ∈ TB := TB_mem (List.mem_of_getElem? (i := 646) (by decide +kernel)) rfl
theorem ws_RX5_yX5_whereIs : Cond.selects RX5 yX5_whereIs yX5_whereIs ∈ TB := TB_mem (List.mem_of_getElem? (i := 656) (by decide +kernel)) rfl
theorem ws_RX11_yX11_camera : Cond.selects RX11 yX11_camera yX11_camera ∈ TB := TB_mem (List.mem_of_getElem? (i := 665) (by decide +kernel)) rfl
theorem ws_RX1_yX1_add : Cond.selects RX1 yX1_add yX1_add ∈ TB := TB_mem (List.mem_of_getElem? (i := 669) (by decide +kernel)) rfl
theorem ws_RX11_yX11_frame : Cond.selects RX11 yX11_frame yX11_frame ∈ TB := TB_mem (List.mem_of_getElem? (i := 674) (by decide +kernel)) rfl
theorem ws_RX1_yX1_has : Cond.selects RX1 yX1_has yX1_has ∈ TB := TB_mem (List.mem_of_getElem? (i := 678) (by decide +kernel)) rfl
theorem ws_RX1_yX1_frameFor : Cond.selects RX1 yX1_frameFor yX1_frameFor ∈ TB := TB_mem (List.mem_of_getElem? (i := 682) (by decide +kernel)) rfl
theorem ws_RX11_yX11_sees : Cond.selects RX11 yX11_sees yX11_sees ∈ TB := TB_mem (List.mem_of_getElem? (i := 686) (by decide +kernel)) rfl
theorem ws_RX1_yX1_seenAt : Cond.selects RX1 yX1_seenAt yX1_seenAt ∈ TB := TB_mem (List.mem_of_getElem? (i := 692) (by decide +kernel)) rfl
theorem ws_RX11_yX11_crosser : Cond.selects RX11 yX11_crosser yX11_crosser ∈ TB := TB_mem (List.mem_of_getElem? (i := 696) (by decide +kernel)) rfl
theorem ws_RX3_yX3_add : Cond.selects RX3 yX3_add yX3_add ∈ TB := TB_mem (List.mem_of_getElem? (i := 700) (by decide +kernel)) rfl
theorem ws_RX11_yX11_feed : Cond.selects RX11 yX11_feed yX11_feed ∈ TB := TB_mem (List.mem_of_getElem? (i := 705) (by decide +kernel)) rfl
theorem ws_RX11_yX11_text : Cond.selects RX11 yX11_text yX11_text ∈ TB := TB_mem (List.mem_of_getElem? (i := 709) (by decide +kernel)) rfl
theorem ws_RX11_yX11_force : Cond.selects RX11 yX11_force yX11_force ∈ TB := TB_mem (List.mem_of_getElem? (i := 713) (by decide +kernel)) rfl
theorem ws_RX10_yX10_has : Cond.selects RX10 yX10_has yX10_has ∈ TB := TB_mem (List.mem_of_getElem? (i := 717) (by decide +kernel)) rfl
theorem ws_RX11_yX11_says : Cond.selects RX11 yX11_says yX11_says ∈ TB := TB_mem (List.mem_of_getElem? (i := 721) (by decide +kernel)) rfl
theorem ws_RX5_yX5_worthOf : Cond.selects RX5 yX5_worthOf yX5_worthOf ∈ TB := TB_mem (List.mem_of_getElem? (i := 725) (by decide +kernel)) rfl
theorem ws_RX11_yX11_width : Cond.selects RX11 yX11_width yX11_width ∈ TB := TB_mem (List.mem_of_getElem? (i := 729) (by decide +kernel)) rfl
theorem ws_RX11_yX11_call : Cond.selects RX11 yX11_call yX11_call ∈ TB := TB_mem (List.mem_of_getElem? (i := 736) (by decide +kernel)) rfl
theorem ws_RX3_yX3_has : Cond.selects RX3 yX3_has yX3_has ∈ TB := TB_mem (List.mem_of_getElem? (i := 740) (by decide +kernel)) rfl
theorem ws_RX0_yX0_add : Cond.selects RX0 yX0_add yX0_add ∈ TB := TB_mem (List.mem_of_getElem? (i := 744) (by decide +kernel)) rfl
theorem ws_RX11_yX11_told : Cond.selects RX11 yX11_told yX11_told ∈ TB := TB_mem (List.mem_of_getElem? (i := 748) (by decide +kernel)) rfl
theorem ws_RX0_yX0_has : Cond.selects RX0 yX0_has yX0_has ∈ TB := TB_mem (List.mem_of_getElem? (i := 752) (by decide +kernel)) rfl
theorem ws_RX5_yX5_marginOf : Cond.selects RX5 yX5_marginOf yX5_marginOf ∈ TB := TB_mem (List.mem_of_getElem? (i := 756) (by decide +kernel)) rfl
theorem ws_RX5_yX5_leanOn : Cond.selects RX5 yX5_leanOn yX5_leanOn ∈ TB := TB_mem (List.mem_of_getElem? (i := 768) (by decide +kernel)) rfl
theorem ws_RX5_yX5_bandOf : Cond.selects RX5 yX5_bandOf yX5_bandOf ∈ TB := TB_mem (List.mem_of_getElem? (i := 772) (by decide +kernel)) rfl
theorem ws_RX5_yX5_ruledOn : Cond.selects RX5 yX5_ruledOn yX5_ruledOn ∈ TB := TB_mem (List.mem_of_getElem? (i := 776) (by decide +kernel)) rfl
theorem ws_RX5_yX5_isOffside : Cond.selects RX5 yX5_isOffside yX5_isOffside ∈ TB := TB_mem (List.mem_of_getElem? (i := 788) (by decide +kernel)) rfl
theorem ws_RX5_yX5_waysOf : Cond.selects RX5 yX5_waysOf yX5_waysOf ∈ TB := TB_mem (List.mem_of_getElem? (i := 794) (by decide +kernel)) rfl
theorem ws_RX5_yX5_spreadOf : Cond.selects RX5 yX5_spreadOf yX5_spreadOf ∈ TB := TB_mem (List.mem_of_getElem? (i := 798) (by decide +kernel)) rfl
theorem ws_RX5_yX5_pairsOf : Cond.selects RX5 yX5_pairsOf yX5_pairsOf ∈ TB := TB_mem (List.mem_of_getElem? (i := 802) (by decide +kernel)) rfl
theorem ws_RX5_yX5_frameErrorOf : Cond.selects RX5 yX5_frameErrorOf yX5_frameErrorOf ∈ TB := TB_mem (List.mem_of_getElem? (i := 806) (by decide +kernel)) rfl
theorem ws_RX5_yX5_trueMargin : Cond.selects RX5 yX5_trueMargin yX5_trueMargin ∈ TB := TB_mem (List.mem_of_getElem? (i := 810) (by decide +kernel)) rfl
theorem ws_RX5_yX5_turnOf : Cond.selects RX5 yX5_turnOf yX5_turnOf ∈ TB := TB_mem (List.mem_of_getElem? (i := 814) (by decide +kernel)) rfl
theorem ws_RX10_yX10_mindsWidth : Cond.selects RX10 yX10_mindsWidth yX10_mindsWidth ∈ TB := TB_mem (List.mem_of_getElem? (i := 818) (by decide +kernel)) rfl
theorem ws_RX11_yX11_offside : Cond.selects RX11 yX11_offside yX11_offside ∈ TB := TB_mem (List.mem_of_getElem? (i := 823) (by decide +kernel)) rfl
theorem ws_RX0_yX0_all : Cond.selects RX0 yX0_all yX0_all ∈ TB := TB_mem (List.mem_of_getElem? (i := 827) (by decide +kernel)) rfl
theorem ws_RX5_yX5_offsideAmong : Cond.selects RX5 yX5_offsideAmong yX5_offsideAmong ∈ TB := TB_mem (List.mem_of_getElem? (i := 831) (by decide +kernel)) rfl
theorem ws_RX11_yX11_wrong : Cond.selects RX11 yX11_wrong yX11_wrong ∈ TB := TB_mem (List.mem_of_getElem? (i := 836) (by decide +kernel)) rfl
theorem ws_RX0_yX0_hasAll : Cond.selects RX0 yX0_hasAll yX0_hasAll ∈ TB := TB_mem (List.mem_of_getElem? (i := 843) (by decide +kernel)) rfl
theorem ws_RX7_yX7_refusalAsWidths : Cond.selects RX7 yX7_refusalAsWidths yX7_refusalAsWidths ∈ TB := TB_mem (List.mem_of_getElem? (i := 848) (by decide +kernel)) rfl
theorem ws_RX7_yX7_isMissing : Cond.selects RX7 yX7_isMissing yX7_isMissing ∈ TB := TB_mem (List.mem_of_getElem? (i := 852) (by decide +kernel)) rfl
theorem ws_RX7_yX7_itemOf : Cond.selects RX7 yX7_itemOf yX7_itemOf ∈ TB := TB_mem (List.mem_of_getElem? (i := 857) (by decide +kernel)) rfl
theorem ws_RX7_yX7_has : Cond.selects RX7 yX7_has yX7_has ∈ TB := TB_mem (List.mem_of_getElem? (i := 861) (by decide +kernel)) rfl
theorem ws_RX5_yX5_weigh : Cond.selects RX5 yX5_weigh yX5_weigh ∈ TB := TB_mem (List.mem_of_getElem? (i := 868) (by decide +kernel)) rfl
theorem ws_RX11_yX11_best : Cond.selects RX11 yX11_best yX11_best ∈ TB := TB_mem (List.mem_of_getElem? (i := 872) (by decide +kernel)) rfl
theorem ws_RX11_yX11_match : Cond.selects RX11 yX11_match yX11_match ∈ TB := TB_mem (List.mem_of_getElem? (i := 876) (by decide +kernel)) rfl
theorem ws_RX4_yX4_add : Cond.selects RX4 yX4_add yX4_add ∈ TB := TB_mem (List.mem_of_getElem? (i := 881) (by decide +kernel)) rfl
theorem ws_RX11_yX11_table : Cond.selects RX11 yX11_table yX11_table ∈ TB := TB_mem (List.mem_of_getElem? (i := 885) (by decide +kernel)) rfl
theorem ws_RX4_yX4_playAll : Cond.selects RX4 yX4_playAll yX4_playAll ∈ TB := TB_mem (List.mem_of_getElem? (i := 889) (by decide +kernel)) rfl
theorem ws_RX0_yX0_attackedBy : Cond.selects RX0 yX0_attackedBy yX0_attackedBy ∈ TB := TB_mem (List.mem_of_getElem? (i := 893) (by decide +kernel)) rfl
theorem ws_RX4_yX4_rankOf : Cond.selects RX4 yX4_rankOf yX4_rankOf ∈ TB := TB_mem (List.mem_of_getElem? (i := 907) (by decide +kernel)) rfl
theorem ws_RX11_yX11_season : Cond.selects RX11 yX11_season yX11_season ∈ TB := TB_mem (List.mem_of_getElem? (i := 915) (by decide +kernel)) rfl
theorem ws_RX4_yX4_allRanks : Cond.selects RX4 yX4_allRanks yX4_allRanks ∈ TB := TB_mem (List.mem_of_getElem? (i := 919) (by decide +kernel)) rfl
theorem ws_RX11_yX11_stand : Cond.selects RX11 yX11_stand yX11_stand ∈ TB := TB_mem (List.mem_of_getElem? (i := 924) (by decide +kernel)) rfl
theorem ws_RX11_yX11_shown : Cond.selects RX11 yX11_shown yX11_shown ∈ TB := TB_mem (List.mem_of_getElem? (i := 930) (by decide +kernel)) rfl
theorem ws_RX2_yX2_add : Cond.selects RX2 yX2_add yX2_add ∈ TB := TB_mem (List.mem_of_getElem? (i := 934) (by decide +kernel)) rfl
theorem ws_RX11_yX11_split : Cond.selects RX11 yX11_split yX11_split ∈ TB := TB_mem (List.mem_of_getElem? (i := 939) (by decide +kernel)) rfl
theorem ws_RX2_yX2_fewestMarks : Cond.selects RX2 yX2_fewestMarks yX2_fewestMarks ∈ TB := TB_mem (List.mem_of_getElem? (i := 943) (by decide +kernel)) rfl
theorem ws_RX11_yX11_image : Cond.selects RX11 yX11_image yX11_image ∈ TB := TB_mem (List.mem_of_getElem? (i := 952) (by decide +kernel)) rfl
theorem ws_RX8_yX8_takeMenOf : Cond.selects RX8 yX8_takeMenOf yX8_takeMenOf ∈ TB := TB_mem (List.mem_of_getElem? (i := 956) (by decide +kernel)) rfl
theorem ws_RX11_yX11_back : Cond.selects RX11 yX11_back yX11_back ∈ TB := TB_mem (List.mem_of_getElem? (i := 960) (by decide +kernel)) rfl
theorem ws_RX11_yX11_count : Cond.selects RX11 yX11_count yX11_count ∈ TB := TB_mem (List.mem_of_getElem? (i := 964) (by decide +kernel)) rfl
theorem ws_RX11_yX11_sheet : Cond.selects RX11 yX11_sheet yX11_sheet ∈ TB := TB_mem (List.mem_of_getElem? (i := 968) (by decide +kernel)) rfl
theorem ws_RX7_yX7_layOut : Cond.selects RX7 yX7_layOut yX7_layOut ∈ TB := TB_mem (List.mem_of_getElem? (i := 972) (by decide +kernel)) rfl
theorem ws_RX11_yX11_cell : Cond.selects RX11 yX11_cell yX11_cell ∈ TB := TB_mem (List.mem_of_getElem? (i := 976) (by decide +kernel)) rfl
theorem ws_RX7_yX7_put : Cond.selects RX7 yX7_put yX7_put ∈ TB := TB_mem (List.mem_of_getElem? (i := 981) (by decide +kernel)) rfl
theorem ws_RX11_yX11_copy : Cond.selects RX11 yX11_copy yX11_copy ∈ TB := TB_mem (List.mem_of_getElem? (i := 985) (by decide +kernel)) rfl
theorem ws_RX7_yX7_hasRun : Cond.selects RX7 yX7_hasRun yX7_hasRun ∈ TB := TB_mem (List.mem_of_getElem? (i := 989) (by decide +kernel)) rfl
theorem ws_RX11_yX11_men : Cond.selects RX11 yX11_men yX11_men ∈ TB := TB_mem (List.mem_of_getElem? (i := 996) (by decide +kernel)) rfl
theorem ws_RX11_yX11_taken : Cond.selects RX11 yX11_taken yX11_taken ∈ TB := TB_mem (List.mem_of_getElem? (i := 1000) (by decide +kernel)) rfl
theorem ws_RX12_yX12_man : Cond.selects RX12 yX12_man yX12_man ∈ TB := TB_mem (List.mem_of_getElem? (i := 1212) (by decide +kernel)) rfl
theorem ws_RX12_yX12_part : Cond.selects RX12 yX12_part yX12_part ∈ TB := TB_mem (List.mem_of_getElem? (i := 1223) (by decide +kernel)) rfl
theorem ws_RX12_yX12_move : Cond.selects RX12 yX12_move yX12_move ∈ TB := TB_mem (List.mem_of_getElem? (i := 1233) (by decide +kernel)) rfl
theorem ws_RX12_yX12_feed : Cond.selects RX12 yX12_feed yX12_feed ∈ TB := TB_mem (List.mem_of_getElem? (i := 1237) (by decide +kernel)) rfl
theorem ws_RX12_yX12_text : Cond.selects RX12 yX12_text yX12_text ∈ TB := TB_mem (List.mem_of_getElem? (i := 1242) (by decide +kernel)) rfl
theorem ws_RX12_yX12_force : Cond.selects RX12 yX12_force yX12_force ∈ TB := TB_mem (List.mem_of_getElem? (i := 1328) (by decide +kernel)) rfl
theorem ws_RX12_yX12_says : Cond.selects RX12 yX12_says yX12_says ∈ TB := TB_mem (List.mem_of_getElem? (i := 1332) (by decide +kernel)) rfl
theorem ws_RX12_yX12_width : Cond.selects RX12 yX12_width yX12_width ∈ TB := TB_mem (List.mem_of_getElem? (i := 1342) (by decide +kernel)) rfl
theorem ws_RX12_yX12_front : Cond.selects RX12 yX12_front yX12_front ∈ TB := TB_mem (List.mem_of_getElem? (i := 1350) (by decide +kernel)) rfl
theorem ws_RX12_yX12_camera : Cond.selects RX12 yX12_camera yX12_camera ∈ TB := TB_mem (List.mem_of_getElem? (i := 1366) (by decide +kernel)) rfl
theorem ws_RX12_yX12_frame : Cond.selects RX12 yX12_frame yX12_frame ∈ TB := TB_mem (List.mem_of_getElem? (i := 1374) (by decide +kernel)) rfl
theorem ws_RX12_yX12_sees : Cond.selects RX12 yX12_sees yX12_sees ∈ TB := TB_mem (List.mem_of_getElem? (i := 1382) (by decide +kernel)) rfl
theorem ws_RX12_yX12_crosser : Cond.selects RX12 yX12_crosser yX12_crosser ∈ TB := TB_mem (List.mem_of_getElem? (i := 1392) (by decide +kernel)) rfl
theorem ws_RX12_yX12_call : Cond.selects RX12 yX12_call yX12_call ∈ TB := TB_mem (List.mem_of_getElem? (i := 1397) (by decide +kernel)) rfl
theorem ws_RX12_yX12_told : Cond.selects RX12 yX12_told yX12_told ∈ TB := TB_mem (List.mem_of_getElem? (i := 1402) (by decide +kernel)) rfl
theorem ws_RX12_yX12_offside : Cond.selects RX12 yX12_offside yX12_offside ∈ TB := TB_mem (List.mem_of_getElem? (i := 1450) (by decide +kernel)) rfl
theorem ws_RX12_yX12_wrong : Cond.selects RX12 yX12_wrong yX12_wrong ∈ TB := TB_mem (List.mem_of_getElem? (i := 1462) (by decide +kernel)) rfl
theorem ws_RX12_yX12_best : Cond.selects RX12 yX12_best yX12_best ∈ TB := TB_mem (List.mem_of_getElem? (i := 1477) (by decide +kernel)) rfl
theorem ws_RX12_yX12_match : Cond.selects RX12 yX12_match yX12_match ∈ TB := TB_mem (List.mem_of_getElem? (i := 1481) (by decide +kernel)) rfl
theorem ws_RX12_yX12_table : Cond.selects RX12 yX12_table yX12_table ∈ TB := TB_mem (List.mem_of_getElem? (i := 1485) (by decide +kernel)) rfl
theorem ws_RX12_yX12_season : Cond.selects RX12 yX12_season yX12_season ∈ TB := TB_mem (List.mem_of_getElem? (i := 1505) (by decide +kernel)) rfl
theorem ws_RX12_yX12_stand : Cond.selects RX12 yX12_stand yX12_stand ∈ TB := TB_mem (List.mem_of_getElem? (i := 1513) (by decide +kernel)) rfl
theorem ws_RX12_yX12_shown : Cond.selects RX12 yX12_shown yX12_shown ∈ TB := TB_mem (List.mem_of_getElem? (i := 1517) (by decide +kernel)) rfl
theorem ws_RX12_yX12_split : Cond.selects RX12 yX12_split yX12_split ∈ TB := TB_mem (List.mem_of_getElem? (i := 1522) (by decide +kernel)) rfl
theorem ws_RX12_yX12_image : Cond.selects RX12 yX12_image yX12_image ∈ TB := TB_mem (List.mem_of_getElem? (i := 1529) (by decide +kernel)) rfl
theorem ws_RX12_yX12_back : Cond.selects RX12 yX12_back yX12_back ∈ TB := TB_mem (List.mem_of_getElem? (i := 1533) (by decide +kernel)) rfl
theorem ws_RX12_yX12_count : Cond.selects RX12 yX12_count yX12_count ∈ TB := TB_mem (List.mem_of_getElem? (i := 1537) (by decide +kernel)) rfl
theorem ws_RX12_yX12_sheet : Cond.selects RX12 yX12_sheet yX12_sheet ∈ TB := TB_mem (List.mem_of_getElem? (i := 1541) (by decide +kernel)) rfl
theorem ws_RX12_yX12_cell : Cond.selects RX12 yX12_cell yX12_cell ∈ TB := TB_mem (List.mem_of_getElem? (i := 1545) (by decide +kernel)) rfl
theorem ws_RX12_yX12_copy : Cond.selects RX12 yX12_copy yX12_copy ∈ TB := TB_mem (List.mem_of_getElem? (i := 1549) (by decide +kernel)) rfl
theorem ws_RX12_yX12_men : Cond.selects RX12 yX12_men yX12_men ∈ TB := TB_mem (List.mem_of_getElem? (i := 1553) (by decide +kernel)) rfl
theorem ws_RX12_yX12_taken : Cond.selects RX12 yX12_taken yX12_taken ∈ TB := TB_mem (List.mem_of_getElem? (i := 1558) (by decide +kernel)) rfl
theorem ws_RX9_yX9_cutWord : Cond.selects RX9 yX9_cutWord yX9_cutWord ∈ TB := TB_mem (List.mem_of_getElem? (i := 0) (by decide +kernel)) rfl
theorem ws_RX9_yX9_wordAmong : Cond.selects RX9 yX9_wordAmong yX9_wordAmong ∈ TB := TB_mem (List.mem_of_getElem? (i := 1) (by decide +kernel)) rfl
theorem ws_RX9_yX9_note : Cond.selects RX9 yX9_note yX9_note ∈ TB := TB_mem (List.mem_of_getElem? (i := 2) (by decide +kernel)) rfl
theorem ws_RX9_yX9_cutNumber : Cond.selects RX9 yX9_cutNumber yX9_cutNumber ∈ TB := TB_mem (List.mem_of_getElem? (i := 3) (by decide +kernel)) rfl
theorem ws_RX6_yX6_readKeys : Cond.selects RX6 yX6_readKeys yX6_readKeys ∈ TB := TB_mem (List.mem_of_getElem? (i := 4) (by decide +kernel)) rfl
theorem ws_RX6_yX6_pass : Cond.selects RX6 yX6_pass yX6_pass ∈ TB := TB_mem (List.mem_of_getElem? (i := 5) (by decide +kernel)) rfl
theorem ws_RX6_yX6_kindNow : Cond.selects RX6 yX6_kindNow yX6_kindNow ∈ TB := TB_mem (List.mem_of_getElem? (i := 6) (by decide +kernel)) rfl
theorem ws_RX6_yX6_readOr : Cond.selects RX6 yX6_readOr yX6_readOr ∈ TB := TB_mem (List.mem_of_getElem? (i := 7) (by decide +kernel)) rfl
theorem ws_RX6_yX6_readAnd : Cond.selects RX6 yX6_readAnd yX6_readAnd ∈ TB := TB_mem (List.mem_of_getElem? (i := 8) (by decide +kernel)) rfl
theorem ws_RX6_yX6_readNot : Cond.selects RX6 yX6_readNot yX6_readNot ∈ TB := TB_mem (List.mem_of_getElem? (i := 9) (by decide +kernel)) rfl
theorem ws_RX6_yX6_emit : Cond.selects RX6 yX6_emit yX6_emit ∈ TB := TB_mem (List.mem_of_getElem? (i := 10) (by decide +kernel)) rfl
theorem ws_RX6_yX6_readSum : Cond.selects RX6 yX6_readSum yX6_readSum ∈ TB := TB_mem (List.mem_of_getElem? (i := 11) (by decide +kernel)) rfl
theorem ws_RX6_yX6_readTerm : Cond.selects RX6 yX6_readTerm yX6_readTerm ∈ TB := TB_mem (List.mem_of_getElem? (i := 12) (by decide +kernel)) rfl
theorem ws_RX6_yX6_readOne : Cond.selects RX6 yX6_readOne yX6_readOne ∈ TB := TB_mem (List.mem_of_getElem? (i := 13) (by decide +kernel)) rfl
theorem ws_RX4_yX4_score : Cond.selects RX4 yX4_score yX4_score ∈ TB := TB_mem (List.mem_of_getElem? (i := 14) (by decide +kernel)) rfl
theorem ws_RX4_yX4_isAbove : Cond.selects RX4 yX4_isAbove yX4_isAbove ∈ TB := TB_mem (List.mem_of_getElem? (i := 15) (by decide +kernel)) rfl
theorem ws_RX2_yX2_isSplitBy : Cond.selects RX2 yX2_isSplitBy yX2_isSplitBy ∈ TB := TB_mem (List.mem_of_getElem? (i := 16) (by decide +kernel)) rfl
theorem ws_RX12_yX12_spell : Cond.selects RX12 yX12_spell yX12_spell ∈ TB := TB_mem (List.mem_of_getElem? (i := 17) (by decide +kernel)) rfl
theorem ws_RX12_yX12_isMan : Cond.selects RX12 yX12_isMan yX12_isMan ∈ TB := TB_mem (List.mem_of_getElem? (i := 18) (by decide +kernel)) rfl
theorem ws_RX12_yX12_read : Cond.selects RX12 yX12_read yX12_read ∈ TB := TB_mem (List.mem_of_getElem? (i := 19) (by decide +kernel)) rfl
theorem ws_RX12_yX12_next : Cond.selects RX12 yX12_next yX12_next ∈ TB := TB_mem (List.mem_of_getElem? (i := 20) (by decide +kernel)) rfl
theorem ws_RX12_yX12_byteAt : Cond.selects RX12 yX12_byteAt yX12_byteAt ∈ TB := TB_mem (List.mem_of_getElem? (i := 21) (by decide +kernel)) rfl
theorem ws_RX12_yX12_section : Cond.selects RX12 yX12_section yX12_section ∈ TB := TB_mem (List.mem_of_getElem? (i := 22) (by decide +kernel)) rfl
theorem ws_RX12_yX12_isWord : Cond.selects RX12 yX12_isWord yX12_isWord ∈ TB := TB_mem (List.mem_of_getElem? (i := 23) (by decide +kernel)) rfl
theorem ws_RX12_yX12_fail : Cond.selects RX12 yX12_fail yX12_fail ∈ TB := TB_mem (List.mem_of_getElem? (i := 24) (by decide +kernel)) rfl
theorem ws_RX12_yX12_either : Cond.selects RX12 yX12_either yX12_either ∈ TB := TB_mem (List.mem_of_getElem? (i := 25) (by decide +kernel)) rfl
theorem ws_RX12_yX12_both : Cond.selects RX12 yX12_both yX12_both ∈ TB := TB_mem (List.mem_of_getElem? (i := 26) (by decide +kernel)) rfl
theorem ws_RX12_yX12_not : Cond.selects RX12 yX12_not yX12_not ∈ TB := TB_mem (List.mem_of_getElem? (i := 27) (by decide +kernel)) rfl
theorem ws_RX12_yX12_opens : Cond.selects RX12 yX12_opens yX12_opens ∈ TB := TB_mem (List.mem_of_getElem? (i := 28) (by decide +kernel)) rfl
theorem ws_RX12_yX12_added : Cond.selects RX12 yX12_added yX12_added ∈ TB := TB_mem (List.mem_of_getElem? (i := 29) (by decide +kernel)) rfl
theorem ws_RX12_yX12_term : Cond.selects RX12 yX12_term yX12_term ∈ TB := TB_mem (List.mem_of_getElem? (i := 30) (by decide +kernel)) rfl
theorem ws_RX12_yX12_one : Cond.selects RX12 yX12_one yX12_one ∈ TB := TB_mem (List.mem_of_getElem? (i := 31) (by decide +kernel)) rfl
theorem ws_RX12_yX12_isSign : Cond.selects RX12 yX12_isSign yX12_isSign ∈ TB := TB_mem (List.mem_of_getElem? (i := 32) (by decide +kernel)) rfl
theorem ws_RX12_yX12_name : Cond.selects RX12 yX12_name yX12_name ∈ TB := TB_mem (List.mem_of_getElem? (i := 33) (by decide +kernel)) rfl
theorem ws_RX12_yX12_frontOf : Cond.selects RX12 yX12_frontOf yX12_frontOf ∈ TB := TB_mem (List.mem_of_getElem? (i := 34) (by decide +kernel)) rfl
theorem ws_RX12_yX12_foremost : Cond.selects RX12 yX12_foremost yX12_foremost ∈ TB := TB_mem (List.mem_of_getElem? (i := 35) (by decide +kernel)) rfl
theorem ws_RX12_yX12_whereOf : Cond.selects RX12 yX12_whereOf yX12_whereOf ∈ TB := TB_mem (List.mem_of_getElem? (i := 36) (by decide +kernel)) rfl
theorem ws_RX12_yX12_frameOf : Cond.selects RX12 yX12_frameOf yX12_frameOf ∈ TB := TB_mem (List.mem_of_getElem? (i := 37) (by decide +kernel)) rfl
theorem ws_RX12_yX12_seen : Cond.selects RX12 yX12_seen yX12_seen ∈ TB := TB_mem (List.mem_of_getElem? (i := 38) (by decide +kernel)) rfl
theorem ws_RX12_yX12_isCall : Cond.selects RX12 yX12_isCall yX12_isCall ∈ TB := TB_mem (List.mem_of_getElem? (i := 39) (by decide +kernel)) rfl
theorem ws_RX12_yX12_spreadOf : Cond.selects RX12 yX12_spreadOf yX12_spreadOf ∈ TB := TB_mem (List.mem_of_getElem? (i := 40) (by decide +kernel)) rfl
theorem ws_RX12_yX12_marginBy : Cond.selects RX12 yX12_marginBy yX12_marginBy ∈ TB := TB_mem (List.mem_of_getElem? (i := 41) (by decide +kernel)) rfl
theorem ws_RX12_yX12_trueMargin : Cond.selects RX12 yX12_trueMargin yX12_trueMargin ∈ TB := TB_mem (List.mem_of_getElem? (i := 42) (by decide +kernel)) rfl
theorem ws_RX12_yX12_crossed : Cond.selects RX12 yX12_crossed yX12_crossed ∈ TB := TB_mem (List.mem_of_getElem? (i := 43) (by decide +kernel)) rfl
theorem ws_RX12_yX12_bandBy : Cond.selects RX12 yX12_bandBy yX12_bandBy ∈ TB := TB_mem (List.mem_of_getElem? (i := 44) (by decide +kernel)) rfl
theorem ws_RX12_yX12_nearOf : Cond.selects RX12 yX12_nearOf yX12_nearOf ∈ TB := TB_mem (List.mem_of_getElem? (i := 45) (by decide +kernel)) rfl
theorem ws_RX12_yX12_isAhead : Cond.selects RX12 yX12_isAhead yX12_isAhead ∈ TB := TB_mem (List.mem_of_getElem? (i := 46) (by decide +kernel)) rfl
theorem ws_RX12_yX12_isOffside : Cond.selects RX12 yX12_isOffside yX12_isOffside ∈ TB := TB_mem (List.mem_of_getElem? (i := 47) (by decide +kernel)) rfl
theorem ws_RX12_yX12_waysOf : Cond.selects RX12 yX12_waysOf yX12_waysOf ∈ TB := TB_mem (List.mem_of_getElem? (i := 48) (by decide +kernel)) rfl
theorem ws_RX12_yX12_turnsOf : Cond.selects RX12 yX12_turnsOf yX12_turnsOf ∈ TB := TB_mem (List.mem_of_getElem? (i := 49) (by decide +kernel)) rfl
theorem ws_RX12_yX12_all : Cond.selects RX12 yX12_all yX12_all ∈ TB := TB_mem (List.mem_of_getElem? (i := 50) (by decide +kernel)) rfl
theorem ws_RX12_yX12_offsides : Cond.selects RX12 yX12_offsides yX12_offsides ∈ TB := TB_mem (List.mem_of_getElem? (i := 51) (by decide +kernel)) rfl
theorem ws_RX12_yX12_widths : Cond.selects RX12 yX12_widths yX12_widths ∈ TB := TB_mem (List.mem_of_getElem? (i := 52) (by decide +kernel)) rfl
theorem ws_RX12_yX12_wrongs : Cond.selects RX12 yX12_wrongs yX12_wrongs ∈ TB := TB_mem (List.mem_of_getElem? (i := 53) (by decide +kernel)) rfl
theorem ws_RX12_yX12_tables : Cond.selects RX12 yX12_tables yX12_tables ∈ TB := TB_mem (List.mem_of_getElem? (i := 54) (by decide +kernel)) rfl
theorem ws_RX12_yX12_counts : Cond.selects RX12 yX12_counts yX12_counts ∈ TB := TB_mem (List.mem_of_getElem? (i := 55) (by decide +kernel)) rfl
theorem ws_RX12_yX12_rankOf : Cond.selects RX12 yX12_rankOf yX12_rankOf ∈ TB := TB_mem (List.mem_of_getElem? (i := 56) (by decide +kernel)) rfl
theorem ws_RX12_yX12_isAbove : Cond.selects RX12 yX12_isAbove yX12_isAbove ∈ TB := TB_mem (List.mem_of_getElem? (i := 57) (by decide +kernel)) rfl
theorem ws_RX12_yX12_ranks : Cond.selects RX12 yX12_ranks yX12_ranks ∈ TB := TB_mem (List.mem_of_getElem? (i := 58) (by decide +kernel)) rfl
theorem fl_RX8_9 : Cond.fieldLink RX8 9 "ArmpitLine$Squad" "side" "[I" ∈ TB := TB_mem (List.mem_of_getElem? (i := 100) (by decide +kernel)) rfl
theorem fl_RX5_60 : Cond.fieldLink RX5 60 "ArmpitLine$Squad" "side" "[I" ∈ TB := TB_mem (List.mem_of_getElem? (i := 101) (by decide +kernel)) rfl
theorem fl_RX11_193 : Cond.fieldLink RX11 193 "ArmpitLine$Squad" "side" "[I" ∈ TB := TB_mem (List.mem_of_getElem? (i := 102) (by decide +kernel)) rfl
theorem fl_RX8_15 : Cond.fieldLink RX8 15 "ArmpitLine$Squad" "place" "[I" ∈ TB := TB_mem (List.mem_of_getElem? (i := 103) (by decide +kernel)) rfl
theorem fl_RX5_64 : Cond.fieldLink RX5 64 "ArmpitLine$Squad" "place" "[I" ∈ TB := TB_mem (List.mem_of_getElem? (i := 104) (by decide +kernel)) rfl
theorem fl_RX11_115 : Cond.fieldLink RX11 115 "ArmpitLine$Squad" "place" "[I" ∈ TB := TB_mem (List.mem_of_getElem? (i := 105) (by decide +kernel)) rfl
theorem fl_RX8_18 : Cond.fieldLink RX8 18 "ArmpitLine$Squad" "speed" "[I" ∈ TB := TB_mem (List.mem_of_getElem? (i := 106) (by decide +kernel)) rfl
theorem fl_RX5_67 : Cond.fieldLink RX5 67 "ArmpitLine$Squad" "speed" "[I" ∈ TB := TB_mem (List.mem_of_getElem? (i := 107) (by decide +kernel)) rfl
theorem fl_RX11_121 : Cond.fieldLink RX11 121 "ArmpitLine$Squad" "speed" "[I" ∈ TB := TB_mem (List.mem_of_getElem? (i := 108) (by decide +kernel)) rfl
theorem fl_RX8_21 : Cond.fieldLink RX8 21 "ArmpitLine$Squad" "off" "[I" ∈ TB := TB_mem (List.mem_of_getElem? (i := 109) (by decide +kernel)) rfl
theorem fl_RX11_108 : Cond.fieldLink RX11 108 "ArmpitLine$Squad" "off" "[I" ∈ TB := TB_mem (List.mem_of_getElem? (i := 110) (by decide +kernel)) rfl
theorem fl_RX8_24 : Cond.fieldLink RX8 24 "ArmpitLine$Squad" "size" "I" ∈ TB := TB_mem (List.mem_of_getElem? (i := 111) (by decide +kernel)) rfl
theorem fl_RX11_292 : Cond.fieldLink RX11 292 "ArmpitLine$Squad" "size" "I" ∈ TB := TB_mem (List.mem_of_getElem? (i := 112) (by decide +kernel)) rfl
theorem fl_RX1_9 : Cond.fieldLink RX1 9 "ArmpitLine$Cameras" "every" "[I" ∈ TB := TB_mem (List.mem_of_getElem? (i := 131) (by decide +kernel)) rfl
theorem fl_RX1_15 : Cond.fieldLink RX1 15 "ArmpitLine$Cameras" "first" "[I" ∈ TB := TB_mem (List.mem_of_getElem? (i := 132) (by decide +kernel)) rfl
theorem fl_RX1_18 : Cond.fieldLink RX1 18 "ArmpitLine$Cameras" "slant" "[I" ∈ TB := TB_mem (List.mem_of_getElem? (i := 133) (by decide +kernel)) rfl
theorem fl_RX1_21 : Cond.fieldLink RX1 21 "ArmpitLine$Cameras" "size" "I" ∈ TB := TB_mem (List.mem_of_getElem? (i := 134) (by decide +kernel)) rfl
theorem fl_RX11_307 : Cond.fieldLink RX11 307 "ArmpitLine$Cameras" "size" "I" ∈ TB := TB_mem (List.mem_of_getElem? (i := 135) (by decide +kernel)) rfl
theorem fl_RX3_9 : Cond.fieldLink RX3 9 "ArmpitLine$Crossers" "lean" "[I" ∈ TB := TB_mem (List.mem_of_getElem? (i := 151) (by decide +kernel)) rfl
theorem fl_RX5_105 : Cond.fieldLink RX5 105 "ArmpitLine$Crossers" "lean" "[I" ∈ TB := TB_mem (List.mem_of_getElem? (i := 152) (by decide +kernel)) rfl
theorem fl_RX3_15 : Cond.fieldLink RX3 15 "ArmpitLine$Crossers" "spread" "[I" ∈ TB := TB_mem (List.mem_of_getElem? (i := 153) (by decide +kernel)) rfl
theorem fl_RX5_162 : Cond.fieldLink RX5 162 "ArmpitLine$Crossers" "spread" "[I" ∈ TB := TB_mem (List.mem_of_getElem? (i := 154) (by decide +kernel)) rfl
theorem fl_RX3_18 : Cond.fieldLink RX3 18 "ArmpitLine$Crossers" "size" "I" ∈ TB := TB_mem (List.mem_of_getElem? (i := 155) (by decide +kernel)) rfl
theorem fl_RX11_308 : Cond.fieldLink RX11 308 "ArmpitLine$Crossers" "size" "I" ∈ TB := TB_mem (List.mem_of_getElem? (i := 156) (by decide +kernel)) rfl
theorem fl_RX10_9 : Cond.fieldLink RX10 9 "ArmpitLine$Texts" "code" "[I" ∈ TB := TB_mem (List.mem_of_getElem? (i := 170) (by decide +kernel)) rfl
theorem fl_RX10_15 : Cond.fieldLink RX10 15 "ArmpitLine$Texts" "start" "[I" ∈ TB := TB_mem (List.mem_of_getElem? (i := 171) (by decide +kernel)) rfl
theorem fl_RX10_18 : Cond.fieldLink RX10 18 "ArmpitLine$Texts" "end" "[I" ∈ TB := TB_mem (List.mem_of_getElem? (i := 172) (by decide +kernel)) rfl
theorem fl_RX10_21 : Cond.fieldLink RX10 21 "ArmpitLine$Texts" "name" "[I" ∈ TB := TB_mem (List.mem_of_getElem? (i := 173) (by decide +kernel)) rfl
theorem fl_RX10_24 : Cond.fieldLink RX10 24 "ArmpitLine$Texts" "stack" "[I" ∈ TB := TB_mem (List.mem_of_getElem? (i := 174) (by decide +kernel)) rfl
theorem fl_RX10_27 : Cond.fieldLink RX10 27 "ArmpitLine$Texts" "size" "I" ∈ TB := TB_mem (List.mem_of_getElem? (i := 175) (by decide +kernel)) rfl
theorem fl_RX11_176 : Cond.fieldLink RX11 176 "ArmpitLine$Texts" "size" "I" ∈ TB := TB_mem (List.mem_of_getElem? (i := 176) (by decide +kernel)) rfl
theorem fl_RX10_35 : Cond.fieldLink RX10 35 "ArmpitLine$Texts" "rule" "I" ∈ TB := TB_mem (List.mem_of_getElem? (i := 177) (by decide +kernel)) rfl
theorem fl_RX11_178 : Cond.fieldLink RX11 178 "ArmpitLine$Texts" "rule" "I" ∈ TB := TB_mem (List.mem_of_getElem? (i := 178) (by decide +kernel)) rfl
theorem fl_RX0_9 : Cond.fieldLink RX0 9 "ArmpitLine$Calls" "kind" "[I" ∈ TB := TB_mem (List.mem_of_getElem? (i := 200) (by decide +kernel)) rfl
theorem fl_RX5_150 : Cond.fieldLink RX5 150 "ArmpitLine$Calls" "kind" "[I" ∈ TB := TB_mem (List.mem_of_getElem? (i := 201) (by decide +kernel)) rfl
theorem fl_RX11_202 : Cond.fieldLink RX11 202 "ArmpitLine$Calls" "kind" "[I" ∈ TB := TB_mem (List.mem_of_getElem? (i := 202) (by decide +kernel)) rfl
theorem fl_RX0_15 : Cond.fieldLink RX0 15 "ArmpitLine$Calls" "first" "[I" ∈ TB := TB_mem (List.mem_of_getElem? (i := 203) (by decide +kernel)) rfl
theorem fl_RX5_96 : Cond.fieldLink RX5 96 "ArmpitLine$Calls" "first" "[I" ∈ TB := TB_mem (List.mem_of_getElem? (i := 204) (by decide +kernel)) rfl
theorem fl_RX0_18 : Cond.fieldLink RX0 18 "ArmpitLine$Calls" "other" "[I" ∈ TB := TB_mem (List.mem_of_getElem? (i := 205) (by decide +kernel)) rfl
theorem fl_RX5_102 : Cond.fieldLink RX5 102 "ArmpitLine$Calls" "other" "[I" ∈ TB := TB_mem (List.mem_of_getElem? (i := 206) (by decide +kernel)) rfl
theorem fl_RX0_21 : Cond.fieldLink RX0 21 "ArmpitLine$Calls" "tick" "[I" ∈ TB := TB_mem (List.mem_of_getElem? (i := 207) (by decide +kernel)) rfl
theorem fl_RX5_111 : Cond.fieldLink RX5 111 "ArmpitLine$Calls" "tick" "[I" ∈ TB := TB_mem (List.mem_of_getElem? (i := 208) (by decide +kernel)) rfl
theorem fl_RX11_338 : Cond.fieldLink RX11 338 "ArmpitLine$Calls" "tick" "[I" ∈ TB := TB_mem (List.mem_of_getElem? (i := 209) (by decide +kernel)) rfl
theorem fl_RX0_24 : Cond.fieldLink RX0 24 "ArmpitLine$Calls" "camera" "[I" ∈ TB := TB_mem (List.mem_of_getElem? (i := 210) (by decide +kernel)) rfl
theorem fl_RX5_118 : Cond.fieldLink RX5 118 "ArmpitLine$Calls" "camera" "[I" ∈ TB := TB_mem (List.mem_of_getElem? (i := 211) (by decide +kernel)) rfl
theorem fl_RX0_27 : Cond.fieldLink RX0 27 "ArmpitLine$Calls" "crosser" "[I" ∈ TB := TB_mem (List.mem_of_getElem? (i := 212) (by decide +kernel)) rfl
theorem fl_RX5_108 : Cond.fieldLink RX5 108 "ArmpitLine$Calls" "crosser" "[I" ∈ TB := TB_mem (List.mem_of_getElem? (i := 213) (by decide +kernel)) rfl
theorem fl_RX0_30 : Cond.fieldLink RX0 30 "ArmpitLine$Calls" "attackers" "[I" ∈ TB := TB_mem (List.mem_of_getElem? (i := 214) (by decide +kernel)) rfl
theorem fl_RX0_33 : Cond.fieldLink RX0 33 "ArmpitLine$Calls" "size" "I" ∈ TB := TB_mem (List.mem_of_getElem? (i := 215) (by decide +kernel)) rfl
theorem fl_RX5_147 : Cond.fieldLink RX5 147 "ArmpitLine$Calls" "size" "I" ∈ TB := TB_mem (List.mem_of_getElem? (i := 216) (by decide +kernel)) rfl
theorem fl_RX11_309 : Cond.fieldLink RX11 309 "ArmpitLine$Calls" "size" "I" ∈ TB := TB_mem (List.mem_of_getElem? (i := 217) (by decide +kernel)) rfl
theorem fl_RX5_12 : Cond.fieldLink RX5 12 "ArmpitLine$Pitch" "squad" "LArmpitLine$Squad;" ∈ TB := TB_mem (List.mem_of_getElem? (i := 235) (by decide +kernel)) rfl
theorem fl_RX11_86 : Cond.fieldLink RX11 86 "ArmpitLine$Pitch" "squad" "LArmpitLine$Squad;" ∈ TB := TB_mem (List.mem_of_getElem? (i := 236) (by decide +kernel)) rfl
theorem fl_RX5_21 : Cond.fieldLink RX5 21 "ArmpitLine$Pitch" "cameras" "LArmpitLine$Cameras;" ∈ TB := TB_mem (List.mem_of_getElem? (i := 237) (by decide +kernel)) rfl
theorem fl_RX11_149 : Cond.fieldLink RX11 149 "ArmpitLine$Pitch" "cameras" "LArmpitLine$Cameras;" ∈ TB := TB_mem (List.mem_of_getElem? (i := 238) (by decide +kernel)) rfl
theorem fl_RX5_28 : Cond.fieldLink RX5 28 "ArmpitLine$Pitch" "crossers" "LArmpitLine$Crossers;" ∈ TB := TB_mem (List.mem_of_getElem? (i := 239) (by decide +kernel)) rfl
theorem fl_RX11_165 : Cond.fieldLink RX11 165 "ArmpitLine$Pitch" "crossers" "LArmpitLine$Crossers;" ∈ TB := TB_mem (List.mem_of_getElem? (i := 240) (by decide +kernel)) rfl
theorem fl_RX5_35 : Cond.fieldLink RX5 35 "ArmpitLine$Pitch" "texts" "LArmpitLine$Texts;" ∈ TB := TB_mem (List.mem_of_getElem? (i := 241) (by decide +kernel)) rfl
theorem fl_RX11_76 : Cond.fieldLink RX11 76 "ArmpitLine$Pitch" "texts" "LArmpitLine$Texts;" ∈ TB := TB_mem (List.mem_of_getElem? (i := 242) (by decide +kernel)) rfl
theorem fl_RX5_42 : Cond.fieldLink RX5 42 "ArmpitLine$Pitch" "calls" "LArmpitLine$Calls;" ∈ TB := TB_mem (List.mem_of_getElem? (i := 243) (by decide +kernel)) rfl
theorem fl_RX11_189 : Cond.fieldLink RX11 189 "ArmpitLine$Pitch" "calls" "LArmpitLine$Calls;" ∈ TB := TB_mem (List.mem_of_getElem? (i := 244) (by decide +kernel)) rfl
theorem fl_RX5_54 : Cond.fieldLink RX5 54 "ArmpitLine$Pitch" "asWidth" "I" ∈ TB := TB_mem (List.mem_of_getElem? (i := 245) (by decide +kernel)) rfl
theorem fl_RX5_46 : Cond.fieldLink RX5 46 "ArmpitLine$Pitch" "fallenSide" "I" ∈ TB := TB_mem (List.mem_of_getElem? (i := 246) (by decide +kernel)) rfl
theorem fl_RX5_57 : Cond.fieldLink RX5 57 "ArmpitLine$Pitch" "fallenBy" "I" ∈ TB := TB_mem (List.mem_of_getElem? (i := 247) (by decide +kernel)) rfl
theorem fl_RX5_156 : Cond.fieldLink RX5 156 "ArmpitLine$Pitch" "wrongGoals" "I" ∈ TB := TB_mem (List.mem_of_getElem? (i := 248) (by decide +kernel)) rfl
theorem fl_RX11_250 : Cond.fieldLink RX11 250 "ArmpitLine$Pitch" "wrongGoals" "I" ∈ TB := TB_mem (List.mem_of_getElem? (i := 249) (by decide +kernel)) rfl
theorem fl_RX5_159 : Cond.fieldLink RX5 159 "ArmpitLine$Pitch" "wrongNone" "I" ∈ TB := TB_mem (List.mem_of_getElem? (i := 250) (by decide +kernel)) rfl
theorem fl_RX11_253 : Cond.fieldLink RX11 253 "ArmpitLine$Pitch" "wrongNone" "I" ∈ TB := TB_mem (List.mem_of_getElem? (i := 251) (by decide +kernel)) rfl
theorem fl_RX9_9 : Cond.fieldLink RX9 9 "ArmpitLine$Tape" "fed" "[I" ∈ TB := TB_mem (List.mem_of_getElem? (i := 285) (by decide +kernel)) rfl
theorem fl_RX9_24 : Cond.fieldLink RX9 24 "ArmpitLine$Tape" "size" "I" ∈ TB := TB_mem (List.mem_of_getElem? (i := 286) (by decide +kernel)) rfl
theorem fl_RX6_45 : Cond.fieldLink RX6 45 "ArmpitLine$Tape" "size" "I" ∈ TB := TB_mem (List.mem_of_getElem? (i := 287) (by decide +kernel)) rfl
theorem fl_RX11_173 : Cond.fieldLink RX11 173 "ArmpitLine$Tape" "size" "I" ∈ TB := TB_mem (List.mem_of_getElem? (i := 288) (by decide +kernel)) rfl
theorem fl_RX9_15 : Cond.fieldLink RX9 15 "ArmpitLine$Tape" "kind" "[I" ∈ TB := TB_mem (List.mem_of_getElem? (i := 289) (by decide +kernel)) rfl
theorem fl_RX6_59 : Cond.fieldLink RX6 59 "ArmpitLine$Tape" "kind" "[I" ∈ TB := TB_mem (List.mem_of_getElem? (i := 290) (by decide +kernel)) rfl
theorem fl_RX9_18 : Cond.fieldLink RX9 18 "ArmpitLine$Tape" "value" "[I" ∈ TB := TB_mem (List.mem_of_getElem? (i := 291) (by decide +kernel)) rfl
theorem fl_RX6_81 : Cond.fieldLink RX6 81 "ArmpitLine$Tape" "value" "[I" ∈ TB := TB_mem (List.mem_of_getElem? (i := 292) (by decide +kernel)) rfl
theorem fl_RX9_21 : Cond.fieldLink RX9 21 "ArmpitLine$Tape" "start" "[I" ∈ TB := TB_mem (List.mem_of_getElem? (i := 293) (by decide +kernel)) rfl
theorem fl_RX6_42 : Cond.fieldLink RX6 42 "ArmpitLine$Tape" "start" "[I" ∈ TB := TB_mem (List.mem_of_getElem? (i := 294) (by decide +kernel)) rfl
theorem fl_RX6_39 : Cond.fieldLink RX6 39 "ArmpitLine$Tape" "tokens" "I" ∈ TB := TB_mem (List.mem_of_getElem? (i := 295) (by decide +kernel)) rfl
theorem fl_RX9_28 : Cond.fieldLink RX9 28 "ArmpitLine$Tape" "tokens" "I" ∈ TB := TB_mem (List.mem_of_getElem? (i := 296) (by decide +kernel)) rfl
theorem fl_RX6_12 : Cond.fieldLink RX6 12 "ArmpitLine$Reader" "tape" "LArmpitLine$Tape;" ∈ TB := TB_mem (List.mem_of_getElem? (i := 310) (by decide +kernel)) rfl
theorem fl_RX11_59 : Cond.fieldLink RX11 59 "ArmpitLine$Reader" "tape" "LArmpitLine$Tape;" ∈ TB := TB_mem (List.mem_of_getElem? (i := 311) (by decide +kernel)) rfl
theorem fl_RX6_18 : Cond.fieldLink RX6 18 "ArmpitLine$Reader" "code" "[I" ∈ TB := TB_mem (List.mem_of_getElem? (i := 312) (by decide +kernel)) rfl
theorem fl_RX10_31 : Cond.fieldLink RX10 31 "ArmpitLine$Reader" "code" "[I" ∈ TB := TB_mem (List.mem_of_getElem? (i := 313) (by decide +kernel)) rfl
theorem fl_RX6_22 : Cond.fieldLink RX6 22 "ArmpitLine$Reader" "end" "[I" ∈ TB := TB_mem (List.mem_of_getElem? (i := 314) (by decide +kernel)) rfl
theorem fl_RX10_34 : Cond.fieldLink RX10 34 "ArmpitLine$Reader" "end" "[I" ∈ TB := TB_mem (List.mem_of_getElem? (i := 315) (by decide +kernel)) rfl
theorem fl_RX6_32 : Cond.fieldLink RX6 32 "ArmpitLine$Reader" "used" "I" ∈ TB := TB_mem (List.mem_of_getElem? (i := 316) (by decide +kernel)) rfl
theorem fl_RX6_28 : Cond.fieldLink RX6 28 "ArmpitLine$Reader" "at" "I" ∈ TB := TB_mem (List.mem_of_getElem? (i := 317) (by decide +kernel)) rfl
theorem fl_RX4_9 : Cond.fieldLink RX4 9 "ArmpitLine$League" "home" "[I" ∈ TB := TB_mem (List.mem_of_getElem? (i := 335) (by decide +kernel)) rfl
theorem fl_RX4_15 : Cond.fieldLink RX4 15 "ArmpitLine$League" "guest" "[I" ∈ TB := TB_mem (List.mem_of_getElem? (i := 336) (by decide +kernel)) rfl
theorem fl_RX4_18 : Cond.fieldLink RX4 18 "ArmpitLine$League" "goals" "[I" ∈ TB := TB_mem (List.mem_of_getElem? (i := 337) (by decide +kernel)) rfl
theorem fl_RX4_21 : Cond.fieldLink RX4 21 "ArmpitLine$League" "calls" "[I" ∈ TB := TB_mem (List.mem_of_getElem? (i := 338) (by decide +kernel)) rfl
theorem fl_RX4_33 : Cond.fieldLink RX4 33 "ArmpitLine$League" "size" "I" ∈ TB := TB_mem (List.mem_of_getElem? (i := 339) (by decide +kernel)) rfl
theorem fl_RX11_310 : Cond.fieldLink RX11 310 "ArmpitLine$League" "size" "I" ∈ TB := TB_mem (List.mem_of_getElem? (i := 340) (by decide +kernel)) rfl
theorem fl_RX4_24 : Cond.fieldLink RX4 24 "ArmpitLine$League" "points" "[I" ∈ TB := TB_mem (List.mem_of_getElem? (i := 341) (by decide +kernel)) rfl
theorem fl_RX11_266 : Cond.fieldLink RX11 266 "ArmpitLine$League" "points" "[I" ∈ TB := TB_mem (List.mem_of_getElem? (i := 342) (by decide +kernel)) rfl
theorem fl_RX4_27 : Cond.fieldLink RX4 27 "ArmpitLine$League" "goalsFor" "[I" ∈ TB := TB_mem (List.mem_of_getElem? (i := 343) (by decide +kernel)) rfl
theorem fl_RX11_269 : Cond.fieldLink RX11 269 "ArmpitLine$League" "goalsFor" "[I" ∈ TB := TB_mem (List.mem_of_getElem? (i := 344) (by decide +kernel)) rfl
theorem fl_RX4_30 : Cond.fieldLink RX4 30 "ArmpitLine$League" "goalsAgainst" "[I" ∈ TB := TB_mem (List.mem_of_getElem? (i := 345) (by decide +kernel)) rfl
theorem fl_RX11_272 : Cond.fieldLink RX11 272 "ArmpitLine$League" "goalsAgainst" "[I" ∈ TB := TB_mem (List.mem_of_getElem? (i := 346) (by decide +kernel)) rfl
theorem fl_RX2_9 : Cond.fieldLink RX2 9 "ArmpitLine$Cases" "marks" "[I" ∈ TB := TB_mem (List.mem_of_getElem? (i := 370) (by decide +kernel)) rfl
theorem fl_RX2_15 : Cond.fieldLink RX2 15 "ArmpitLine$Cases" "word" "[I" ∈ TB := TB_mem (List.mem_of_getElem? (i := 371) (by decide +kernel)) rfl
theorem fl_RX2_18 : Cond.fieldLink RX2 18 "ArmpitLine$Cases" "wordBy" "[I" ∈ TB := TB_mem (List.mem_of_getElem? (i := 372) (by decide +kernel)) rfl
theorem fl_RX2_25 : Cond.fieldLink RX2 25 "ArmpitLine$Cases" "size" "I" ∈ TB := TB_mem (List.mem_of_getElem? (i := 373) (by decide +kernel)) rfl
theorem fl_RX11_311 : Cond.fieldLink RX11 311 "ArmpitLine$Cases" "size" "I" ∈ TB := TB_mem (List.mem_of_getElem? (i := 374) (by decide +kernel)) rfl
theorem fl_RX7_9 : Cond.fieldLink RX7 9 "ArmpitLine$Sheets" "sort" "[I" ∈ TB := TB_mem (List.mem_of_getElem? (i := 390) (by decide +kernel)) rfl
theorem fl_RX11_320 : Cond.fieldLink RX11 320 "ArmpitLine$Sheets" "sort" "[I" ∈ TB := TB_mem (List.mem_of_getElem? (i := 391) (by decide +kernel)) rfl
theorem fl_RX7_15 : Cond.fieldLink RX7 15 "ArmpitLine$Sheets" "size" "[I" ∈ TB := TB_mem (List.mem_of_getElem? (i := 392) (by decide +kernel)) rfl
theorem fl_RX11_256 : Cond.fieldLink RX11 256 "ArmpitLine$Sheets" "size" "[I" ∈ TB := TB_mem (List.mem_of_getElem? (i := 393) (by decide +kernel)) rfl
theorem fl_RX7_18 : Cond.fieldLink RX7 18 "ArmpitLine$Sheets" "item" "[I" ∈ TB := TB_mem (List.mem_of_getElem? (i := 394) (by decide +kernel)) rfl
theorem fl_RX11_326 : Cond.fieldLink RX11 326 "ArmpitLine$Sheets" "item" "[I" ∈ TB := TB_mem (List.mem_of_getElem? (i := 395) (by decide +kernel)) rfl
theorem fl_RJ0_38 : Cond.fieldLink RJ0 38 "java/lang/String" "COMPACT_STRINGS" "Z" ∈ TB := TB_mem (List.mem_of_getElem? (i := 414) (by decide +kernel)) rfl
theorem fl_RJ0_1053 : Cond.fieldLink RJ0 1053 "jdk/internal/util/Preconditions" "SIOOBE_FORMATTER" "Ljava/util/function/BiFunction;" ∈ TB := TB_mem (List.mem_of_getElem? (i := 430) (by decide +kernel)) rfl
theorem fl_RJ2_44 : Cond.fieldLink RJ2 44 "java/lang/StringUTF16" "$assertionsDisabled" "Z" ∈ TB := TB_mem (List.mem_of_getElem? (i := 448) (by decide +kernel)) rfl
theorem fl_RJ2_59 : Cond.fieldLink RJ2 59 "java/lang/StringUTF16" "HI_BYTE_SHIFT" "I" ∈ TB := TB_mem (List.mem_of_getElem? (i := 450) (by decide +kernel)) rfl
theorem fl_RJ2_63 : Cond.fieldLink RJ2 63 "java/lang/StringUTF16" "LO_BYTE_SHIFT" "I" ∈ TB := TB_mem (List.mem_of_getElem? (i := 452) (by decide +kernel)) rfl
theorem fl_RX11_12 : Cond.fieldLink RX11 12 "ArmpitLine" "pitch" "LArmpitLine$Pitch;" ∈ TB := TB_mem (List.mem_of_getElem? (i := 544) (by decide +kernel)) rfl
theorem fl_RX11_19 : Cond.fieldLink RX11 19 "ArmpitLine" "reader" "LArmpitLine$Reader;" ∈ TB := TB_mem (List.mem_of_getElem? (i := 545) (by decide +kernel)) rfl
theorem fl_RX11_26 : Cond.fieldLink RX11 26 "ArmpitLine" "league" "LArmpitLine$League;" ∈ TB := TB_mem (List.mem_of_getElem? (i := 546) (by decide +kernel)) rfl
theorem fl_RX11_33 : Cond.fieldLink RX11 33 "ArmpitLine" "cases" "LArmpitLine$Cases;" ∈ TB := TB_mem (List.mem_of_getElem? (i := 547) (by decide +kernel)) rfl
theorem fl_RX11_40 : Cond.fieldLink RX11 40 "ArmpitLine" "sheets" "LArmpitLine$Sheets;" ∈ TB := TB_mem (List.mem_of_getElem? (i := 548) (by decide +kernel)) rfl
theorem fl_RX11_47 : Cond.fieldLink RX11 47 "ArmpitLine" "keptSquad" "LArmpitLine$Squad;" ∈ TB := TB_mem (List.mem_of_getElem? (i := 549) (by decide +kernel)) rfl
theorem fl_RX11_297 : Cond.fieldLink RX11 297 "ArmpitLine" "keptWidth" "I" ∈ TB := TB_mem (List.mem_of_getElem? (i := 550) (by decide +kernel)) rfl
theorem fl_RX11_300 : Cond.fieldLink RX11 300 "ArmpitLine" "keptRule" "I" ∈ TB := TB_mem (List.mem_of_getElem? (i := 551) (by decide +kernel)) rfl
theorem fl_RX11_303 : Cond.fieldLink RX11 303 "ArmpitLine" "isImageKept" "Z" ∈ TB := TB_mem (List.mem_of_getElem? (i := 552) (by decide +kernel)) rfl
theorem fl_RX11_129 : Cond.fieldLink RX11 129 "ArmpitLine" "widthNow" "I" ∈ TB := TB_mem (List.mem_of_getElem? (i := 553) (by decide +kernel)) rfl
theorem fl_RX11_341 : Cond.fieldLink RX11 341 "ArmpitLine" "KIND_ABOVE" "[I" ∈ TB := TB_mem (List.mem_of_getElem? (i := 761) (by decide +kernel)) rfl
theorem fl_RX12_13 : Cond.fieldLink RX12 13 "ArmpitLineModel" "texts" "[I" ∈ TB := TB_mem (List.mem_of_getElem? (i := 1020) (by decide +kernel)) rfl
theorem fl_RX12_17 : Cond.fieldLink RX12 17 "ArmpitLineModel" "textSize" "[I" ∈ TB := TB_mem (List.mem_of_getElem? (i := 1021) (by decide +kernel)) rfl
theorem fl_RX12_130 : Cond.fieldLink RX12 130 "ArmpitLineModel" "textCount" "I" ∈ TB := TB_mem (List.mem_of_getElem? (i := 1022) (by decide +kernel)) rfl
theorem fl_RX12_303 : Cond.fieldLink RX12 303 "ArmpitLineModel" "rule" "I" ∈ TB := TB_mem (List.mem_of_getElem? (i := 1023) (by decide +kernel)) rfl
theorem fl_RX12_20 : Cond.fieldLink RX12 20 "ArmpitLineModel" "tape" "[I" ∈ TB := TB_mem (List.mem_of_getElem? (i := 1024) (by decide +kernel)) rfl
theorem fl_RX12_164 : Cond.fieldLink RX12 164 "ArmpitLineModel" "taped" "I" ∈ TB := TB_mem (List.mem_of_getElem? (i := 1025) (by decide +kernel)) rfl
theorem fl_RX12_23 : Cond.fieldLink RX12 23 "ArmpitLineModel" "side" "[I" ∈ TB := TB_mem (List.mem_of_getElem? (i := 1026) (by decide +kernel)) rfl
theorem fl_RX12_26 : Cond.fieldLink RX12 26 "ArmpitLineModel" "place" "[I" ∈ TB := TB_mem (List.mem_of_getElem? (i := 1027) (by decide +kernel)) rfl
theorem fl_RX12_29 : Cond.fieldLink RX12 29 "ArmpitLineModel" "speed" "[I" ∈ TB := TB_mem (List.mem_of_getElem? (i := 1028) (by decide +kernel)) rfl
theorem fl_RX12_32 : Cond.fieldLink RX12 32 "ArmpitLineModel" "parts" "[I" ∈ TB := TB_mem (List.mem_of_getElem? (i := 1029) (by decide +kernel)) rfl
theorem fl_RX12_135 : Cond.fieldLink RX12 135 "ArmpitLineModel" "men" "I" ∈ TB := TB_mem (List.mem_of_getElem? (i := 1030) (by decide +kernel)) rfl
theorem fl_RX12_247 : Cond.fieldLink RX12 247 "ArmpitLineModel" "width" "I" ∈ TB := TB_mem (List.mem_of_getElem? (i := 1031) (by decide +kernel)) rfl
theorem fl_RX12_170 : Cond.fieldLink RX12 170 "ArmpitLineModel" "from" "I" ∈ TB := TB_mem (List.mem_of_getElem? (i := 1032) (by decide +kernel)) rfl
theorem fl_RX12_167 : Cond.fieldLink RX12 167 "ArmpitLineModel" "size" "I" ∈ TB := TB_mem (List.mem_of_getElem? (i := 1033) (by decide +kernel)) rfl
theorem fl_RX12_183 : Cond.fieldLink RX12 183 "ArmpitLineModel" "token" "I" ∈ TB := TB_mem (List.mem_of_getElem? (i := 1034) (by decide +kernel)) rfl
theorem fl_RX12_180 : Cond.fieldLink RX12 180 "ArmpitLineModel" "tokenAt" "I" ∈ TB := TB_mem (List.mem_of_getElem? (i := 1035) (by decide +kernel)) rfl
theorem fl_RX12_190 : Cond.fieldLink RX12 190 "ArmpitLineModel" "tokenWorth" "J" ∈ TB := TB_mem (List.mem_of_getElem? (i := 1036) (by decide +kernel)) rfl
theorem fl_RX12_173 : Cond.fieldLink RX12 173 "ArmpitLineModel" "here" "I" ∈ TB := TB_mem (List.mem_of_getElem? (i := 1037) (by decide +kernel)) rfl
theorem fl_RX12_213 : Cond.fieldLink RX12 213 "ArmpitLineModel" "open" "I" ∈ TB := TB_mem (List.mem_of_getElem? (i := 1038) (by decide +kernel)) rfl
theorem fl_RX12_206 : Cond.fieldLink RX12 206 "ArmpitLineModel" "bad" "Z" ∈ TB := TB_mem (List.mem_of_getElem? (i := 1039) (by decide +kernel)) rfl
theorem fl_RX12_210 : Cond.fieldLink RX12 210 "ArmpitLineModel" "fault" "I" ∈ TB := TB_mem (List.mem_of_getElem? (i := 1040) (by decide +kernel)) rfl
theorem fl_RX12_233 : Cond.fieldLink RX12 233 "ArmpitLineModel" "aboutMan" "I" ∈ TB := TB_mem (List.mem_of_getElem? (i := 1041) (by decide +kernel)) rfl
theorem fl_RX12_228 : Cond.fieldLink RX12 228 "ArmpitLineModel" "aboutPart" "I" ∈ TB := TB_mem (List.mem_of_getElem? (i := 1042) (by decide +kernel)) rfl
theorem fl_RX12_242 : Cond.fieldLink RX12 242 "ArmpitLineModel" "aboutTick" "I" ∈ TB := TB_mem (List.mem_of_getElem? (i := 1043) (by decide +kernel)) rfl
theorem fl_RX12_319 : Cond.fieldLink RX12 319 "ArmpitLineModel" "lessSide" "I" ∈ TB := TB_mem (List.mem_of_getElem? (i := 1044) (by decide +kernel)) rfl
theorem fl_RX12_316 : Cond.fieldLink RX12 316 "ArmpitLineModel" "less" "I" ∈ TB := TB_mem (List.mem_of_getElem? (i := 1045) (by decide +kernel)) rfl
theorem fl_RX12_322 : Cond.fieldLink RX12 322 "ArmpitLineModel" "anyCounts" "Z" ∈ TB := TB_mem (List.mem_of_getElem? (i := 1046) (by decide +kernel)) rfl
theorem fl_RX12_35 : Cond.fieldLink RX12 35 "ArmpitLineModel" "every" "[I" ∈ TB := TB_mem (List.mem_of_getElem? (i := 1047) (by decide +kernel)) rfl
theorem fl_RX12_38 : Cond.fieldLink RX12 38 "ArmpitLineModel" "first" "[I" ∈ TB := TB_mem (List.mem_of_getElem? (i := 1048) (by decide +kernel)) rfl
theorem fl_RX12_41 : Cond.fieldLink RX12 41 "ArmpitLineModel" "slant" "[I" ∈ TB := TB_mem (List.mem_of_getElem? (i := 1049) (by decide +kernel)) rfl
theorem fl_RX12_343 : Cond.fieldLink RX12 343 "ArmpitLineModel" "cameras" "I" ∈ TB := TB_mem (List.mem_of_getElem? (i := 1050) (by decide +kernel)) rfl
theorem fl_RX12_44 : Cond.fieldLink RX12 44 "ArmpitLineModel" "lean" "[I" ∈ TB := TB_mem (List.mem_of_getElem? (i := 1051) (by decide +kernel)) rfl
theorem fl_RX12_47 : Cond.fieldLink RX12 47 "ArmpitLineModel" "spread" "[I" ∈ TB := TB_mem (List.mem_of_getElem? (i := 1052) (by decide +kernel)) rfl
theorem fl_RX12_358 : Cond.fieldLink RX12 358 "ArmpitLineModel" "crossers" "I" ∈ TB := TB_mem (List.mem_of_getElem? (i := 1053) (by decide +kernel)) rfl
theorem fl_RX12_50 : Cond.fieldLink RX12 50 "ArmpitLineModel" "kind" "[I" ∈ TB := TB_mem (List.mem_of_getElem? (i := 1054) (by decide +kernel)) rfl
theorem fl_RX12_53 : Cond.fieldLink RX12 53 "ArmpitLineModel" "attacks" "[I" ∈ TB := TB_mem (List.mem_of_getElem? (i := 1055) (by decide +kernel)) rfl
theorem fl_RX12_56 : Cond.fieldLink RX12 56 "ArmpitLineModel" "defends" "[I" ∈ TB := TB_mem (List.mem_of_getElem? (i := 1056) (by decide +kernel)) rfl
theorem fl_RX12_59 : Cond.fieldLink RX12 59 "ArmpitLineModel" "tickOf" "[I" ∈ TB := TB_mem (List.mem_of_getElem? (i := 1057) (by decide +kernel)) rfl
theorem fl_RX12_62 : Cond.fieldLink RX12 62 "ArmpitLineModel" "byCamera" "[I" ∈ TB := TB_mem (List.mem_of_getElem? (i := 1058) (by decide +kernel)) rfl
theorem fl_RX12_65 : Cond.fieldLink RX12 65 "ArmpitLineModel" "byCrosser" "[I" ∈ TB := TB_mem (List.mem_of_getElem? (i := 1059) (by decide +kernel)) rfl
theorem fl_RX12_363 : Cond.fieldLink RX12 363 "ArmpitLineModel" "calls" "I" ∈ TB := TB_mem (List.mem_of_getElem? (i := 1060) (by decide +kernel)) rfl
theorem fl_RX12_68 : Cond.fieldLink RX12 68 "ArmpitLineModel" "home" "[I" ∈ TB := TB_mem (List.mem_of_getElem? (i := 1061) (by decide +kernel)) rfl
theorem fl_RX12_71 : Cond.fieldLink RX12 71 "ArmpitLineModel" "away" "[I" ∈ TB := TB_mem (List.mem_of_getElem? (i := 1062) (by decide +kernel)) rfl
theorem fl_RX12_74 : Cond.fieldLink RX12 74 "ArmpitLineModel" "homeGoals" "[I" ∈ TB := TB_mem (List.mem_of_getElem? (i := 1063) (by decide +kernel)) rfl
theorem fl_RX12_77 : Cond.fieldLink RX12 77 "ArmpitLineModel" "awayGoals" "[I" ∈ TB := TB_mem (List.mem_of_getElem? (i := 1064) (by decide +kernel)) rfl
theorem fl_RX12_80 : Cond.fieldLink RX12 80 "ArmpitLineModel" "goalCalls" "[I" ∈ TB := TB_mem (List.mem_of_getElem? (i := 1065) (by decide +kernel)) rfl
theorem fl_RX12_417 : Cond.fieldLink RX12 417 "ArmpitLineModel" "matches" "I" ∈ TB := TB_mem (List.mem_of_getElem? (i := 1066) (by decide +kernel)) rfl
theorem fl_RX12_83 : Cond.fieldLink RX12 83 "ArmpitLineModel" "points" "[I" ∈ TB := TB_mem (List.mem_of_getElem? (i := 1067) (by decide +kernel)) rfl
theorem fl_RX12_86 : Cond.fieldLink RX12 86 "ArmpitLineModel" "goalsFor" "[I" ∈ TB := TB_mem (List.mem_of_getElem? (i := 1068) (by decide +kernel)) rfl
theorem fl_RX12_89 : Cond.fieldLink RX12 89 "ArmpitLineModel" "goalsAgainst" "[I" ∈ TB := TB_mem (List.mem_of_getElem? (i := 1069) (by decide +kernel)) rfl
theorem fl_RX12_92 : Cond.fieldLink RX12 92 "ArmpitLineModel" "marks" "[I" ∈ TB := TB_mem (List.mem_of_getElem? (i := 1070) (by decide +kernel)) rfl
theorem fl_RX12_95 : Cond.fieldLink RX12 95 "ArmpitLineModel" "words" "[I" ∈ TB := TB_mem (List.mem_of_getElem? (i := 1071) (by decide +kernel)) rfl
theorem fl_RX12_439 : Cond.fieldLink RX12 439 "ArmpitLineModel" "cases" "I" ∈ TB := TB_mem (List.mem_of_getElem? (i := 1072) (by decide +kernel)) rfl
theorem fl_RX12_98 : Cond.fieldLink RX12 98 "ArmpitLineModel" "image" "[I" ∈ TB := TB_mem (List.mem_of_getElem? (i := 1073) (by decide +kernel)) rfl
theorem fl_RX12_445 : Cond.fieldLink RX12 445 "ArmpitLineModel" "hasImage" "Z" ∈ TB := TB_mem (List.mem_of_getElem? (i := 1074) (by decide +kernel)) rfl
theorem fl_RX12_448 : Cond.fieldLink RX12 448 "ArmpitLineModel" "imageMen" "I" ∈ TB := TB_mem (List.mem_of_getElem? (i := 1075) (by decide +kernel)) rfl
theorem fl_RX12_451 : Cond.fieldLink RX12 451 "ArmpitLineModel" "imageWidth" "I" ∈ TB := TB_mem (List.mem_of_getElem? (i := 1076) (by decide +kernel)) rfl
theorem fl_RX12_454 : Cond.fieldLink RX12 454 "ArmpitLineModel" "imageRule" "I" ∈ TB := TB_mem (List.mem_of_getElem? (i := 1077) (by decide +kernel)) rfl
theorem fl_RX12_101 : Cond.fieldLink RX12 101 "ArmpitLineModel" "isThere" "[Z" ∈ TB := TB_mem (List.mem_of_getElem? (i := 1078) (by decide +kernel)) rfl
theorem fl_RX12_105 : Cond.fieldLink RX12 105 "ArmpitLineModel" "sorts" "[I" ∈ TB := TB_mem (List.mem_of_getElem? (i := 1079) (by decide +kernel)) rfl
theorem fl_RX12_108 : Cond.fieldLink RX12 108 "ArmpitLineModel" "sheetSize" "[I" ∈ TB := TB_mem (List.mem_of_getElem? (i := 1080) (by decide +kernel)) rfl
theorem fl_RX12_111 : Cond.fieldLink RX12 111 "ArmpitLineModel" "items" "[I" ∈ TB := TB_mem (List.mem_of_getElem? (i := 1081) (by decide +kernel)) rfl
theorem fl_RJ0_9 : Cond.fieldLink RJ0 9 "java/lang/String" "value" "[B" ∈ TB := TB_mem (List.mem_of_getElem? (i := 1564) (by decide +kernel)) rfl
theorem fl_RJ0_15 : Cond.fieldLink RJ0 15 "java/lang/String" "coder" "B" ∈ TB := TB_mem (List.mem_of_getElem? (i := 1565) (by decide +kernel)) rfl
theorem kl_RX11_127 : Cond.constantLong RX11 127 (-4611686018427387904) ∈ TB := TB_mem (List.mem_of_getElem? (i := 622) (by decide +kernel)) rfl
theorem kl_RX12_114 : Cond.constantLong RX12 114 (7165074649424883311) ∈ TB := TB_mem (List.mem_of_getElem? (i := 1009) (by decide +kernel)) rfl
theorem kl_RX12_133 : Cond.constantLong RX12 133 (255) ∈ TB := TB_mem (List.mem_of_getElem? (i := 1014) (by decide +kernel)) rfl
theorem kl_RX12_120 : Cond.constantLong RX12 120 (8367811671488733245) ∈ TB := TB_mem (List.mem_of_getElem? (i := 1015) (by decide +kernel)) rfl
theorem kl_RX12_122 : Cond.constantLong RX12 122 (2319389246415070561) ∈ TB := TB_mem (List.mem_of_getElem? (i := 1016) (by decide +kernel)) rfl
theorem kl_RX12_124 : Cond.constantLong RX12 124 (8223704214119147552) ∈ TB := TB_mem (List.mem_of_getElem? (i := 1017) (by decide +kernel)) rfl
theorem kl_RX12_126 : Cond.constantLong RX12 126 (4260528858286596145) ∈ TB := TB_mem (List.mem_of_getElem? (i := 1018) (by decide +kernel)) rfl
theorem kl_RX12_128 : Cond.constantLong RX12 128 (2322485355189641248) ∈ TB := TB_mem (List.mem_of_getElem? (i := 1019) (by decide +kernel)) rfl
theorem kl_RX12_146 : Cond.constantLong RX12 146 (3) ∈ TB := TB_mem (List.mem_of_getElem? (i := 1214) (by decide +kernel)) rfl
theorem kl_RX12_148 : Cond.constantLong RX12 148 (9999) ∈ TB := TB_mem (List.mem_of_getElem? (i := 1218) (by decide +kernel)) rfl
theorem kl_RX12_150 : Cond.constantLong RX12 150 (-99) ∈ TB := TB_mem (List.mem_of_getElem? (i := 1219) (by decide +kernel)) rfl
theorem kl_RX12_152 : Cond.constantLong RX12 152 (99) ∈ TB := TB_mem (List.mem_of_getElem? (i := 1220) (by decide +kernel)) rfl
theorem kl_RX12_158 : Cond.constantLong RX12 158 (-199) ∈ TB := TB_mem (List.mem_of_getElem? (i := 1229) (by decide +kernel)) rfl
theorem kl_RX12_160 : Cond.constantLong RX12 160 (199) ∈ TB := TB_mem (List.mem_of_getElem? (i := 1230) (by decide +kernel)) rfl
theorem kl_RX12_162 : Cond.constantLong RX12 162 (8) ∈ TB := TB_mem (List.mem_of_getElem? (i := 1239) (by decide +kernel)) rfl
theorem kl_RX12_186 : Cond.constantLong RX12 186 (97) ∈ TB := TB_mem (List.mem_of_getElem? (i := 1256) (by decide +kernel)) rfl
theorem kl_RX12_188 : Cond.constantLong RX12 188 (122) ∈ TB := TB_mem (List.mem_of_getElem? (i := 1257) (by decide +kernel)) rfl
theorem kl_RX12_194 : Cond.constantLong RX12 194 (27) ∈ TB := TB_mem (List.mem_of_getElem? (i := 1258) (by decide +kernel)) rfl
theorem kl_RX12_196 : Cond.constantLong RX12 196 (96) ∈ TB := TB_mem (List.mem_of_getElem? (i := 1259) (by decide +kernel)) rfl
theorem kl_RX12_198 : Cond.constantLong RX12 198 (-1) ∈ TB := TB_mem (List.mem_of_getElem? (i := 1260) (by decide +kernel)) rfl
theorem kl_RX12_200 : Cond.constantLong RX12 200 (48) ∈ TB := TB_mem (List.mem_of_getElem? (i := 1261) (by decide +kernel)) rfl
theorem kl_RX12_202 : Cond.constantLong RX12 202 (57) ∈ TB := TB_mem (List.mem_of_getElem? (i := 1262) (by decide +kernel)) rfl
theorem kl_RX12_204 : Cond.constantLong RX12 204 (10) ∈ TB := TB_mem (List.mem_of_getElem? (i := 1263) (by decide +kernel)) rfl
theorem kl_RX12_289 : Cond.constantLong RX12 289 (1905275) ∈ TB := TB_mem (List.mem_of_getElem? (i := 1264) (by decide +kernel)) rfl
theorem kl_RX12_272 : Cond.constantLong RX12 272 (10631) ∈ TB := TB_mem (List.mem_of_getElem? (i := 1289) (by decide +kernel)) rfl
theorem kl_RX12_222 : Cond.constantLong RX12 222 (316163) ∈ TB := TB_mem (List.mem_of_getElem? (i := 1314) (by decide +kernel)) rfl
theorem kl_RX12_231 : Cond.constantLong RX12 231 (11103) ∈ TB := TB_mem (List.mem_of_getElem? (i := 1315) (by decide +kernel)) rfl
theorem kl_RX12_236 : Cond.constantLong RX12 236 (10416091) ∈ TB := TB_mem (List.mem_of_getElem? (i := 1316) (by decide +kernel)) rfl
theorem kl_RX12_238 : Cond.constantLong RX12 238 (397345) ∈ TB := TB_mem (List.mem_of_getElem? (i := 1317) (by decide +kernel)) rfl
theorem kl_RX12_240 : Cond.constantLong RX12 240 (400313) ∈ TB := TB_mem (List.mem_of_getElem? (i := 1318) (by decide +kernel)) rfl
theorem kl_RX12_245 : Cond.constantLong RX12 245 (12403754) ∈ TB := TB_mem (List.mem_of_getElem? (i := 1319) (by decide +kernel)) rfl
theorem kl_RX12_270 : Cond.constantLong RX12 270 (43) ∈ TB := TB_mem (List.mem_of_getElem? (i := 1320) (by decide +kernel)) rfl
theorem kl_RX12_280 : Cond.constantLong RX12 280 (60) ∈ TB := TB_mem (List.mem_of_getElem? (i := 1321) (by decide +kernel)) rfl
theorem kl_RX12_282 : Cond.constantLong RX12 282 (1111) ∈ TB := TB_mem (List.mem_of_getElem? (i := 1322) (by decide +kernel)) rfl
theorem kl_RX12_287 : Cond.constantLong RX12 287 (423) ∈ TB := TB_mem (List.mem_of_getElem? (i := 1323) (by decide +kernel)) rfl
theorem kl_RX12_295 : Cond.constantLong RX12 295 (279252) ∈ TB := TB_mem (List.mem_of_getElem? (i := 1324) (by decide +kernel)) rfl
theorem kl_RX12_297 : Cond.constantLong RX12 297 (323728) ∈ TB := TB_mem (List.mem_of_getElem? (i := 1325) (by decide +kernel)) rfl
theorem kl_RX12_142 : Cond.constantLong RX12 142 (200) ∈ TB := TB_mem (List.mem_of_getElem? (i := 1337) (by decide +kernel)) rfl
theorem kl_RX12_309 : Cond.constantLong RX12 309 (2) ∈ TB := TB_mem (List.mem_of_getElem? (i := 1338) (by decide +kernel)) rfl
theorem kl_RX12_311 : Cond.constantLong RX12 311 (-4611686018427387904) ∈ TB := TB_mem (List.mem_of_getElem? (i := 1339) (by decide +kernel)) rfl
theorem kl_RX12_144 : Cond.constantLong RX12 144 (999) ∈ TB := TB_mem (List.mem_of_getElem? (i := 1347) (by decide +kernel)) rfl
theorem kl_RX12_335 : Cond.constantLong RX12 335 (20) ∈ TB := TB_mem (List.mem_of_getElem? (i := 1368) (by decide +kernel)) rfl
theorem kl_RX12_337 : Cond.constantLong RX12 337 (19) ∈ TB := TB_mem (List.mem_of_getElem? (i := 1369) (by decide +kernel)) rfl
theorem kl_RX12_339 : Cond.constantLong RX12 339 (-9) ∈ TB := TB_mem (List.mem_of_getElem? (i := 1370) (by decide +kernel)) rfl
theorem kl_RX12_341 : Cond.constantLong RX12 341 (9) ∈ TB := TB_mem (List.mem_of_getElem? (i := 1371) (by decide +kernel)) rfl
theorem kl_RX12_349 : Cond.constantLong RX12 349 (-99999) ∈ TB := TB_mem (List.mem_of_getElem? (i := 1384) (by decide +kernel)) rfl
theorem kl_RX12_351 : Cond.constantLong RX12 351 (99999) ∈ TB := TB_mem (List.mem_of_getElem? (i := 1385) (by decide +kernel)) rfl
theorem kl_RX12_356 : Cond.constantLong RX12 356 (-20) ∈ TB := TB_mem (List.mem_of_getElem? (i := 1394) (by decide +kernel)) rfl
theorem kl_RX12_361 : Cond.constantLong RX12 361 (5) ∈ TB := TB_mem (List.mem_of_getElem? (i := 1399) (by decide +kernel)) rfl
theorem kl_RX12_437 : Cond.constantLong RX12 437 (63) ∈ TB := TB_mem (List.mem_of_getElem? (i := 1519) (by decide +kernel)) rfl
theorem kl_RL_49 : Cond.constantLong RL 49 (4294967295) ∈ TB := TB_mem (List.mem_of_getElem? (i := 1563) (by decide +kernel)) rfl
theorem ki_RX11_160 : Cond.constant RX11 160 (-99999) ∈ TB := TB_mem (List.mem_of_getElem? (i := 688) (by decide +kernel)) rfl
theorem ki_RX11_161 : Cond.constant RX11 161 (99999) ∈ TB := TB_mem (List.mem_of_getElem? (i := 689) (by decide +kernel)) rfl
theorem ki_RJ6_265 : Cond.constant RJ6 265 (1431655765) ∈ TB := TB_mem (List.mem_of_getElem? (i := 898) (by decide +kernel)) rfl
theorem ki_RJ6_266 : Cond.constant RJ6 266 (858993459) ∈ TB := TB_mem (List.mem_of_getElem? (i := 899) (by decide +kernel)) rfl
theorem ki_RJ6_267 : Cond.constant RJ6 267 (252645135) ∈ TB := TB_mem (List.mem_of_getElem? (i := 900) (by decide +kernel)) rfl
theorem ml_RL_9 : Cond.methodLink RL 9 yX11_init ∈ TB := TB_mem (List.mem_of_getElem? (i := 82) (by decide +kernel)) rfl
theorem ml_RX11_53 : Cond.methodLink RX11 53 yJ0_length_8abf5 ∈ TB := TB_mem (List.mem_of_getElem? (i := 406) (by decide +kernel)) rfl
theorem lk_RX11_53 : LkV RX11 53 RJ0 yJ0_length_8abf5 cJ0_length_8abf5 1 (some .int) 0 := ⟨⟨wi_RJ0, wc_yJ0_length_8abf5, by decide, by decide, by decide +kernel⟩, ml_RX11_53, wn_yJ0_length_8abf5, ws_RJ0_yJ0_length_8abf5⟩
theorem ml_RJ0_335 : Cond.methodLink RJ0 335 yJ0_coder_7d493 ∈ TB := TB_mem (List.mem_of_getElem? (i := 410) (by decide +kernel)) rfl
theorem lk_RJ0_335 : LkV RJ0 335 RJ0 yJ0_coder_7d493 cJ0_coder_7d493 1 (some .byte) 0 := ⟨⟨wi_RJ0, wc_yJ0_coder_7d493, by decide, by decide, by decide +kernel⟩, ml_RJ0_335, wn_yJ0_coder_7d493, ws_RJ0_yJ0_coder_7d493⟩
theorem ml_RX11_63 : Cond.methodLink RX11 63 yJ0_charAt_5068e ∈ TB := TB_mem (List.mem_of_getElem? (i := 416) (by decide +kernel)) rfl
theorem lk_RX11_63 : LkV RX11 63 RJ0 yJ0_charAt_5068e cJ0_charAt_5068e 2 (some .char) 1 := ⟨⟨wi_RJ0, wc_yJ0_charAt_5068e, by decide, by decide, by decide +kernel⟩, ml_RX11_63, wn_yJ0_charAt_5068e, ws_RJ0_yJ0_charAt_5068e⟩
theorem ml_RJ0_492 : Cond.methodLink RJ0 492 yJ0_isLatin1_aae02 ∈ TB := TB_mem (List.mem_of_getElem? (i := 420) (by decide +kernel)) rfl
theorem lk_RJ0_492 : LkV RJ0 492 RJ0 yJ0_isLatin1_aae02 cJ0_isLatin1_aae02 1 (some .boolean) 0 := ⟨⟨wi_RJ0, wc_yJ0_isLatin1_aae02, by decide, by decide, by decide +kernel⟩, ml_RJ0_492, wn_yJ0_isLatin1_aae02, ws_RJ0_yJ0_isLatin1_aae02⟩
theorem ml_RJ0_495 : Cond.methodLink RJ0 495 yJ1_charAt_3b067 ∈ TB := TB_mem (List.mem_of_getElem? (i := 424) (by decide +kernel)) rfl
theorem lk_RJ0_495 : LkS RJ0 495 yJ1_charAt_3b067 cJ1_charAt_3b067 2 (some .char) 2 := ⟨⟨wi_RJ1, wc_yJ1_charAt_3b067, by decide, by decide, by decide +kernel⟩, ml_RJ0_495, wt_yJ1_charAt_3b067⟩
theorem ml_RJ1_9 : Cond.methodLink RJ1 9 yJ0_checkIndex_df160 ∈ TB := TB_mem (List.mem_of_getElem? (i := 427) (by decide +kernel)) rfl
theorem lk_RJ1_9 : LkS RJ1 9 yJ0_checkIndex_df160 cJ0_checkIndex_df160 2 none 2 := ⟨⟨wi_RJ0, wc_yJ0_checkIndex_df160, by decide, by decide, by decide +kernel⟩, ml_RJ1_9, wt_yJ0_checkIndex_df160⟩
theorem ml_RJ0_1059 : Cond.methodLink RJ0 1059 yJ3_checkIndex_8e157 ∈ TB := TB_mem (List.mem_of_getElem? (i := 432) (by decide +kernel)) rfl
theorem lk_RJ0_1059 : LkS RJ0 1059 yJ3_checkIndex_8e157 cJ3_checkIndex_8e157 3 (some .int) 3 := ⟨⟨wi_RJ3, wc_yJ3_checkIndex_8e157, by decide, by decide, by decide +kernel⟩, ml_RJ0_1059, wt_yJ3_checkIndex_8e157⟩
theorem ml_RJ0_498 : Cond.methodLink RJ0 498 yJ2_charAt_3b067 ∈ TB := TB_mem (List.mem_of_getElem? (i := 435) (by decide +kernel)) rfl
theorem lk_RJ0_498 : LkS RJ0 498 yJ2_charAt_3b067 cJ2_charAt_3b067 2 (some .char) 2 := ⟨⟨wi_RJ2, wc_yJ2_charAt_3b067, by decide, by decide, by decide +kernel⟩, ml_RJ0_498, wt_yJ2_charAt_3b067⟩
theorem ml_RJ2_67 : Cond.methodLink RJ2 67 yJ2_checkIndex_2214a ∈ TB := TB_mem (List.mem_of_getElem? (i := 438) (by decide +kernel)) rfl
theorem lk_RJ2_67 : LkS RJ2 67 yJ2_checkIndex_2214a cJ2_checkIndex_2214a 2 none 2 := ⟨⟨wi_RJ2, wc_yJ2_checkIndex_2214a, by decide, by decide, by decide +kernel⟩, ml_RJ2_67, wt_yJ2_checkIndex_2214a⟩
theorem ml_RJ2_48 : Cond.methodLink RJ2 48 yJ2_length_9d52b ∈ TB := TB_mem (List.mem_of_getElem? (i := 441) (by decide +kernel)) rfl
theorem lk_RJ2_48 : LkS RJ2 48 yJ2_length_9d52b cJ2_length_9d52b 1 (some .int) 1 := ⟨⟨wi_RJ2, wc_yJ2_length_9d52b, by decide, by decide, by decide +kernel⟩, ml_RJ2_48, wt_yJ2_length_9d52b⟩
theorem ml_RJ2_414 : Cond.methodLink RJ2 414 yJ0_checkIndex_df160 ∈ TB := TB_mem (List.mem_of_getElem? (i := 444) (by decide +kernel)) rfl
theorem lk_RJ2_414 : LkS RJ2 414 yJ0_checkIndex_df160 cJ0_checkIndex_df160 2 none 2 := ⟨⟨wi_RJ0, wc_yJ0_checkIndex_df160, by decide, by decide, by decide +kernel⟩, ml_RJ2_414, wt_yJ0_checkIndex_df160⟩
theorem ml_RJ2_71 : Cond.methodLink RJ2 71 yJ2_getChar_3b067 ∈ TB := TB_mem (List.mem_of_getElem? (i := 445) (by decide +kernel)) rfl
theorem lk_RJ2_71 : LkS RJ2 71 yJ2_getChar_3b067 cJ2_getChar_3b067 2 (some .char) 2 := ⟨⟨wi_RJ2, wc_yJ2_getChar_3b067, by decide, by decide, by decide +kernel⟩, ml_RJ2_71, wt_yJ2_getChar_3b067⟩
theorem ml_RX11_67 : Cond.methodLink RX11 67 yX9_put ∈ TB := TB_mem (List.mem_of_getElem? (i := 454) (by decide +kernel)) rfl
theorem lk_RX11_67 : LkV RX11 67 RX9 yX9_put cX9_put 2 none 1 := ⟨⟨wi_RX9, wc_yX9_put, by decide, by decide, by decide +kernel⟩, ml_RX11_67, wn_yX9_put, ws_RX9_yX9_put⟩
theorem ml_RX11_73 : Cond.methodLink RX11 73 yX6_readTape ∈ TB := TB_mem (List.mem_of_getElem? (i := 458) (by decide +kernel)) rfl
theorem lk_RX11_73 : LkV RX11 73 RX6 yX6_readTape cX6_readTape 3 (some .int) 0 := ⟨⟨wi_RX6, wc_yX6_readTape, by decide, by decide, by decide +kernel⟩, ml_RX11_73, wn_yX6_readTape, ws_RX6_yX6_readTape⟩
theorem ml_RX6_25 : Cond.methodLink RX6 25 yX9_cut ∈ TB := TB_mem (List.mem_of_getElem? (i := 462) (by decide +kernel)) rfl
theorem lk_RX6_25 : LkV RX6 25 RX9 yX9_cut cX9_cut 4 none 0 := ⟨⟨wi_RX9, wc_yX9_cut, by decide, by decide, by decide +kernel⟩, ml_RX6_25, wn_yX9_cut, ws_RX9_yX9_cut⟩
theorem ml_RX9_31 : Cond.methodLink RX9 31 yX9_byteAt ∈ TB := TB_mem (List.mem_of_getElem? (i := 466) (by decide +kernel)) rfl
theorem lk_RX9_31 : LkV RX9 31 RX9 yX9_byteAt cX9_byteAt 2 (some .int) 1 := ⟨⟨wi_RX9, wc_yX9_byteAt, by decide, by decide, by decide +kernel⟩, ml_RX9_31, wn_yX9_byteAt, ws_RX9_yX9_byteAt⟩
theorem ml_RX9_35 : Cond.methodLink RX9 35 yX9_isLetter ∈ TB := TB_mem (List.mem_of_getElem? (i := 470) (by decide +kernel)) rfl
theorem lk_RX9_35 : LkS RX9 35 yX9_isLetter cX9_isLetter 1 (some .boolean) 1 := ⟨⟨wi_RX9, wc_yX9_isLetter, by decide, by decide, by decide +kernel⟩, ml_RX9_35, wt_yX9_isLetter⟩
theorem ml_RX9_39 : Cond.methodLink RX9 39 yX9_cutWord ∈ TB := TB_mem (List.mem_of_getElem? (i := 476) (by decide +kernel)) rfl
theorem lk_RX9_39 : LkV RX9 39 RX9 yX9_cutWord cX9_cutWord 4 (some .int) 1 := ⟨⟨wi_RX9, wc_yX9_cutWord, by decide, by decide, by decide +kernel⟩, ml_RX9_39, wn_yX9_cutWord, ws_RX9_yX9_cutWord⟩
theorem ml_RX9_55 : Cond.methodLink RX9 55 yX9_wordAmong ∈ TB := TB_mem (List.mem_of_getElem? (i := 480) (by decide +kernel)) rfl
theorem lk_RX9_55 : LkV RX9 55 RX9 yX9_wordAmong cX9_wordAmong 5 (some .int) 2 := ⟨⟨wi_RX9, wc_yX9_wordAmong, by decide, by decide, by decide +kernel⟩, ml_RX9_55, wn_yX9_wordAmong, ws_RX9_yX9_wordAmong⟩
theorem ml_RX9_61 : Cond.methodLink RX9 61 yJ0_charAt_5068e ∈ TB := TB_mem (List.mem_of_getElem? (i := 485) (by decide +kernel)) rfl
theorem lk_RX9_61 : LkV RX9 61 RJ0 yJ0_charAt_5068e cJ0_charAt_5068e 2 (some .char) 1 := ⟨⟨wi_RJ0, wc_yJ0_charAt_5068e, by decide, by decide, by decide +kernel⟩, ml_RX9_61, wn_yJ0_charAt_5068e, ws_RJ0_yJ0_charAt_5068e⟩
theorem ml_RX9_51 : Cond.methodLink RX9 51 yX9_note ∈ TB := TB_mem (List.mem_of_getElem? (i := 486) (by decide +kernel)) rfl
theorem lk_RX9_51 : LkV RX9 51 RX9 yX9_note cX9_note 4 none 3 := ⟨⟨wi_RX9, wc_yX9_note, by decide, by decide, by decide +kernel⟩, ml_RX9_51, wn_yX9_note, ws_RX9_yX9_note⟩
theorem ml_RX9_42 : Cond.methodLink RX9 42 yX9_isDigit ∈ TB := TB_mem (List.mem_of_getElem? (i := 490) (by decide +kernel)) rfl
theorem lk_RX9_42 : LkS RX9 42 yX9_isDigit cX9_isDigit 1 (some .boolean) 1 := ⟨⟨wi_RX9, wc_yX9_isDigit, by decide, by decide, by decide +kernel⟩, ml_RX9_42, wt_yX9_isDigit⟩
theorem ml_RX9_45 : Cond.methodLink RX9 45 yX9_cutNumber ∈ TB := TB_mem (List.mem_of_getElem? (i := 493) (by decide +kernel)) rfl
theorem lk_RX9_45 : LkV RX9 45 RX9 yX9_cutNumber cX9_cutNumber 5 (some .int) 1 := ⟨⟨wi_RX9, wc_yX9_cutNumber, by decide, by decide, by decide +kernel⟩, ml_RX9_45, wn_yX9_cutNumber, ws_RX9_yX9_cutNumber⟩
theorem ml_RX9_48 : Cond.methodLink RX9 48 yX9_isSign ∈ TB := TB_mem (List.mem_of_getElem? (i := 497) (by decide +kernel)) rfl
theorem lk_RX9_48 : LkS RX9 48 yX9_isSign cX9_isSign 1 (some .boolean) 1 := ⟨⟨wi_RX9, wc_yX9_isSign, by decide, by decide, by decide +kernel⟩, ml_RX9_48, wt_yX9_isSign⟩
theorem ml_RX6_35 : Cond.methodLink RX6 35 yX6_readKeys ∈ TB := TB_mem (List.mem_of_getElem? (i := 500) (by decide +kernel)) rfl
theorem lk_RX6_35 : LkV RX6 35 RX6 yX6_readKeys cX6_readKeys 2 (some .boolean) 0 := ⟨⟨wi_RX6, wc_yX6_readKeys, by decide, by decide, by decide +kernel⟩, ml_RX6_35, wn_yX6_readKeys, ws_RX6_yX6_readKeys⟩
theorem ml_RX6_48 : Cond.methodLink RX6 48 yX6_pass ∈ TB := TB_mem (List.mem_of_getElem? (i := 504) (by decide +kernel)) rfl
theorem lk_RX6_48 : LkV RX6 48 RX6 yX6_pass cX6_pass 2 (some .boolean) 1 := ⟨⟨wi_RX6, wc_yX6_pass, by decide, by decide, by decide +kernel⟩, ml_RX6_48, wn_yX6_pass, ws_RX6_yX6_pass⟩
theorem ml_RX6_55 : Cond.methodLink RX6 55 yX6_kindNow ∈ TB := TB_mem (List.mem_of_getElem? (i := 508) (by decide +kernel)) rfl
theorem lk_RX6_55 : LkV RX6 55 RX6 yX6_kindNow cX6_kindNow 1 (some .int) 0 := ⟨⟨wi_RX6, wc_yX6_kindNow, by decide, by decide, by decide +kernel⟩, ml_RX6_55, wn_yX6_kindNow, ws_RX6_yX6_kindNow⟩
theorem ml_RX6_52 : Cond.methodLink RX6 52 yX6_readOr ∈ TB := TB_mem (List.mem_of_getElem? (i := 512) (by decide +kernel)) rfl
theorem lk_RX6_52 : LkV RX6 52 RX6 yX6_readOr cX6_readOr 3 (some .boolean) 1 := ⟨⟨wi_RX6, wc_yX6_readOr, by decide, by decide, by decide +kernel⟩, ml_RX6_52, wn_yX6_readOr, ws_RX6_yX6_readOr⟩
theorem ml_RX6_62 : Cond.methodLink RX6 62 yX6_readAnd ∈ TB := TB_mem (List.mem_of_getElem? (i := 516) (by decide +kernel)) rfl
theorem lk_RX6_62 : LkV RX6 62 RX6 yX6_readAnd cX6_readAnd 3 (some .boolean) 1 := ⟨⟨wi_RX6, wc_yX6_readAnd, by decide, by decide, by decide +kernel⟩, ml_RX6_62, wn_yX6_readAnd, ws_RX6_yX6_readAnd⟩
theorem ml_RX6_69 : Cond.methodLink RX6 69 yX6_readNot ∈ TB := TB_mem (List.mem_of_getElem? (i := 520) (by decide +kernel)) rfl
theorem lk_RX6_69 : LkV RX6 69 RX6 yX6_readNot cX6_readNot 3 (some .boolean) 1 := ⟨⟨wi_RX6, wc_yX6_readNot, by decide, by decide, by decide +kernel⟩, ml_RX6_69, wn_yX6_readNot, ws_RX6_yX6_readNot⟩
theorem ml_RX6_65 : Cond.methodLink RX6 65 yX6_emit ∈ TB := TB_mem (List.mem_of_getElem? (i := 524) (by decide +kernel)) rfl
theorem lk_RX6_65 : LkV RX6 65 RX6 yX6_emit cX6_emit 2 none 1 := ⟨⟨wi_RX6, wc_yX6_emit, by decide, by decide, by decide +kernel⟩, ml_RX6_65, wn_yX6_emit, ws_RX6_yX6_emit⟩
theorem ml_RX6_72 : Cond.methodLink RX6 72 yX6_readSum ∈ TB := TB_mem (List.mem_of_getElem? (i := 528) (by decide +kernel)) rfl
theorem lk_RX6_72 : LkV RX6 72 RX6 yX6_readSum cX6_readSum 4 (some .boolean) 1 := ⟨⟨wi_RX6, wc_yX6_readSum, by decide, by decide, by decide +kernel⟩, ml_RX6_72, wn_yX6_readSum, ws_RX6_yX6_readSum⟩
theorem ml_RX6_75 : Cond.methodLink RX6 75 yX6_readTerm ∈ TB := TB_mem (List.mem_of_getElem? (i := 532) (by decide +kernel)) rfl
theorem lk_RX6_75 : LkV RX6 75 RX6 yX6_readTerm cX6_readTerm 3 (some .boolean) 1 := ⟨⟨wi_RX6, wc_yX6_readTerm, by decide, by decide, by decide +kernel⟩, ml_RX6_75, wn_yX6_readTerm, ws_RX6_yX6_readTerm⟩
theorem ml_RX6_78 : Cond.methodLink RX6 78 yX6_readOne ∈ TB := TB_mem (List.mem_of_getElem? (i := 536) (by decide +kernel)) rfl
theorem lk_RX6_78 : LkV RX6 78 RX6 yX6_readOne cX6_readOne 3 (some .boolean) 1 := ⟨⟨wi_RX6, wc_yX6_readOne, by decide, by decide, by decide +kernel⟩, ml_RX6_78, wn_yX6_readOne, ws_RX6_yX6_readOne⟩
theorem ml_RX11_80 : Cond.methodLink RX11 80 yX10_keep ∈ TB := TB_mem (List.mem_of_getElem? (i := 540) (by decide +kernel)) rfl
theorem lk_RX11_80 : LkV RX11 80 RX10 yX10_keep cX10_keep 5 (some .int) 1 := ⟨⟨wi_RX10, wc_yX10_keep, by decide, by decide, by decide +kernel⟩, ml_RX11_80, wn_yX10_keep, ws_RX10_yX10_keep⟩
theorem ml_RL_13 : Cond.methodLink RL 13 yX11_man ∈ TB := TB_mem (List.mem_of_getElem? (i := 576) (by decide +kernel)) rfl
theorem lk_RL_13 : LkV RL 13 RX11 yX11_man cX11_man 4 (some .int) 3 := ⟨⟨wi_RX11, wc_yX11_man, by decide, by decide, by decide +kernel⟩, ml_RL_13, wn_yX11_man, ws_RX11_yX11_man⟩
theorem ml_RX11_89 : Cond.methodLink RX11 89 yX8_add ∈ TB := TB_mem (List.mem_of_getElem? (i := 580) (by decide +kernel)) rfl
theorem lk_RX11_89 : LkV RX11 89 RX8 yX8_add cX8_add 4 (some .int) 3 := ⟨⟨wi_RX8, wc_yX8_add, by decide, by decide, by decide +kernel⟩, ml_RX11_89, wn_yX8_add, ws_RX8_yX8_add⟩
theorem ml_RX11_100 : Cond.methodLink RX11 100 yX11_isWithin ∈ TB := TB_mem (List.mem_of_getElem? (i := 587) (by decide +kernel)) rfl
theorem lk_RX11_100 : LkS RX11 100 yX11_isWithin cX11_isWithin 3 (some .boolean) 3 := ⟨⟨wi_RX11, wc_yX11_isWithin, by decide, by decide, by decide +kernel⟩, ml_RX11_100, wt_yX11_isWithin⟩
theorem ml_RL_18 : Cond.methodLink RL 18 yX11_part ∈ TB := TB_mem (List.mem_of_getElem? (i := 594) (by decide +kernel)) rfl
theorem lk_RL_18 : LkV RL 18 RX11 yX11_part cX11_part 5 (some .int) 3 := ⟨⟨wi_RX11, wc_yX11_part, by decide, by decide, by decide +kernel⟩, ml_RL_18, wn_yX11_part, ws_RX11_yX11_part⟩
theorem ml_RX11_93 : Cond.methodLink RX11 93 yX8_has ∈ TB := TB_mem (List.mem_of_getElem? (i := 598) (by decide +kernel)) rfl
theorem lk_RX11_93 : LkV RX11 93 RX8 yX8_has cX8_has 2 (some .boolean) 1 := ⟨⟨wi_RX8, wc_yX8_has, by decide, by decide, by decide +kernel⟩, ml_RX11_93, wn_yX8_has, ws_RX8_yX8_has⟩
theorem ml_RX11_97 : Cond.methodLink RX11 97 yX11_isPart ∈ TB := TB_mem (List.mem_of_getElem? (i := 602) (by decide +kernel)) rfl
theorem lk_RX11_97 : LkS RX11 97 yX11_isPart cX11_isPart 1 (some .boolean) 1 := ⟨⟨wi_RX11, wc_yX11_isPart, by decide, by decide, by decide +kernel⟩, ml_RX11_97, wt_yX11_isPart⟩
theorem ml_RX11_104 : Cond.methodLink RX11 104 yX8_offOf ∈ TB := TB_mem (List.mem_of_getElem? (i := 605) (by decide +kernel)) rfl
theorem lk_RX11_104 : LkV RX11 104 RX8 yX8_offOf cX8_offOf 4 (some .int) 2 := ⟨⟨wi_RX8, wc_yX8_offOf, by decide, by decide, by decide +kernel⟩, ml_RX11_104, wn_yX8_offOf, ws_RX8_yX8_offOf⟩
theorem ml_RL_22 : Cond.methodLink RL 22 yX11_move ∈ TB := TB_mem (List.mem_of_getElem? (i := 609) (by decide +kernel)) rfl
theorem lk_RL_22 : LkV RL 22 RX11 yX11_move cX11_move 5 (some .int) 3 := ⟨⟨wi_RX11, wc_yX11_move, by decide, by decide, by decide +kernel⟩, ml_RL_22, wn_yX11_move, ws_RX11_yX11_move⟩
theorem ml_RX11_112 : Cond.methodLink RX11 112 yX11_isPlace ∈ TB := TB_mem (List.mem_of_getElem? (i := 613) (by decide +kernel)) rfl
theorem lk_RX11_112 : LkS RX11 112 yX11_isPlace cX11_isPlace 1 (some .boolean) 1 := ⟨⟨wi_RX11, wc_yX11_isPlace, by decide, by decide, by decide +kernel⟩, ml_RX11_112, wt_yX11_isPlace⟩
theorem ml_RX11_118 : Cond.methodLink RX11 118 yX11_isSpeed ∈ TB := TB_mem (List.mem_of_getElem? (i := 614) (by decide +kernel)) rfl
theorem lk_RX11_118 : LkS RX11 118 yX11_isSpeed cX11_isSpeed 1 (some .boolean) 1 := ⟨⟨wi_RX11, wc_yX11_isSpeed, by decide, by decide, by decide +kernel⟩, ml_RX11_118, wt_yX11_isSpeed⟩
theorem ml_RL_26 : Cond.methodLink RL 26 yX11_front ∈ TB := TB_mem (List.mem_of_getElem? (i := 615) (by decide +kernel)) rfl
theorem lk_RL_26 : LkV RL 26 RX11 yX11_front cX11_front 4 (some .long) 3 := ⟨⟨wi_RX11, wc_yX11_front, by decide, by decide, by decide +kernel⟩, ml_RL_26, wn_yX11_front, ws_RX11_yX11_front⟩
theorem ml_RX11_124 : Cond.methodLink RX11 124 yX11_isTick ∈ TB := TB_mem (List.mem_of_getElem? (i := 619) (by decide +kernel)) rfl
theorem lk_RX11_124 : LkS RX11 124 yX11_isTick cX11_isTick 1 (some .boolean) 1 := ⟨⟨wi_RX11, wc_yX11_isTick, by decide, by decide, by decide +kernel⟩, ml_RX11_124, wt_yX11_isTick⟩
theorem ml_RX11_133 : Cond.methodLink RX11 133 yX5_lookAs ∈ TB := TB_mem (List.mem_of_getElem? (i := 623) (by decide +kernel)) rfl
theorem lk_RX11_133 : LkV RX11 133 RX5 yX5_lookAs cX5_lookAs 2 none 1 := ⟨⟨wi_RX5, wc_yX5_lookAs, by decide, by decide, by decide +kernel⟩, ml_RX11_133, wn_yX5_lookAs, ws_RX5_yX5_lookAs⟩
theorem ml_RX5_50 : Cond.methodLink RX5 50 yX5_lookAsStanding ∈ TB := TB_mem (List.mem_of_getElem? (i := 627) (by decide +kernel)) rfl
theorem lk_RX5_50 : LkV RX5 50 RX5 yX5_lookAsStanding cX5_lookAsStanding 4 none 3 := ⟨⟨wi_RX5, wc_yX5_lookAsStanding, by decide, by decide, by decide +kernel⟩, ml_RX5_50, wn_yX5_lookAsStanding, ws_RX5_yX5_lookAsStanding⟩
theorem ml_RX11_136 : Cond.methodLink RX11 136 yX5_frontOf ∈ TB := TB_mem (List.mem_of_getElem? (i := 631) (by decide +kernel)) rfl
theorem lk_RX11_136 : LkV RX11 136 RX5 yX5_frontOf cX5_frontOf 5 (some .int) 2 := ⟨⟨wi_RX5, wc_yX5_frontOf, by decide, by decide, by decide +kernel⟩, ml_RX11_136, wn_yX5_frontOf, ws_RX5_yX5_frontOf⟩
theorem ml_RX5_82 : Cond.methodLink RX5 82 yX5_leadOf ∈ TB := TB_mem (List.mem_of_getElem? (i := 635) (by decide +kernel)) rfl
theorem lk_RX5_82 : LkV RX5 82 RX5 yX5_leadOf cX5_leadOf 7 (some .int) 2 := ⟨⟨wi_RX5, wc_yX5_leadOf, by decide, by decide, by decide +kernel⟩, ml_RX5_82, wn_yX5_leadOf, ws_RX5_yX5_leadOf⟩
theorem ml_RX5_70 : Cond.methodLink RX5 70 yX10_regard ∈ TB := TB_mem (List.mem_of_getElem? (i := 639) (by decide +kernel)) rfl
theorem lk_RX5_70 : LkV RX5 70 RX10 yX10_regard cX10_regard 5 none 4 := ⟨⟨wi_RX10, wc_yX10_regard, by decide, by decide, by decide +kernel⟩, ml_RX5_70, wn_yX10_regard, ws_RX10_yX10_regard⟩
theorem ml_RX5_74 : Cond.methodLink RX5 74 yX8_offOf ∈ TB := TB_mem (List.mem_of_getElem? (i := 643) (by decide +kernel)) rfl
theorem lk_RX5_74 : LkV RX5 74 RX8 yX8_offOf cX8_offOf 4 (some .int) 2 := ⟨⟨wi_RX8, wc_yX8_offOf, by decide, by decide, by decide +kernel⟩, ml_RX5_74, wn_yX8_offOf, ws_RX8_yX8_offOf⟩
theorem ml_RX5_78 : Cond.methodLink RX5 78 yX10_worth ∈ TB := TB_mem (List.mem_of_getElem? (i := 644) (by decide +kernel)) rfl
theorem lk_RX5_78 : LkV RX5 78 RX10 yX10_worth cX10_worth 8 (some .int) 3 := ⟨⟨wi_RX10, wc_yX10_worth, by decide, by decide, by decide +kernel⟩, ml_RX5_78, wn_yX10_worth, ws_RX10_yX10_worth⟩
theorem ml_RX10_38 : Cond.methodLink RX10 38 yX10_ofOne ∈ TB := TB_mem (List.mem_of_getElem? (i := 648) (by decide +kernel)) rfl
theorem lk_RX10_38 : LkS RX10 38 yX10_ofOne cX10_ofOne 2 (some .int) 2 := ⟨⟨wi_RX10, wc_yX10_ofOne, by decide, by decide, by decide +kernel⟩, ml_RX10_38, wt_yX10_ofOne⟩
theorem ml_RX10_42 : Cond.methodLink RX10 42 yX10_ofTwo ∈ TB := TB_mem (List.mem_of_getElem? (i := 651) (by decide +kernel)) rfl
theorem lk_RX10_42 : LkS RX10 42 yX10_ofTwo cX10_ofTwo 3 (some .int) 3 := ⟨⟨wi_RX10, wc_yX10_ofTwo, by decide, by decide, by decide +kernel⟩, ml_RX10_42, wt_yX10_ofTwo⟩
theorem ml_RX5_85 : Cond.methodLink RX5 85 yX5_whereIs ∈ TB := TB_mem (List.mem_of_getElem? (i := 654) (by decide +kernel)) rfl
theorem lk_RX5_85 : LkV RX5 85 RX5 yX5_whereIs cX5_whereIs 4 (some .int) 2 := ⟨⟨wi_RX5, wc_yX5_whereIs, by decide, by decide, by decide +kernel⟩, ml_RX5_85, wn_yX5_whereIs, ws_RX5_yX5_whereIs⟩
theorem ml_RX11_139 : Cond.methodLink RX11 139 yX5_leadOf ∈ TB := TB_mem (List.mem_of_getElem? (i := 658) (by decide +kernel)) rfl
theorem lk_RX11_139 : LkV RX11 139 RX5 yX5_leadOf cX5_leadOf 7 (some .int) 2 := ⟨⟨wi_RX5, wc_yX5_leadOf, by decide, by decide, by decide +kernel⟩, ml_RX11_139, wn_yX5_leadOf, ws_RX5_yX5_leadOf⟩
theorem ml_RX11_142 : Cond.methodLink RX11 142 yX11_footIfNone ∈ TB := TB_mem (List.mem_of_getElem? (i := 659) (by decide +kernel)) rfl
theorem lk_RX11_142 : LkS RX11 142 yX11_footIfNone cX11_footIfNone 1 (some .int) 1 := ⟨⟨wi_RX11, wc_yX11_footIfNone, by decide, by decide, by decide +kernel⟩, ml_RX11_142, wt_yX11_footIfNone⟩
theorem ml_RX11_146 : Cond.methodLink RX11 146 yX5_whereIs ∈ TB := TB_mem (List.mem_of_getElem? (i := 662) (by decide +kernel)) rfl
theorem lk_RX11_146 : LkV RX11 146 RX5 yX5_whereIs cX5_whereIs 4 (some .int) 2 := ⟨⟨wi_RX5, wc_yX5_whereIs, by decide, by decide, by decide +kernel⟩, ml_RX11_146, wn_yX5_whereIs, ws_RX5_yX5_whereIs⟩
theorem ml_RL_31 : Cond.methodLink RL 31 yX11_camera ∈ TB := TB_mem (List.mem_of_getElem? (i := 663) (by decide +kernel)) rfl
theorem lk_RL_31 : LkV RL 31 RX11 yX11_camera cX11_camera 4 (some .int) 3 := ⟨⟨wi_RX11, wc_yX11_camera, by decide, by decide, by decide +kernel⟩, ml_RL_31, wn_yX11_camera, ws_RX11_yX11_camera⟩
theorem ml_RX11_153 : Cond.methodLink RX11 153 yX1_add ∈ TB := TB_mem (List.mem_of_getElem? (i := 667) (by decide +kernel)) rfl
theorem lk_RX11_153 : LkV RX11 153 RX1 yX1_add cX1_add 4 (some .int) 3 := ⟨⟨wi_RX1, wc_yX1_add, by decide, by decide, by decide +kernel⟩, ml_RX11_153, wn_yX1_add, ws_RX1_yX1_add⟩
theorem ml_RL_35 : Cond.methodLink RL 35 yX11_frame ∈ TB := TB_mem (List.mem_of_getElem? (i := 672) (by decide +kernel)) rfl
theorem lk_RL_35 : LkV RL 35 RX11 yX11_frame cX11_frame 3 (some .int) 2 := ⟨⟨wi_RX11, wc_yX11_frame, by decide, by decide, by decide +kernel⟩, ml_RL_35, wn_yX11_frame, ws_RX11_yX11_frame⟩
theorem ml_RX11_156 : Cond.methodLink RX11 156 yX1_has ∈ TB := TB_mem (List.mem_of_getElem? (i := 676) (by decide +kernel)) rfl
theorem lk_RX11_156 : LkV RX11 156 RX1 yX1_has cX1_has 2 (some .boolean) 1 := ⟨⟨wi_RX1, wc_yX1_has, by decide, by decide, by decide +kernel⟩, ml_RX11_156, wn_yX1_has, ws_RX1_yX1_has⟩
theorem ml_RX11_157 : Cond.methodLink RX11 157 yX1_frameFor ∈ TB := TB_mem (List.mem_of_getElem? (i := 680) (by decide +kernel)) rfl
theorem lk_RX11_157 : LkV RX11 157 RX1 yX1_frameFor cX1_frameFor 5 (some .int) 2 := ⟨⟨wi_RX1, wc_yX1_frameFor, by decide, by decide, by decide +kernel⟩, ml_RX11_157, wn_yX1_frameFor, ws_RX1_yX1_frameFor⟩
theorem ml_RL_40 : Cond.methodLink RL 40 yX11_sees ∈ TB := TB_mem (List.mem_of_getElem? (i := 684) (by decide +kernel)) rfl
theorem lk_RL_40 : LkV RL 40 RX11 yX11_sees cX11_sees 3 (some .long) 2 := ⟨⟨wi_RX11, wc_yX11_sees, by decide, by decide, by decide +kernel⟩, ml_RL_40, wn_yX11_sees, ws_RX11_yX11_sees⟩
theorem ml_RX11_162 : Cond.methodLink RX11 162 yX1_seenAt ∈ TB := TB_mem (List.mem_of_getElem? (i := 690) (by decide +kernel)) rfl
theorem lk_RX11_162 : LkV RX11 162 RX1 yX1_seenAt cX1_seenAt 3 (some .int) 2 := ⟨⟨wi_RX1, wc_yX1_seenAt, by decide, by decide, by decide +kernel⟩, ml_RX11_162, wn_yX1_seenAt, ws_RX1_yX1_seenAt⟩
theorem ml_RL_45 : Cond.methodLink RL 45 yX11_crosser ∈ TB := TB_mem (List.mem_of_getElem? (i := 694) (by decide +kernel)) rfl
theorem lk_RL_45 : LkV RL 45 RX11 yX11_crosser cX11_crosser 3 (some .int) 2 := ⟨⟨wi_RX11, wc_yX11_crosser, by decide, by decide, by decide +kernel⟩, ml_RL_45, wn_yX11_crosser, ws_RX11_yX11_crosser⟩
theorem ml_RX11_169 : Cond.methodLink RX11 169 yX3_add ∈ TB := TB_mem (List.mem_of_getElem? (i := 698) (by decide +kernel)) rfl
theorem lk_RX11_169 : LkV RX11 169 RX3 yX3_add cX3_add 3 (some .int) 2 := ⟨⟨wi_RX3, wc_yX3_add, by decide, by decide, by decide +kernel⟩, ml_RX11_169, wn_yX3_add, ws_RX3_yX3_add⟩
theorem ml_RL_51 : Cond.methodLink RL 51 yX11_feed ∈ TB := TB_mem (List.mem_of_getElem? (i := 703) (by decide +kernel)) rfl
theorem lk_RL_51 : LkV RL 51 RX11 yX11_feed cX11_feed 5 (some .int) 2 := ⟨⟨wi_RX11, wc_yX11_feed, by decide, by decide, by decide +kernel⟩, ml_RL_51, wn_yX11_feed, ws_RX11_yX11_feed⟩
theorem ml_RL_56 : Cond.methodLink RL 56 yX11_text ∈ TB := TB_mem (List.mem_of_getElem? (i := 707) (by decide +kernel)) rfl
theorem lk_RL_56 : LkV RL 56 RX11 yX11_text cX11_text 2 (some .int) 0 := ⟨⟨wi_RX11, wc_yX11_text, by decide, by decide, by decide +kernel⟩, ml_RL_56, wn_yX11_text, ws_RX11_yX11_text⟩
theorem ml_RL_61 : Cond.methodLink RL 61 yX11_force ∈ TB := TB_mem (List.mem_of_getElem? (i := 711) (by decide +kernel)) rfl
theorem lk_RL_61 : LkV RL 61 RX11 yX11_force cX11_force 3 (some .int) 1 := ⟨⟨wi_RX11, wc_yX11_force, by decide, by decide, by decide +kernel⟩, ml_RL_61, wn_yX11_force, ws_RX11_yX11_force⟩
theorem ml_RX11_177 : Cond.methodLink RX11 177 yX10_has ∈ TB := TB_mem (List.mem_of_getElem? (i := 715) (by decide +kernel)) rfl
theorem lk_RX11_177 : LkV RX11 177 RX10 yX10_has cX10_has 2 (some .boolean) 1 := ⟨⟨wi_RX10, wc_yX10_has, by decide, by decide, by decide +kernel⟩, ml_RX11_177, wn_yX10_has, ws_RX10_yX10_has⟩
theorem ml_RL_66 : Cond.methodLink RL 66 yX11_says ∈ TB := TB_mem (List.mem_of_getElem? (i := 719) (by decide +kernel)) rfl
theorem lk_RL_66 : LkV RL 66 RX11 yX11_says cX11_says 5 (some .long) 4 := ⟨⟨wi_RX11, wc_yX11_says, by decide, by decide, by decide +kernel⟩, ml_RL_66, wn_yX11_says, ws_RX11_yX11_says⟩
theorem ml_RX11_181 : Cond.methodLink RX11 181 yX5_worthOf ∈ TB := TB_mem (List.mem_of_getElem? (i := 723) (by decide +kernel)) rfl
theorem lk_RX11_181 : LkV RX11 181 RX5 yX5_worthOf cX5_worthOf 5 (some .int) 4 := ⟨⟨wi_RX5, wc_yX5_worthOf, by decide, by decide, by decide +kernel⟩, ml_RX11_181, wn_yX5_worthOf, ws_RX5_yX5_worthOf⟩
theorem ml_RL_71 : Cond.methodLink RL 71 yX11_width ∈ TB := TB_mem (List.mem_of_getElem? (i := 727) (by decide +kernel)) rfl
theorem lk_RL_71 : LkV RL 71 RX11 yX11_width cX11_width 3 (some .int) 1 := ⟨⟨wi_RX11, wc_yX11_width, by decide, by decide, by decide +kernel⟩, ml_RL_71, wn_yX11_width, ws_RX11_yX11_width⟩
theorem ml_RX11_185 : Cond.methodLink RX11 185 yX11_isWidth ∈ TB := TB_mem (List.mem_of_getElem? (i := 731) (by decide +kernel)) rfl
theorem lk_RX11_185 : LkS RX11 185 yX11_isWidth cX11_isWidth 1 (some .boolean) 1 := ⟨⟨wi_RX11, wc_yX11_isWidth, by decide, by decide, by decide +kernel⟩, ml_RX11_185, wt_yX11_isWidth⟩
theorem ml_RL_75 : Cond.methodLink RL 75 yX11_call ∈ TB := TB_mem (List.mem_of_getElem? (i := 734) (by decide +kernel)) rfl
theorem lk_RL_75 : LkV RL 75 RX11 yX11_call cX11_call 7 (some .int) 5 := ⟨⟨wi_RX11, wc_yX11_call, by decide, by decide, by decide +kernel⟩, ml_RL_75, wn_yX11_call, ws_RX11_yX11_call⟩
theorem ml_RX11_188 : Cond.methodLink RX11 188 yX3_has ∈ TB := TB_mem (List.mem_of_getElem? (i := 738) (by decide +kernel)) rfl
theorem lk_RX11_188 : LkV RX11 188 RX3 yX3_has cX3_has 2 (some .boolean) 1 := ⟨⟨wi_RX3, wc_yX3_has, by decide, by decide, by decide +kernel⟩, ml_RX11_188, wn_yX3_has, ws_RX3_yX3_has⟩
theorem ml_RX11_196 : Cond.methodLink RX11 196 yX0_add ∈ TB := TB_mem (List.mem_of_getElem? (i := 742) (by decide +kernel)) rfl
theorem lk_RX11_196 : LkV RX11 196 RX0 yX0_add cX0_add 7 (some .int) 6 := ⟨⟨wi_RX0, wc_yX0_add, by decide, by decide, by decide +kernel⟩, ml_RX11_196, wn_yX0_add, ws_RX0_yX0_add⟩
theorem ml_RL_80 : Cond.methodLink RL 80 yX11_told ∈ TB := TB_mem (List.mem_of_getElem? (i := 746) (by decide +kernel)) rfl
theorem lk_RL_80 : LkV RL 80 RX11 yX11_told cX11_told 4 (some .long) 2 := ⟨⟨wi_RX11, wc_yX11_told, by decide, by decide, by decide +kernel⟩, ml_RL_80, wn_yX11_told, ws_RX11_yX11_told⟩
theorem ml_RX11_201 : Cond.methodLink RX11 201 yX0_has ∈ TB := TB_mem (List.mem_of_getElem? (i := 750) (by decide +kernel)) rfl
theorem lk_RX11_201 : LkV RX11 201 RX0 yX0_has cX0_has 2 (some .boolean) 1 := ⟨⟨wi_RX0, wc_yX0_has, by decide, by decide, by decide +kernel⟩, ml_RX11_201, wn_yX0_has, ws_RX0_yX0_has⟩
theorem ml_RX11_205 : Cond.methodLink RX11 205 yX5_marginOf ∈ TB := TB_mem (List.mem_of_getElem? (i := 754) (by decide +kernel)) rfl
theorem lk_RX11_205 : LkV RX11 205 RX5 yX5_marginOf cX5_marginOf 9 (some .int) 2 := ⟨⟨wi_RX5, wc_yX5_marginOf, by decide, by decide, by decide +kernel⟩, ml_RX11_205, wn_yX5_marginOf, ws_RX5_yX5_marginOf⟩
theorem ml_RX5_99 : Cond.methodLink RX5 99 yX5_frontOf ∈ TB := TB_mem (List.mem_of_getElem? (i := 763) (by decide +kernel)) rfl
theorem lk_RX5_99 : LkV RX5 99 RX5 yX5_frontOf cX5_frontOf 5 (some .int) 2 := ⟨⟨wi_RX5, wc_yX5_frontOf, by decide, by decide, by decide +kernel⟩, ml_RX5_99, wn_yX5_frontOf, ws_RX5_yX5_frontOf⟩
theorem ml_RX5_121 : Cond.methodLink RX5 121 yX1_frameFor ∈ TB := TB_mem (List.mem_of_getElem? (i := 764) (by decide +kernel)) rfl
theorem lk_RX5_121 : LkV RX5 121 RX1 yX1_frameFor cX1_frameFor 5 (some .int) 2 := ⟨⟨wi_RX1, wc_yX1_frameFor, by decide, by decide, by decide +kernel⟩, ml_RX5_121, wn_yX1_frameFor, ws_RX1_yX1_frameFor⟩
theorem ml_RX5_124 : Cond.methodLink RX5 124 yX1_seenAt ∈ TB := TB_mem (List.mem_of_getElem? (i := 765) (by decide +kernel)) rfl
theorem lk_RX5_124 : LkV RX5 124 RX1 yX1_seenAt cX1_seenAt 3 (some .int) 2 := ⟨⟨wi_RX1, wc_yX1_seenAt, by decide, by decide, by decide +kernel⟩, ml_RX5_124, wn_yX1_seenAt, ws_RX1_yX1_seenAt⟩
theorem ml_RX5_127 : Cond.methodLink RX5 127 yX5_leanOn ∈ TB := TB_mem (List.mem_of_getElem? (i := 766) (by decide +kernel)) rfl
theorem lk_RX5_127 : LkV RX5 127 RX5 yX5_leanOn cX5_leanOn 4 (some .int) 2 := ⟨⟨wi_RX5, wc_yX5_leanOn, by decide, by decide, by decide +kernel⟩, ml_RX5_127, wn_yX5_leanOn, ws_RX5_yX5_leanOn⟩
theorem ml_RX11_208 : Cond.methodLink RX11 208 yX5_bandOf ∈ TB := TB_mem (List.mem_of_getElem? (i := 770) (by decide +kernel)) rfl
theorem lk_RX11_208 : LkV RX11 208 RX5 yX5_bandOf cX5_bandOf 4 (some .int) 2 := ⟨⟨wi_RX5, wc_yX5_bandOf, by decide, by decide, by decide +kernel⟩, ml_RX11_208, wn_yX5_bandOf, ws_RX5_yX5_bandOf⟩
theorem ml_RX5_130 : Cond.methodLink RX5 130 yX5_ruledOn ∈ TB := TB_mem (List.mem_of_getElem? (i := 774) (by decide +kernel)) rfl
theorem lk_RX5_130 : LkV RX5 130 RX5 yX5_ruledOn cX5_ruledOn 4 (some .int) 3 := ⟨⟨wi_RX5, wc_yX5_ruledOn, by decide, by decide, by decide +kernel⟩, ml_RX5_130, wn_yX5_ruledOn, ws_RX5_yX5_ruledOn⟩
theorem ml_RX5_92 : Cond.methodLink RX5 92 yX5_worthOf ∈ TB := TB_mem (List.mem_of_getElem? (i := 779) (by decide +kernel)) rfl
theorem lk_RX5_92 : LkV RX5 92 RX5 yX5_worthOf cX5_worthOf 5 (some .int) 4 := ⟨⟨wi_RX5, wc_yX5_worthOf, by decide, by decide, by decide +kernel⟩, ml_RX5_92, wn_yX5_worthOf, ws_RX5_yX5_worthOf⟩
theorem ml_RX5_133 : Cond.methodLink RX5 133 yJ9_min_7cf53 ∈ TB := TB_mem (List.mem_of_getElem? (i := 780) (by decide +kernel)) rfl
theorem lk_RX5_133 : LkS RX5 133 yJ9_min_7cf53 cJ9_min_7cf53 2 (some .int) 2 := ⟨⟨wi_RJ9, wc_yJ9_min_7cf53, by decide, by decide, by decide +kernel⟩, ml_RX5_133, wt_yJ9_min_7cf53⟩
theorem ml_RX5_138 : Cond.methodLink RX5 138 yJ9_max_7cf53 ∈ TB := TB_mem (List.mem_of_getElem? (i := 783) (by decide +kernel)) rfl
theorem lk_RX5_138 : LkS RX5 138 yJ9_max_7cf53 cJ9_max_7cf53 2 (some .int) 2 := ⟨⟨wi_RJ9, wc_yJ9_max_7cf53, by decide, by decide, by decide +kernel⟩, ml_RX5_138, wt_yJ9_max_7cf53⟩
theorem ml_RX11_211 : Cond.methodLink RX11 211 yX5_isOffside ∈ TB := TB_mem (List.mem_of_getElem? (i := 786) (by decide +kernel)) rfl
theorem lk_RX11_211 : LkV RX11 211 RX5 yX5_isOffside cX5_isOffside 4 (some .boolean) 2 := ⟨⟨wi_RX5, wc_yX5_isOffside, by decide, by decide, by decide +kernel⟩, ml_RX11_211, wn_yX5_isOffside, ws_RX5_yX5_isOffside⟩
theorem ml_RX5_141 : Cond.methodLink RX5 141 yX5_marginOf ∈ TB := TB_mem (List.mem_of_getElem? (i := 790) (by decide +kernel)) rfl
theorem lk_RX5_141 : LkV RX5 141 RX5 yX5_marginOf cX5_marginOf 9 (some .int) 2 := ⟨⟨wi_RX5, wc_yX5_marginOf, by decide, by decide, by decide +kernel⟩, ml_RX5_141, wn_yX5_marginOf, ws_RX5_yX5_marginOf⟩
theorem ml_RX5_144 : Cond.methodLink RX5 144 yX5_bandOf ∈ TB := TB_mem (List.mem_of_getElem? (i := 791) (by decide +kernel)) rfl
theorem lk_RX5_144 : LkV RX5 144 RX5 yX5_bandOf cX5_bandOf 4 (some .int) 2 := ⟨⟨wi_RX5, wc_yX5_bandOf, by decide, by decide, by decide +kernel⟩, ml_RX5_144, wn_yX5_bandOf, ws_RX5_yX5_bandOf⟩
theorem ml_RX11_215 : Cond.methodLink RX11 215 yX5_waysOf ∈ TB := TB_mem (List.mem_of_getElem? (i := 792) (by decide +kernel)) rfl
theorem lk_RX11_215 : LkV RX11 215 RX5 yX5_waysOf cX5_waysOf 8 (some .int) 1 := ⟨⟨wi_RX5, wc_yX5_waysOf, by decide, by decide, by decide +kernel⟩, ml_RX11_215, wn_yX5_waysOf, ws_RX5_yX5_waysOf⟩
theorem ml_RX5_165 : Cond.methodLink RX5 165 yX5_spreadOf ∈ TB := TB_mem (List.mem_of_getElem? (i := 796) (by decide +kernel)) rfl
theorem lk_RX5_165 : LkV RX5 165 RX5 yX5_spreadOf cX5_spreadOf 3 (some .int) 1 := ⟨⟨wi_RX5, wc_yX5_spreadOf, by decide, by decide, by decide +kernel⟩, ml_RX5_165, wn_yX5_spreadOf, ws_RX5_yX5_spreadOf⟩
theorem ml_RX11_218 : Cond.methodLink RX11 218 yX5_pairsOf ∈ TB := TB_mem (List.mem_of_getElem? (i := 800) (by decide +kernel)) rfl
theorem lk_RX11_218 : LkV RX11 218 RX5 yX5_pairsOf cX5_pairsOf 3 (some .int) 1 := ⟨⟨wi_RX5, wc_yX5_pairsOf, by decide, by decide, by decide +kernel⟩, ml_RX11_218, wn_yX5_pairsOf, ws_RX5_yX5_pairsOf⟩
theorem ml_RX11_221 : Cond.methodLink RX11 221 yX5_frameErrorOf ∈ TB := TB_mem (List.mem_of_getElem? (i := 804) (by decide +kernel)) rfl
theorem lk_RX11_221 : LkV RX11 221 RX5 yX5_frameErrorOf cX5_frameErrorOf 4 (some .int) 1 := ⟨⟨wi_RX5, wc_yX5_frameErrorOf, by decide, by decide, by decide +kernel⟩, ml_RX11_221, wn_yX5_frameErrorOf, ws_RX5_yX5_frameErrorOf⟩
theorem ml_RX5_168 : Cond.methodLink RX5 168 yX5_trueMargin ∈ TB := TB_mem (List.mem_of_getElem? (i := 808) (by decide +kernel)) rfl
theorem lk_RX5_168 : LkV RX5 168 RX5 yX5_trueMargin cX5_trueMargin 3 (some .int) 2 := ⟨⟨wi_RX5, wc_yX5_trueMargin, by decide, by decide, by decide +kernel⟩, ml_RX5_168, wn_yX5_trueMargin, ws_RX5_yX5_trueMargin⟩
theorem ml_RX11_224 : Cond.methodLink RX11 224 yX5_turnOf ∈ TB := TB_mem (List.mem_of_getElem? (i := 812) (by decide +kernel)) rfl
theorem lk_RX11_224 : LkV RX11 224 RX5 yX5_turnOf cX5_turnOf 8 (some .int) 1 := ⟨⟨wi_RX5, wc_yX5_turnOf, by decide, by decide, by decide +kernel⟩, ml_RX11_224, wn_yX5_turnOf, ws_RX5_yX5_turnOf⟩
theorem ml_RX5_171 : Cond.methodLink RX5 171 yX10_mindsWidth ∈ TB := TB_mem (List.mem_of_getElem? (i := 816) (by decide +kernel)) rfl
theorem lk_RX5_171 : LkV RX5 171 RX10 yX10_mindsWidth cX10_mindsWidth 4 (some .boolean) 1 := ⟨⟨wi_RX10, wc_yX10_mindsWidth, by decide, by decide, by decide +kernel⟩, ml_RX5_171, wn_yX10_mindsWidth, ws_RX10_yX10_mindsWidth⟩
theorem ml_RX5_175 : Cond.methodLink RX5 175 yX5_lookAs ∈ TB := TB_mem (List.mem_of_getElem? (i := 820) (by decide +kernel)) rfl
theorem lk_RX5_175 : LkV RX5 175 RX5 yX5_lookAs cX5_lookAs 2 none 1 := ⟨⟨wi_RX5, wc_yX5_lookAs, by decide, by decide, by decide +kernel⟩, ml_RX5_175, wn_yX5_lookAs, ws_RX5_yX5_lookAs⟩
theorem ml_RL_84 : Cond.methodLink RL 84 yX11_offside ∈ TB := TB_mem (List.mem_of_getElem? (i := 821) (by decide +kernel)) rfl
theorem lk_RL_84 : LkV RL 84 RX11 yX11_offside cX11_offside 1 (some .int) 0 := ⟨⟨wi_RX11, wc_yX11_offside, by decide, by decide, by decide +kernel⟩, ml_RL_84, wn_yX11_offside, ws_RX11_yX11_offside⟩
theorem ml_RX11_227 : Cond.methodLink RX11 227 yX0_all ∈ TB := TB_mem (List.mem_of_getElem? (i := 825) (by decide +kernel)) rfl
theorem lk_RX11_227 : LkV RX11 227 RX0 yX0_all cX0_all 1 (some .int) 0 := ⟨⟨wi_RX0, wc_yX0_all, by decide, by decide, by decide +kernel⟩, ml_RX11_227, wn_yX0_all, ws_RX0_yX0_all⟩
theorem ml_RX11_230 : Cond.methodLink RX11 230 yX5_offsideAmong ∈ TB := TB_mem (List.mem_of_getElem? (i := 829) (by decide +kernel)) rfl
theorem lk_RX11_230 : LkV RX11 230 RX5 yX5_offsideAmong cX5_offsideAmong 4 (some .int) 1 := ⟨⟨wi_RX5, wc_yX5_offsideAmong, by decide, by decide, by decide +kernel⟩, ml_RX11_230, wn_yX5_offsideAmong, ws_RX5_yX5_offsideAmong⟩
theorem ml_RX5_153 : Cond.methodLink RX5 153 yX5_isOffside ∈ TB := TB_mem (List.mem_of_getElem? (i := 833) (by decide +kernel)) rfl
theorem lk_RX5_153 : LkV RX5 153 RX5 yX5_isOffside cX5_isOffside 4 (some .boolean) 2 := ⟨⟨wi_RX5, wc_yX5_isOffside, by decide, by decide, by decide +kernel⟩, ml_RX5_153, wn_yX5_isOffside, ws_RX5_yX5_isOffside⟩
theorem ml_RL_88 : Cond.methodLink RL 88 yX11_wrong ∈ TB := TB_mem (List.mem_of_getElem? (i := 834) (by decide +kernel)) rfl
theorem lk_RL_88 : LkV RL 88 RX11 yX11_wrong cX11_wrong 6 (some .int) 4 := ⟨⟨wi_RX11, wc_yX11_wrong, by decide, by decide, by decide +kernel⟩, ml_RL_88, wn_yX11_wrong, ws_RX11_yX11_wrong⟩
theorem ml_RX11_233 : Cond.methodLink RX11 233 yX11_isSheet ∈ TB := TB_mem (List.mem_of_getElem? (i := 838) (by decide +kernel)) rfl
theorem lk_RX11_233 : LkS RX11 233 yX11_isSheet cX11_isSheet 1 (some .boolean) 1 := ⟨⟨wi_RX11, wc_yX11_isSheet, by decide, by decide, by decide +kernel⟩, ml_RX11_233, wt_yX11_isSheet⟩
theorem ml_RX11_236 : Cond.methodLink RX11 236 yX0_hasAll ∈ TB := TB_mem (List.mem_of_getElem? (i := 841) (by decide +kernel)) rfl
theorem lk_RX11_236 : LkV RX11 236 RX0 yX0_hasAll cX0_hasAll 2 (some .boolean) 1 := ⟨⟨wi_RX0, wc_yX0_hasAll, by decide, by decide, by decide +kernel⟩, ml_RX11_236, wn_yX0_hasAll, ws_RX0_yX0_hasAll⟩
theorem ml_RX0_37 : Cond.methodLink RX0 37 yX0_all ∈ TB := TB_mem (List.mem_of_getElem? (i := 845) (by decide +kernel)) rfl
theorem lk_RX0_37 : LkV RX0 37 RX0 yX0_all cX0_all 1 (some .int) 0 := ⟨⟨wi_RX0, wc_yX0_all, by decide, by decide, by decide +kernel⟩, ml_RX0_37, wn_yX0_all, ws_RX0_yX0_all⟩
theorem ml_RX11_239 : Cond.methodLink RX11 239 yX7_refusalAsWidths ∈ TB := TB_mem (List.mem_of_getElem? (i := 846) (by decide +kernel)) rfl
theorem lk_RX11_239 : LkV RX11 239 RX7 yX7_refusalAsWidths cX7_refusalAsWidths 3 (some .int) 1 := ⟨⟨wi_RX7, wc_yX7_refusalAsWidths, by decide, by decide, by decide +kernel⟩, ml_RX11_239, wn_yX7_refusalAsWidths, ws_RX7_yX7_refusalAsWidths⟩
theorem ml_RX7_25 : Cond.methodLink RX7 25 yX7_isMissing ∈ TB := TB_mem (List.mem_of_getElem? (i := 850) (by decide +kernel)) rfl
theorem lk_RX7_25 : LkV RX7 25 RX7 yX7_isMissing cX7_isMissing 2 (some .boolean) 1 := ⟨⟨wi_RX7, wc_yX7_isMissing, by decide, by decide, by decide +kernel⟩, ml_RX7_25, wn_yX7_isMissing, ws_RX7_yX7_isMissing⟩
theorem ml_RX7_33 : Cond.methodLink RX7 33 yX7_itemOf ∈ TB := TB_mem (List.mem_of_getElem? (i := 855) (by decide +kernel)) rfl
theorem lk_RX7_33 : LkV RX7 33 RX7 yX7_itemOf cX7_itemOf 3 (some .int) 2 := ⟨⟨wi_RX7, wc_yX7_itemOf, by decide, by decide, by decide +kernel⟩, ml_RX7_33, wn_yX7_itemOf, ws_RX7_yX7_itemOf⟩
theorem ml_RX7_21 : Cond.methodLink RX7 21 yX7_has ∈ TB := TB_mem (List.mem_of_getElem? (i := 859) (by decide +kernel)) rfl
theorem lk_RX7_21 : LkV RX7 21 RX7 yX7_has cX7_has 3 (some .boolean) 2 := ⟨⟨wi_RX7, wc_yX7_has, by decide, by decide, by decide +kernel⟩, ml_RX7_21, wn_yX7_has, ws_RX7_yX7_has⟩
theorem ml_RX11_242 : Cond.methodLink RX11 242 yX7_has ∈ TB := TB_mem (List.mem_of_getElem? (i := 864) (by decide +kernel)) rfl
theorem lk_RX11_242 : LkV RX11 242 RX7 yX7_has cX7_has 3 (some .boolean) 2 := ⟨⟨wi_RX7, wc_yX7_has, by decide, by decide, by decide +kernel⟩, ml_RX11_242, wn_yX7_has, ws_RX7_yX7_has⟩
theorem ml_RX11_244 : Cond.methodLink RX11 244 yX7_itemOf ∈ TB := TB_mem (List.mem_of_getElem? (i := 865) (by decide +kernel)) rfl
theorem lk_RX11_244 : LkV RX11 244 RX7 yX7_itemOf cX7_itemOf 3 (some .int) 2 := ⟨⟨wi_RX7, wc_yX7_itemOf, by decide, by decide, by decide +kernel⟩, ml_RX11_244, wn_yX7_itemOf, ws_RX7_yX7_itemOf⟩
theorem ml_RX11_247 : Cond.methodLink RX11 247 yX5_weigh ∈ TB := TB_mem (List.mem_of_getElem? (i := 866) (by decide +kernel)) rfl
theorem lk_RX11_247 : LkV RX11 247 RX5 yX5_weigh cX5_weigh 5 none 1 := ⟨⟨wi_RX5, wc_yX5_weigh, by decide, by decide, by decide +kernel⟩, ml_RX11_247, wn_yX5_weigh, ws_RX5_yX5_weigh⟩
theorem ml_RL_93 : Cond.methodLink RL 93 yX11_best ∈ TB := TB_mem (List.mem_of_getElem? (i := 870) (by decide +kernel)) rfl
theorem lk_RL_93 : LkV RL 93 RX11 yX11_best cX11_best 10 (some .int) 3 := ⟨⟨wi_RX11, wc_yX11_best, by decide, by decide, by decide +kernel⟩, ml_RL_93, wn_yX11_best, ws_RX11_yX11_best⟩
theorem ml_RL_97 : Cond.methodLink RL 97 yX11_match ∈ TB := TB_mem (List.mem_of_getElem? (i := 874) (by decide +kernel)) rfl
theorem lk_RL_97 : LkV RL 97 RX11 yX11_match cX11_match 4 (some .int) 3 := ⟨⟨wi_RX11, wc_yX11_match, by decide, by decide, by decide +kernel⟩, ml_RL_97, wn_yX11_match, ws_RX11_yX11_match⟩
theorem ml_RX11_258 : Cond.methodLink RX11 258 yX11_isSide ∈ TB := TB_mem (List.mem_of_getElem? (i := 878) (by decide +kernel)) rfl
theorem lk_RX11_258 : LkS RX11 258 yX11_isSide cX11_isSide 1 (some .boolean) 1 := ⟨⟨wi_RX11, wc_yX11_isSide, by decide, by decide, by decide +kernel⟩, ml_RX11_258, wt_yX11_isSide⟩
theorem ml_RX11_261 : Cond.methodLink RX11 261 yX4_add ∈ TB := TB_mem (List.mem_of_getElem? (i := 879) (by decide +kernel)) rfl
theorem lk_RX11_261 : LkV RX11 261 RX4 yX4_add cX4_add 4 (some .int) 3 := ⟨⟨wi_RX4, wc_yX4_add, by decide, by decide, by decide +kernel⟩, ml_RX11_261, wn_yX4_add, ws_RX4_yX4_add⟩
theorem ml_RL_101 : Cond.methodLink RL 101 yX11_table ∈ TB := TB_mem (List.mem_of_getElem? (i := 883) (by decide +kernel)) rfl
theorem lk_RL_101 : LkV RL 101 RX11 yX11_table cX11_table 4 (some .int) 3 := ⟨⟨wi_RX11, wc_yX11_table, by decide, by decide, by decide +kernel⟩, ml_RL_101, wn_yX11_table, ws_RX11_yX11_table⟩
theorem ml_RX11_262 : Cond.methodLink RX11 262 yX4_playAll ∈ TB := TB_mem (List.mem_of_getElem? (i := 887) (by decide +kernel)) rfl
theorem lk_RX11_262 : LkV RX11 262 RX4 yX4_playAll cX4_playAll 7 none 2 := ⟨⟨wi_RX4, wc_yX4_playAll, by decide, by decide, by decide +kernel⟩, ml_RX11_262, wn_yX4_playAll, ws_RX4_yX4_playAll⟩
theorem ml_RX4_37 : Cond.methodLink RX4 37 yX0_attackedBy ∈ TB := TB_mem (List.mem_of_getElem? (i := 891) (by decide +kernel)) rfl
theorem lk_RX4_37 : LkV RX4 37 RX0 yX0_attackedBy cX0_attackedBy 5 (some .int) 2 := ⟨⟨wi_RX0, wc_yX0_attackedBy, by decide, by decide, by decide +kernel⟩, ml_RX4_37, wn_yX0_attackedBy, ws_RX0_yX0_attackedBy⟩
theorem ml_RX4_43 : Cond.methodLink RX4 43 yJ6_bitCount_0f7a4 ∈ TB := TB_mem (List.mem_of_getElem? (i := 895) (by decide +kernel)) rfl
theorem lk_RX4_43 : LkS RX4 43 yJ6_bitCount_0f7a4 cJ6_bitCount_0f7a4 1 (some .int) 1 := ⟨⟨wi_RJ6, wc_yJ6_bitCount_0f7a4, by decide, by decide, by decide +kernel⟩, ml_RX4_43, wt_yJ6_bitCount_0f7a4⟩
theorem ml_RX4_49 : Cond.methodLink RX4 49 yX4_score ∈ TB := TB_mem (List.mem_of_getElem? (i := 901) (by decide +kernel)) rfl
theorem lk_RX4_49 : LkV RX4 49 RX4 yX4_score cX4_score 4 none 3 := ⟨⟨wi_RX4, wc_yX4_score, by decide, by decide, by decide +kernel⟩, ml_RX4_49, wn_yX4_score, ws_RX4_yX4_score⟩
theorem ml_RX11_275 : Cond.methodLink RX11 275 yX4_rankOf ∈ TB := TB_mem (List.mem_of_getElem? (i := 905) (by decide +kernel)) rfl
theorem lk_RX11_275 : LkV RX11 275 RX4 yX4_rankOf cX4_rankOf 4 (some .int) 1 := ⟨⟨wi_RX4, wc_yX4_rankOf, by decide, by decide, by decide +kernel⟩, ml_RX11_275, wn_yX4_rankOf, ws_RX4_yX4_rankOf⟩
theorem ml_RX4_53 : Cond.methodLink RX4 53 yX4_isAbove ∈ TB := TB_mem (List.mem_of_getElem? (i := 909) (by decide +kernel)) rfl
theorem lk_RX4_53 : LkV RX4 53 RX4 yX4_isAbove cX4_isAbove 5 (some .boolean) 2 := ⟨⟨wi_RX4, wc_yX4_isAbove, by decide, by decide, by decide +kernel⟩, ml_RX4_53, wn_yX4_isAbove, ws_RX4_yX4_isAbove⟩
theorem ml_RL_105 : Cond.methodLink RL 105 yX11_season ∈ TB := TB_mem (List.mem_of_getElem? (i := 913) (by decide +kernel)) rfl
theorem lk_RL_105 : LkV RL 105 RX11 yX11_season cX11_season 7 (some .int) 1 := ⟨⟨wi_RX11, wc_yX11_season, by decide, by decide, by decide +kernel⟩, ml_RL_105, wn_yX11_season, ws_RX11_yX11_season⟩
theorem ml_RX11_278 : Cond.methodLink RX11 278 yX4_allRanks ∈ TB := TB_mem (List.mem_of_getElem? (i := 917) (by decide +kernel)) rfl
theorem lk_RX11_278 : LkV RX11 278 RX4 yX4_allRanks cX4_allRanks 3 (some .int) 0 := ⟨⟨wi_RX4, wc_yX4_allRanks, by decide, by decide, by decide +kernel⟩, ml_RX11_278, wn_yX4_allRanks, ws_RX4_yX4_allRanks⟩
theorem ml_RX4_57 : Cond.methodLink RX4 57 yX4_rankOf ∈ TB := TB_mem (List.mem_of_getElem? (i := 921) (by decide +kernel)) rfl
theorem lk_RX4_57 : LkV RX4 57 RX4 yX4_rankOf cX4_rankOf 4 (some .int) 1 := ⟨⟨wi_RX4, wc_yX4_rankOf, by decide, by decide, by decide +kernel⟩, ml_RX4_57, wn_yX4_rankOf, ws_RX4_yX4_rankOf⟩
theorem ml_RL_109 : Cond.methodLink RL 109 yX11_stand ∈ TB := TB_mem (List.mem_of_getElem? (i := 922) (by decide +kernel)) rfl
theorem lk_RL_109 : LkV RL 109 RX11 yX11_stand cX11_stand 4 (some .int) 3 := ⟨⟨wi_RX11, wc_yX11_stand, by decide, by decide, by decide +kernel⟩, ml_RL_109, wn_yX11_stand, ws_RX11_yX11_stand⟩
theorem ml_RX11_281 : Cond.methodLink RX11 281 yX5_lookAsStanding ∈ TB := TB_mem (List.mem_of_getElem? (i := 926) (by decide +kernel)) rfl
theorem lk_RX11_281 : LkV RX11 281 RX5 yX5_lookAsStanding cX5_lookAsStanding 4 none 3 := ⟨⟨wi_RX5, wc_yX5_lookAsStanding, by decide, by decide, by decide +kernel⟩, ml_RX11_281, wn_yX5_lookAsStanding, ws_RX5_yX5_lookAsStanding⟩
theorem ml_RX11_285 : Cond.methodLink RX11 285 yX0_attackedBy ∈ TB := TB_mem (List.mem_of_getElem? (i := 927) (by decide +kernel)) rfl
theorem lk_RX11_285 : LkV RX11 285 RX0 yX0_attackedBy cX0_attackedBy 5 (some .int) 2 := ⟨⟨wi_RX0, wc_yX0_attackedBy, by decide, by decide, by decide +kernel⟩, ml_RX11_285, wn_yX0_attackedBy, ws_RX0_yX0_attackedBy⟩
theorem ml_RL_113 : Cond.methodLink RL 113 yX11_shown ∈ TB := TB_mem (List.mem_of_getElem? (i := 928) (by decide +kernel)) rfl
theorem lk_RL_113 : LkV RL 113 RX11 yX11_shown cX11_shown 3 (some .int) 2 := ⟨⟨wi_RX11, wc_yX11_shown, by decide, by decide, by decide +kernel⟩, ml_RL_113, wn_yX11_shown, ws_RX11_yX11_shown⟩
theorem ml_RX11_288 : Cond.methodLink RX11 288 yX2_add ∈ TB := TB_mem (List.mem_of_getElem? (i := 932) (by decide +kernel)) rfl
theorem lk_RX11_288 : LkV RX11 288 RX2 yX2_add cX2_add 3 (some .int) 2 := ⟨⟨wi_RX2, wc_yX2_add, by decide, by decide, by decide +kernel⟩, ml_RX11_288, wn_yX2_add, ws_RX2_yX2_add⟩
theorem ml_RL_117 : Cond.methodLink RL 117 yX11_split ∈ TB := TB_mem (List.mem_of_getElem? (i := 937) (by decide +kernel)) rfl
theorem lk_RL_117 : LkV RL 117 RX11 yX11_split cX11_split 1 (some .int) 0 := ⟨⟨wi_RX11, wc_yX11_split, by decide, by decide, by decide +kernel⟩, ml_RL_117, wn_yX11_split, ws_RX11_yX11_split⟩
theorem ml_RX11_289 : Cond.methodLink RX11 289 yX2_fewestMarks ∈ TB := TB_mem (List.mem_of_getElem? (i := 941) (by decide +kernel)) rfl
theorem lk_RX11_289 : LkV RX11 289 RX2 yX2_fewestMarks cX2_fewestMarks 4 (some .int) 0 := ⟨⟨wi_RX2, wc_yX2_fewestMarks, by decide, by decide, by decide +kernel⟩, ml_RX11_289, wn_yX2_fewestMarks, ws_RX2_yX2_fewestMarks⟩
theorem ml_RX2_29 : Cond.methodLink RX2 29 yJ6_bitCount_0f7a4 ∈ TB := TB_mem (List.mem_of_getElem? (i := 945) (by decide +kernel)) rfl
theorem lk_RX2_29 : LkS RX2 29 yJ6_bitCount_0f7a4 cJ6_bitCount_0f7a4 1 (some .int) 1 := ⟨⟨wi_RJ6, wc_yJ6_bitCount_0f7a4, by decide, by decide, by decide +kernel⟩, ml_RX2_29, wt_yJ6_bitCount_0f7a4⟩
theorem ml_RX2_35 : Cond.methodLink RX2 35 yX2_isSplitBy ∈ TB := TB_mem (List.mem_of_getElem? (i := 946) (by decide +kernel)) rfl
theorem lk_RX2_35 : LkV RX2 35 RX2 yX2_isSplitBy cX2_isSplitBy 4 (some .boolean) 1 := ⟨⟨wi_RX2, wc_yX2_isSplitBy, by decide, by decide, by decide +kernel⟩, ml_RX2_35, wn_yX2_isSplitBy, ws_RX2_yX2_isSplitBy⟩
theorem ml_RL_121 : Cond.methodLink RL 121 yX11_image ∈ TB := TB_mem (List.mem_of_getElem? (i := 950) (by decide +kernel)) rfl
theorem lk_RL_121 : LkV RL 121 RX11 yX11_image cX11_image 1 (some .int) 0 := ⟨⟨wi_RX11, wc_yX11_image, by decide, by decide, by decide +kernel⟩, ml_RL_121, wn_yX11_image, ws_RX11_yX11_image⟩
theorem ml_RX11_293 : Cond.methodLink RX11 293 yX8_takeMenOf ∈ TB := TB_mem (List.mem_of_getElem? (i := 954) (by decide +kernel)) rfl
theorem lk_RX11_293 : LkV RX11 293 RX8 yX8_takeMenOf cX8_takeMenOf 4 none 1 := ⟨⟨wi_RX8, wc_yX8_takeMenOf, by decide, by decide, by decide +kernel⟩, ml_RX11_293, wn_yX8_takeMenOf, ws_RX8_yX8_takeMenOf⟩
theorem ml_RL_125 : Cond.methodLink RL 125 yX11_back ∈ TB := TB_mem (List.mem_of_getElem? (i := 958) (by decide +kernel)) rfl
theorem lk_RL_125 : LkV RL 125 RX11 yX11_back cX11_back 1 (some .int) 0 := ⟨⟨wi_RX11, wc_yX11_back, by decide, by decide, by decide +kernel⟩, ml_RL_125, wn_yX11_back, ws_RX11_yX11_back⟩
theorem ml_RL_129 : Cond.methodLink RL 129 yX11_count ∈ TB := TB_mem (List.mem_of_getElem? (i := 962) (by decide +kernel)) rfl
theorem lk_RL_129 : LkV RL 129 RX11 yX11_count cX11_count 2 (some .int) 1 := ⟨⟨wi_RX11, wc_yX11_count, by decide, by decide, by decide +kernel⟩, ml_RL_129, wn_yX11_count, ws_RX11_yX11_count⟩
theorem ml_RL_133 : Cond.methodLink RL 133 yX11_sheet ∈ TB := TB_mem (List.mem_of_getElem? (i := 966) (by decide +kernel)) rfl
theorem lk_RL_133 : LkV RL 133 RX11 yX11_sheet cX11_sheet 4 (some .int) 3 := ⟨⟨wi_RX11, wc_yX11_sheet, by decide, by decide, by decide +kernel⟩, ml_RL_133, wn_yX11_sheet, ws_RX11_yX11_sheet⟩
theorem ml_RX11_312 : Cond.methodLink RX11 312 yX7_layOut ∈ TB := TB_mem (List.mem_of_getElem? (i := 970) (by decide +kernel)) rfl
theorem lk_RX11_312 : LkV RX11 312 RX7 yX7_layOut cX7_layOut 5 none 3 := ⟨⟨wi_RX7, wc_yX7_layOut, by decide, by decide, by decide +kernel⟩, ml_RX11_312, wn_yX7_layOut, ws_RX7_yX7_layOut⟩
theorem ml_RL_137 : Cond.methodLink RL 137 yX11_cell ∈ TB := TB_mem (List.mem_of_getElem? (i := 974) (by decide +kernel)) rfl
theorem lk_RL_137 : LkV RL 137 RX11 yX11_cell cX11_cell 4 (some .int) 3 := ⟨⟨wi_RX11, wc_yX11_cell, by decide, by decide, by decide +kernel⟩, ml_RL_137, wn_yX11_cell, ws_RX11_yX11_cell⟩
theorem ml_RX11_315 : Cond.methodLink RX11 315 yX7_isMissing ∈ TB := TB_mem (List.mem_of_getElem? (i := 978) (by decide +kernel)) rfl
theorem lk_RX11_315 : LkV RX11 315 RX7 yX7_isMissing cX7_isMissing 2 (some .boolean) 1 := ⟨⟨wi_RX7, wc_yX7_isMissing, by decide, by decide, by decide +kernel⟩, ml_RX11_315, wn_yX7_isMissing, ws_RX7_yX7_isMissing⟩
theorem ml_RX11_318 : Cond.methodLink RX11 318 yX7_put ∈ TB := TB_mem (List.mem_of_getElem? (i := 979) (by decide +kernel)) rfl
theorem lk_RX11_318 : LkV RX11 318 RX7 yX7_put cX7_put 5 none 3 := ⟨⟨wi_RX7, wc_yX7_put, by decide, by decide, by decide +kernel⟩, ml_RX11_318, wn_yX7_put, ws_RX7_yX7_put⟩
theorem ml_RL_141 : Cond.methodLink RL 141 yX11_copy ∈ TB := TB_mem (List.mem_of_getElem? (i := 983) (by decide +kernel)) rfl
theorem lk_RL_141 : LkV RL 141 RX11 yX11_copy cX11_copy 6 (some .int) 5 := ⟨⟨wi_RX11, wc_yX11_copy, by decide, by decide, by decide +kernel⟩, ml_RL_141, wn_yX11_copy, ws_RX11_yX11_copy⟩
theorem ml_RX11_323 : Cond.methodLink RX11 323 yX7_hasRun ∈ TB := TB_mem (List.mem_of_getElem? (i := 987) (by decide +kernel)) rfl
theorem lk_RX11_323 : LkV RX11 323 RX7 yX7_hasRun cX7_hasRun 4 (some .boolean) 3 := ⟨⟨wi_RX7, wc_yX7_hasRun, by decide, by decide, by decide +kernel⟩, ml_RX11_323, wn_yX7_hasRun, ws_RX7_yX7_hasRun⟩
theorem ml_RL_145 : Cond.methodLink RL 145 yX11_men ∈ TB := TB_mem (List.mem_of_getElem? (i := 994) (by decide +kernel)) rfl
theorem lk_RL_145 : LkV RL 145 RX11 yX11_men cX11_men 9 (some .int) 4 := ⟨⟨wi_RX11, wc_yX11_men, by decide, by decide, by decide +kernel⟩, ml_RL_145, wn_yX11_men, ws_RX11_yX11_men⟩
theorem ml_RL_149 : Cond.methodLink RL 149 yX11_taken ∈ TB := TB_mem (List.mem_of_getElem? (i := 998) (by decide +kernel)) rfl
theorem lk_RL_149 : LkV RL 149 RX11 yX11_taken cX11_taken 3 (some .int) 2 := ⟨⟨wi_RX11, wc_yX11_taken, by decide, by decide, by decide +kernel⟩, ml_RL_149, wn_yX11_taken, ws_RX11_yX11_taken⟩
theorem ml_RX11_335 : Cond.methodLink RX11 335 yX11_isUnder ∈ TB := TB_mem (List.mem_of_getElem? (i := 1002) (by decide +kernel)) rfl
theorem lk_RX11_335 : LkS RX11 335 yX11_isUnder cX11_isUnder 4 (some .boolean) 2 := ⟨⟨wi_RX11, wc_yX11_isUnder, by decide, by decide, by decide +kernel⟩, ml_RX11_335, wt_yX11_isUnder⟩
theorem ml_RL_12 : Cond.methodLink RL 12 yX12_init ∈ TB := TB_mem (List.mem_of_getElem? (i := 1005) (by decide +kernel)) rfl
theorem ml_RX12_116 : Cond.methodLink RX12 116 yX12_spell ∈ TB := TB_mem (List.mem_of_getElem? (i := 1010) (by decide +kernel)) rfl
theorem lk_RX12_116 : LkV RX12 116 RX12 yX12_spell cX12_spell 5 none 2 := ⟨⟨wi_RX12, wc_yX12_spell, by decide, by decide, by decide +kernel⟩, ml_RX12_116, wn_yX12_spell, ws_RX12_yX12_spell⟩
theorem ml_RL_17 : Cond.methodLink RL 17 yX12_man ∈ TB := TB_mem (List.mem_of_getElem? (i := 1210) (by decide +kernel)) rfl
theorem lk_RL_17 : LkV RL 17 RX12 yX12_man cX12_man 5 (some .int) 3 := ⟨⟨wi_RX12, wc_yX12_man, by decide, by decide, by decide +kernel⟩, ml_RL_17, wn_yX12_man, ws_RX12_yX12_man⟩
theorem ml_RX12_138 : Cond.methodLink RX12 138 yX12_in ∈ TB := TB_mem (List.mem_of_getElem? (i := 1215) (by decide +kernel)) rfl
theorem lk_RX12_138 : LkS RX12 138 yX12_in cX12_in 6 (some .boolean) 3 := ⟨⟨wi_RX12, wc_yX12_in, by decide, by decide, by decide +kernel⟩, ml_RX12_138, wt_yX12_in⟩
theorem ml_RL_21 : Cond.methodLink RL 21 yX12_part ∈ TB := TB_mem (List.mem_of_getElem? (i := 1221) (by decide +kernel)) rfl
theorem lk_RL_21 : LkV RL 21 RX12 yX12_part cX12_part 5 (some .int) 3 := ⟨⟨wi_RX12, wc_yX12_part, by decide, by decide, by decide +kernel⟩, ml_RL_21, wn_yX12_part, ws_RX12_yX12_part⟩
theorem ml_RX12_154 : Cond.methodLink RX12 154 yX12_isMan ∈ TB := TB_mem (List.mem_of_getElem? (i := 1225) (by decide +kernel)) rfl
theorem lk_RX12_154 : LkV RX12 154 RX12 yX12_isMan cX12_isMan 2 (some .boolean) 1 := ⟨⟨wi_RX12, wc_yX12_isMan, by decide, by decide, by decide +kernel⟩, ml_RX12_154, wn_yX12_isMan, ws_RX12_yX12_isMan⟩
theorem ml_RL_25 : Cond.methodLink RL 25 yX12_move ∈ TB := TB_mem (List.mem_of_getElem? (i := 1231) (by decide +kernel)) rfl
theorem lk_RL_25 : LkV RL 25 RX12 yX12_move cX12_move 5 (some .int) 3 := ⟨⟨wi_RX12, wc_yX12_move, by decide, by decide, by decide +kernel⟩, ml_RL_25, wn_yX12_move, ws_RX12_yX12_move⟩
theorem ml_RL_55 : Cond.methodLink RL 55 yX12_feed ∈ TB := TB_mem (List.mem_of_getElem? (i := 1235) (by decide +kernel)) rfl
theorem lk_RL_55 : LkV RL 55 RX12 yX12_feed cX12_feed 5 (some .int) 2 := ⟨⟨wi_RX12, wc_yX12_feed, by decide, by decide, by decide +kernel⟩, ml_RL_55, wn_yX12_feed, ws_RX12_yX12_feed⟩
theorem ml_RL_60 : Cond.methodLink RL 60 yX12_text ∈ TB := TB_mem (List.mem_of_getElem? (i := 1240) (by decide +kernel)) rfl
theorem lk_RL_60 : LkV RL 60 RX12 yX12_text cX12_text 2 (some .int) 0 := ⟨⟨wi_RX12, wc_yX12_text, by decide, by decide, by decide +kernel⟩, ml_RL_60, wn_yX12_text, ws_RX12_yX12_text⟩
theorem ml_RX12_299 : Cond.methodLink RX12 299 yX12_read ∈ TB := TB_mem (List.mem_of_getElem? (i := 1244) (by decide +kernel)) rfl
theorem lk_RX12_299 : LkV RX12 299 RX12 yX12_read cX12_read 9 (some .int) 5 := ⟨⟨wi_RX12, wc_yX12_read, by decide, by decide, by decide +kernel⟩, ml_RX12_299, wn_yX12_read, ws_RX12_yX12_read⟩
theorem ml_RX12_219 : Cond.methodLink RX12 219 yX12_next ∈ TB := TB_mem (List.mem_of_getElem? (i := 1248) (by decide +kernel)) rfl
theorem lk_RX12_219 : LkV RX12 219 RX12 yX12_next cX12_next 3 none 0 := ⟨⟨wi_RX12, wc_yX12_next, by decide, by decide, by decide +kernel⟩, ml_RX12_219, wn_yX12_next, ws_RX12_yX12_next⟩
theorem ml_RX12_176 : Cond.methodLink RX12 176 yX12_byteAt ∈ TB := TB_mem (List.mem_of_getElem? (i := 1252) (by decide +kernel)) rfl
theorem lk_RX12_176 : LkV RX12 176 RX12 yX12_byteAt cX12_byteAt 2 (some .int) 1 := ⟨⟨wi_RX12, wc_yX12_byteAt, by decide, by decide, by decide +kernel⟩, ml_RX12_176, wn_yX12_byteAt, ws_RX12_yX12_byteAt⟩
theorem ml_RX12_291 : Cond.methodLink RX12 291 yX12_section ∈ TB := TB_mem (List.mem_of_getElem? (i := 1265) (by decide +kernel)) rfl
theorem lk_RX12_291 : LkV RX12 291 RX12 yX12_section cX12_section 4 (some .int) 1 := ⟨⟨wi_RX12, wc_yX12_section, by decide, by decide, by decide +kernel⟩, ml_RX12_291, wn_yX12_section, ws_RX12_yX12_section⟩
theorem ml_RX12_224 : Cond.methodLink RX12 224 yX12_isWord ∈ TB := TB_mem (List.mem_of_getElem? (i := 1269) (by decide +kernel)) rfl
theorem lk_RX12_224 : LkV RX12 224 RX12 yX12_isWord cX12_isWord 3 (some .boolean) 1 := ⟨⟨wi_RX12, wc_yX12_isWord, by decide, by decide, by decide +kernel⟩, ml_RX12_224, wn_yX12_isWord, ws_RX12_yX12_isWord⟩
theorem ml_RX12_216 : Cond.methodLink RX12 216 yX12_fail ∈ TB := TB_mem (List.mem_of_getElem? (i := 1273) (by decide +kernel)) rfl
theorem lk_RX12_216 : LkV RX12 216 RX12 yX12_fail cX12_fail 1 none 0 := ⟨⟨wi_RX12, wc_yX12_fail, by decide, by decide, by decide +kernel⟩, ml_RX12_216, wn_yX12_fail, ws_RX12_yX12_fail⟩
theorem ml_RX12_261 : Cond.methodLink RX12 261 yX12_either ∈ TB := TB_mem (List.mem_of_getElem? (i := 1277) (by decide +kernel)) rfl
theorem lk_RX12_261 : LkV RX12 261 RX12 yX12_either cX12_either 3 (some .int) 0 := ⟨⟨wi_RX12, wc_yX12_either, by decide, by decide, by decide +kernel⟩, ml_RX12_261, wn_yX12_either, ws_RX12_yX12_either⟩
theorem ml_RX12_284 : Cond.methodLink RX12 284 yX12_both ∈ TB := TB_mem (List.mem_of_getElem? (i := 1281) (by decide +kernel)) rfl
theorem lk_RX12_284 : LkV RX12 284 RX12 yX12_both cX12_both 3 (some .int) 0 := ⟨⟨wi_RX12, wc_yX12_both, by decide, by decide, by decide +kernel⟩, ml_RX12_284, wn_yX12_both, ws_RX12_yX12_both⟩
theorem ml_RX12_274 : Cond.methodLink RX12 274 yX12_not ∈ TB := TB_mem (List.mem_of_getElem? (i := 1285) (by decide +kernel)) rfl
theorem lk_RX12_274 : LkV RX12 274 RX12 yX12_not cX12_not 4 (some .int) 0 := ⟨⟨wi_RX12, wc_yX12_not, by decide, by decide, by decide +kernel⟩, ml_RX12_274, wn_yX12_not, ws_RX12_yX12_not⟩
theorem ml_RX12_253 : Cond.methodLink RX12 253 yX12_opens ∈ TB := TB_mem (List.mem_of_getElem? (i := 1290) (by decide +kernel)) rfl
theorem lk_RX12_253 : LkV RX12 253 RX12 yX12_opens cX12_opens 1 (some .boolean) 0 := ⟨⟨wi_RX12, wc_yX12_opens, by decide, by decide, by decide +kernel⟩, ml_RX12_253, wn_yX12_opens, ws_RX12_yX12_opens⟩
theorem ml_RX12_277 : Cond.methodLink RX12 277 yX12_added ∈ TB := TB_mem (List.mem_of_getElem? (i := 1294) (by decide +kernel)) rfl
theorem lk_RX12_277 : LkV RX12 277 RX12 yX12_added cX12_added 4 (some .int) 0 := ⟨⟨wi_RX12, wc_yX12_added, by decide, by decide, by decide +kernel⟩, ml_RX12_277, wn_yX12_added, ws_RX12_yX12_added⟩
theorem ml_RX12_267 : Cond.methodLink RX12 267 yX12_term ∈ TB := TB_mem (List.mem_of_getElem? (i := 1298) (by decide +kernel)) rfl
theorem lk_RX12_267 : LkV RX12 267 RX12 yX12_term cX12_term 2 (some .int) 0 := ⟨⟨wi_RX12, wc_yX12_term, by decide, by decide, by decide +kernel⟩, ml_RX12_267, wn_yX12_term, ws_RX12_yX12_term⟩
theorem ml_RX12_257 : Cond.methodLink RX12 257 yX12_one ∈ TB := TB_mem (List.mem_of_getElem? (i := 1302) (by decide +kernel)) rfl
theorem lk_RX12_257 : LkV RX12 257 RX12 yX12_one cX12_one 2 (some .int) 0 := ⟨⟨wi_RX12, wc_yX12_one, by decide, by decide, by decide +kernel⟩, ml_RX12_257, wn_yX12_one, ws_RX12_yX12_one⟩
theorem ml_RX12_250 : Cond.methodLink RX12 250 yX12_isSign ∈ TB := TB_mem (List.mem_of_getElem? (i := 1306) (by decide +kernel)) rfl
theorem lk_RX12_250 : LkV RX12 250 RX12 yX12_isSign cX12_isSign 2 (some .boolean) 1 := ⟨⟨wi_RX12, wc_yX12_isSign, by decide, by decide, by decide +kernel⟩, ml_RX12_250, wn_yX12_isSign, ws_RX12_yX12_isSign⟩
theorem ml_RX12_264 : Cond.methodLink RX12 264 yX12_name ∈ TB := TB_mem (List.mem_of_getElem? (i := 1310) (by decide +kernel)) rfl
theorem lk_RX12_264 : LkV RX12 264 RX12 yX12_name cX12_name 1 (some .int) 0 := ⟨⟨wi_RX12, wc_yX12_name, by decide, by decide, by decide +kernel⟩, ml_RX12_264, wn_yX12_name, ws_RX12_yX12_name⟩
theorem ml_RL_65 : Cond.methodLink RL 65 yX12_force ∈ TB := TB_mem (List.mem_of_getElem? (i := 1326) (by decide +kernel)) rfl
theorem lk_RL_65 : LkV RL 65 RX12 yX12_force cX12_force 3 (some .int) 1 := ⟨⟨wi_RX12, wc_yX12_force, by decide, by decide, by decide +kernel⟩, ml_RL_65, wn_yX12_force, ws_RX12_yX12_force⟩
theorem ml_RL_70 : Cond.methodLink RL 70 yX12_says ∈ TB := TB_mem (List.mem_of_getElem? (i := 1330) (by decide +kernel)) rfl
theorem lk_RL_70 : LkV RL 70 RX12 yX12_says cX12_says 5 (some .long) 4 := ⟨⟨wi_RX12, wc_yX12_says, by decide, by decide, by decide +kernel⟩, ml_RL_70, wn_yX12_says, ws_RX12_yX12_says⟩
theorem ml_RX12_306 : Cond.methodLink RX12 306 yX12_isTick ∈ TB := TB_mem (List.mem_of_getElem? (i := 1334) (by decide +kernel)) rfl
theorem lk_RX12_306 : LkS RX12 306 yX12_isTick cX12_isTick 1 (some .boolean) 1 := ⟨⟨wi_RX12, wc_yX12_isTick, by decide, by decide, by decide +kernel⟩, ml_RX12_306, wt_yX12_isTick⟩
theorem ml_RL_74 : Cond.methodLink RL 74 yX12_width ∈ TB := TB_mem (List.mem_of_getElem? (i := 1340) (by decide +kernel)) rfl
theorem lk_RL_74 : LkV RL 74 RX12 yX12_width cX12_width 3 (some .int) 1 := ⟨⟨wi_RX12, wc_yX12_width, by decide, by decide, by decide +kernel⟩, ml_RL_74, wn_yX12_width, ws_RX12_yX12_width⟩
theorem ml_RX12_313 : Cond.methodLink RX12 313 yX12_isWidth ∈ TB := TB_mem (List.mem_of_getElem? (i := 1344) (by decide +kernel)) rfl
theorem lk_RX12_313 : LkS RX12 313 yX12_isWidth cX12_isWidth 1 (some .boolean) 1 := ⟨⟨wi_RX12, wc_yX12_isWidth, by decide, by decide, by decide +kernel⟩, ml_RX12_313, wt_yX12_isWidth⟩
theorem ml_RL_30 : Cond.methodLink RL 30 yX12_front ∈ TB := TB_mem (List.mem_of_getElem? (i := 1348) (by decide +kernel)) rfl
theorem lk_RL_30 : LkV RL 30 RX12 yX12_front cX12_front 4 (some .long) 3 := ⟨⟨wi_RX12, wc_yX12_front, by decide, by decide, by decide +kernel⟩, ml_RL_30, wn_yX12_front, ws_RX12_yX12_front⟩
theorem ml_RX12_332 : Cond.methodLink RX12 332 yX12_frontOf ∈ TB := TB_mem (List.mem_of_getElem? (i := 1352) (by decide +kernel)) rfl
theorem lk_RX12_332 : LkV RX12 332 RX12 yX12_frontOf cX12_frontOf 4 (some .int) 2 := ⟨⟨wi_RX12, wc_yX12_frontOf, by decide, by decide, by decide +kernel⟩, ml_RX12_332, wn_yX12_frontOf, ws_RX12_yX12_frontOf⟩
theorem ml_RX12_325 : Cond.methodLink RX12 325 yX12_foremost ∈ TB := TB_mem (List.mem_of_getElem? (i := 1356) (by decide +kernel)) rfl
theorem lk_RX12_325 : LkV RX12 325 RX12 yX12_foremost cX12_foremost 5 (some .int) 2 := ⟨⟨wi_RX12, wc_yX12_foremost, by decide, by decide, by decide +kernel⟩, ml_RX12_325, wn_yX12_foremost, ws_RX12_yX12_foremost⟩
theorem ml_RX12_329 : Cond.methodLink RX12 329 yX12_whereOf ∈ TB := TB_mem (List.mem_of_getElem? (i := 1360) (by decide +kernel)) rfl
theorem lk_RX12_329 : LkV RX12 329 RX12 yX12_whereOf cX12_whereOf 3 (some .int) 2 := ⟨⟨wi_RX12, wc_yX12_whereOf, by decide, by decide, by decide +kernel⟩, ml_RX12_329, wn_yX12_whereOf, ws_RX12_yX12_whereOf⟩
theorem ml_RL_34 : Cond.methodLink RL 34 yX12_camera ∈ TB := TB_mem (List.mem_of_getElem? (i := 1364) (by decide +kernel)) rfl
theorem lk_RL_34 : LkV RL 34 RX12 yX12_camera cX12_camera 4 (some .int) 3 := ⟨⟨wi_RX12, wc_yX12_camera, by decide, by decide, by decide +kernel⟩, ml_RL_34, wn_yX12_camera, ws_RX12_yX12_camera⟩
theorem ml_RL_39 : Cond.methodLink RL 39 yX12_frame ∈ TB := TB_mem (List.mem_of_getElem? (i := 1372) (by decide +kernel)) rfl
theorem lk_RL_39 : LkV RL 39 RX12 yX12_frame cX12_frame 3 (some .int) 2 := ⟨⟨wi_RX12, wc_yX12_frame, by decide, by decide, by decide +kernel⟩, ml_RL_39, wn_yX12_frame, ws_RX12_yX12_frame⟩
theorem ml_RX12_346 : Cond.methodLink RX12 346 yX12_frameOf ∈ TB := TB_mem (List.mem_of_getElem? (i := 1376) (by decide +kernel)) rfl
theorem lk_RX12_346 : LkV RX12 346 RX12 yX12_frameOf cX12_frameOf 3 (some .int) 2 := ⟨⟨wi_RX12, wc_yX12_frameOf, by decide, by decide, by decide +kernel⟩, ml_RX12_346, wn_yX12_frameOf, ws_RX12_yX12_frameOf⟩
theorem ml_RL_44 : Cond.methodLink RL 44 yX12_sees ∈ TB := TB_mem (List.mem_of_getElem? (i := 1380) (by decide +kernel)) rfl
theorem lk_RL_44 : LkV RL 44 RX12 yX12_sees cX12_sees 3 (some .long) 2 := ⟨⟨wi_RX12, wc_yX12_sees, by decide, by decide, by decide +kernel⟩, ml_RL_44, wn_yX12_sees, ws_RX12_yX12_sees⟩
theorem ml_RX12_353 : Cond.methodLink RX12 353 yX12_seen ∈ TB := TB_mem (List.mem_of_getElem? (i := 1386) (by decide +kernel)) rfl
theorem lk_RX12_353 : LkV RX12 353 RX12 yX12_seen cX12_seen 3 (some .int) 2 := ⟨⟨wi_RX12, wc_yX12_seen, by decide, by decide, by decide +kernel⟩, ml_RX12_353, wn_yX12_seen, ws_RX12_yX12_seen⟩
theorem ml_RL_48 : Cond.methodLink RL 48 yX12_crosser ∈ TB := TB_mem (List.mem_of_getElem? (i := 1390) (by decide +kernel)) rfl
theorem lk_RL_48 : LkV RL 48 RX12 yX12_crosser cX12_crosser 3 (some .int) 2 := ⟨⟨wi_RX12, wc_yX12_crosser, by decide, by decide, by decide +kernel⟩, ml_RL_48, wn_yX12_crosser, ws_RX12_yX12_crosser⟩
theorem ml_RL_79 : Cond.methodLink RL 79 yX12_call ∈ TB := TB_mem (List.mem_of_getElem? (i := 1395) (by decide +kernel)) rfl
theorem lk_RL_79 : LkV RL 79 RX12 yX12_call cX12_call 6 (some .int) 5 := ⟨⟨wi_RX12, wc_yX12_call, by decide, by decide, by decide +kernel⟩, ml_RL_79, wn_yX12_call, ws_RX12_yX12_call⟩
theorem ml_RL_83 : Cond.methodLink RL 83 yX12_told ∈ TB := TB_mem (List.mem_of_getElem? (i := 1400) (by decide +kernel)) rfl
theorem lk_RL_83 : LkV RL 83 RX12 yX12_told cX12_told 5 (some .long) 2 := ⟨⟨wi_RX12, wc_yX12_told, by decide, by decide, by decide +kernel⟩, ml_RL_83, wn_yX12_told, ws_RX12_yX12_told⟩
theorem ml_RX12_389 : Cond.methodLink RX12 389 yX12_isCall ∈ TB := TB_mem (List.mem_of_getElem? (i := 1404) (by decide +kernel)) rfl
theorem lk_RX12_389 : LkV RX12 389 RX12 yX12_isCall cX12_isCall 2 (some .boolean) 1 := ⟨⟨wi_RX12, wc_yX12_isCall, by decide, by decide, by decide +kernel⟩, ml_RX12_389, wn_yX12_isCall, ws_RX12_yX12_isCall⟩
theorem ml_RX12_386 : Cond.methodLink RX12 386 yX12_spreadOf ∈ TB := TB_mem (List.mem_of_getElem? (i := 1408) (by decide +kernel)) rfl
theorem lk_RX12_386 : LkV RX12 386 RX12 yX12_spreadOf cX12_spreadOf 2 (some .int) 1 := ⟨⟨wi_RX12, wc_yX12_spreadOf, by decide, by decide, by decide +kernel⟩, ml_RX12_386, wn_yX12_spreadOf, ws_RX12_yX12_spreadOf⟩
theorem ml_RX12_376 : Cond.methodLink RX12 376 yX12_marginBy ∈ TB := TB_mem (List.mem_of_getElem? (i := 1412) (by decide +kernel)) rfl
theorem lk_RX12_376 : LkV RX12 376 RX12 yX12_marginBy cX12_marginBy 5 (some .int) 2 := ⟨⟨wi_RX12, wc_yX12_marginBy, by decide, by decide, by decide +kernel⟩, ml_RX12_376, wn_yX12_marginBy, ws_RX12_yX12_marginBy⟩
theorem ml_RX12_366 : Cond.methodLink RX12 366 yX12_trueMargin ∈ TB := TB_mem (List.mem_of_getElem? (i := 1416) (by decide +kernel)) rfl
theorem lk_RX12_366 : LkV RX12 366 RX12 yX12_trueMargin cX12_trueMargin 3 (some .int) 2 := ⟨⟨wi_RX12, wc_yX12_trueMargin, by decide, by decide, by decide +kernel⟩, ml_RX12_366, wn_yX12_trueMargin, ws_RX12_yX12_trueMargin⟩
theorem ml_RX12_369 : Cond.methodLink RX12 369 yX12_crossed ∈ TB := TB_mem (List.mem_of_getElem? (i := 1420) (by decide +kernel)) rfl
theorem lk_RX12_369 : LkV RX12 369 RX12 yX12_crossed cX12_crossed 7 (some .int) 4 := ⟨⟨wi_RX12, wc_yX12_crossed, by decide, by decide, by decide +kernel⟩, ml_RX12_369, wn_yX12_crossed, ws_RX12_yX12_crossed⟩
theorem ml_RX12_379 : Cond.methodLink RX12 379 yX12_bandBy ∈ TB := TB_mem (List.mem_of_getElem? (i := 1424) (by decide +kernel)) rfl
theorem lk_RX12_379 : LkV RX12 379 RX12 yX12_bandBy cX12_bandBy 3 (some .int) 2 := ⟨⟨wi_RX12, wc_yX12_bandBy, by decide, by decide, by decide +kernel⟩, ml_RX12_379, wn_yX12_bandBy, ws_RX12_yX12_bandBy⟩
theorem ml_RX12_373 : Cond.methodLink RX12 373 yX12_nearOf ∈ TB := TB_mem (List.mem_of_getElem? (i := 1428) (by decide +kernel)) rfl
theorem lk_RX12_373 : LkV RX12 373 RX12 yX12_nearOf cX12_nearOf 3 (some .int) 1 := ⟨⟨wi_RX12, wc_yX12_nearOf, by decide, by decide, by decide +kernel⟩, ml_RX12_373, wn_yX12_nearOf, ws_RX12_yX12_nearOf⟩
theorem ml_RX12_382 : Cond.methodLink RX12 382 yX12_isAhead ∈ TB := TB_mem (List.mem_of_getElem? (i := 1432) (by decide +kernel)) rfl
theorem lk_RX12_382 : LkV RX12 382 RX12 yX12_isAhead cX12_isAhead 3 (some .boolean) 2 := ⟨⟨wi_RX12, wc_yX12_isAhead, by decide, by decide, by decide +kernel⟩, ml_RX12_382, wn_yX12_isAhead, ws_RX12_yX12_isAhead⟩
theorem ml_RX12_392 : Cond.methodLink RX12 392 yX12_isOffside ∈ TB := TB_mem (List.mem_of_getElem? (i := 1436) (by decide +kernel)) rfl
theorem lk_RX12_392 : LkV RX12 392 RX12 yX12_isOffside cX12_isOffside 3 (some .boolean) 2 := ⟨⟨wi_RX12, wc_yX12_isOffside, by decide, by decide, by decide +kernel⟩, ml_RX12_392, wn_yX12_isOffside, ws_RX12_yX12_isOffside⟩
theorem ml_RX12_395 : Cond.methodLink RX12 395 yX12_waysOf ∈ TB := TB_mem (List.mem_of_getElem? (i := 1440) (by decide +kernel)) rfl
theorem lk_RX12_395 : LkV RX12 395 RX12 yX12_waysOf cX12_waysOf 8 (some .int) 1 := ⟨⟨wi_RX12, wc_yX12_waysOf, by decide, by decide, by decide +kernel⟩, ml_RX12_395, wn_yX12_waysOf, ws_RX12_yX12_waysOf⟩
theorem ml_RX12_398 : Cond.methodLink RX12 398 yX12_turnsOf ∈ TB := TB_mem (List.mem_of_getElem? (i := 1444) (by decide +kernel)) rfl
theorem lk_RX12_398 : LkV RX12 398 RX12 yX12_turnsOf cX12_turnsOf 5 (some .int) 1 := ⟨⟨wi_RX12, wc_yX12_turnsOf, by decide, by decide, by decide +kernel⟩, ml_RX12_398, wn_yX12_turnsOf, ws_RX12_yX12_turnsOf⟩
theorem ml_RL_87 : Cond.methodLink RL 87 yX12_offside ∈ TB := TB_mem (List.mem_of_getElem? (i := 1448) (by decide +kernel)) rfl
theorem lk_RL_87 : LkV RL 87 RX12 yX12_offside cX12_offside 1 (some .int) 0 := ⟨⟨wi_RX12, wc_yX12_offside, by decide, by decide, by decide +kernel⟩, ml_RL_87, wn_yX12_offside, ws_RX12_yX12_offside⟩
theorem ml_RX12_401 : Cond.methodLink RX12 401 yX12_all ∈ TB := TB_mem (List.mem_of_getElem? (i := 1452) (by decide +kernel)) rfl
theorem lk_RX12_401 : LkV RX12 401 RX12 yX12_all cX12_all 1 (some .int) 0 := ⟨⟨wi_RX12, wc_yX12_all, by decide, by decide, by decide +kernel⟩, ml_RX12_401, wn_yX12_all, ws_RX12_yX12_all⟩
theorem ml_RX12_404 : Cond.methodLink RX12 404 yX12_offsides ∈ TB := TB_mem (List.mem_of_getElem? (i := 1456) (by decide +kernel)) rfl
theorem lk_RX12_404 : LkV RX12 404 RX12 yX12_offsides cX12_offsides 4 (some .int) 1 := ⟨⟨wi_RX12, wc_yX12_offsides, by decide, by decide, by decide +kernel⟩, ml_RX12_404, wn_yX12_offsides, ws_RX12_yX12_offsides⟩
theorem ml_RL_92 : Cond.methodLink RL 92 yX12_wrong ∈ TB := TB_mem (List.mem_of_getElem? (i := 1460) (by decide +kernel)) rfl
theorem lk_RL_92 : LkV RL 92 RX12 yX12_wrong cX12_wrong 6 (some .int) 4 := ⟨⟨wi_RX12, wc_yX12_wrong, by decide, by decide, by decide +kernel⟩, ml_RL_92, wn_yX12_wrong, ws_RX12_yX12_wrong⟩
theorem ml_RX12_407 : Cond.methodLink RX12 407 yX12_isSheet ∈ TB := TB_mem (List.mem_of_getElem? (i := 1464) (by decide +kernel)) rfl
theorem lk_RX12_407 : LkS RX12 407 yX12_isSheet cX12_isSheet 1 (some .boolean) 1 := ⟨⟨wi_RX12, wc_yX12_isSheet, by decide, by decide, by decide +kernel⟩, ml_RX12_407, wt_yX12_isSheet⟩
theorem ml_RX12_410 : Cond.methodLink RX12 410 yX12_widths ∈ TB := TB_mem (List.mem_of_getElem? (i := 1467) (by decide +kernel)) rfl
theorem lk_RX12_410 : LkV RX12 410 RX12 yX12_widths cX12_widths 3 (some .int) 1 := ⟨⟨wi_RX12, wc_yX12_widths, by decide, by decide, by decide +kernel⟩, ml_RX12_410, wn_yX12_widths, ws_RX12_yX12_widths⟩
theorem ml_RX12_413 : Cond.methodLink RX12 413 yX12_wrongs ∈ TB := TB_mem (List.mem_of_getElem? (i := 1471) (by decide +kernel)) rfl
theorem lk_RX12_413 : LkV RX12 413 RX12 yX12_wrongs cX12_wrongs 9 (some .int) 3 := ⟨⟨wi_RX12, wc_yX12_wrongs, by decide, by decide, by decide +kernel⟩, ml_RX12_413, wn_yX12_wrongs, ws_RX12_yX12_wrongs⟩
theorem ml_RL_96 : Cond.methodLink RL 96 yX12_best ∈ TB := TB_mem (List.mem_of_getElem? (i := 1475) (by decide +kernel)) rfl
theorem lk_RL_96 : LkV RL 96 RX12 yX12_best cX12_best 10 (some .int) 3 := ⟨⟨wi_RX12, wc_yX12_best, by decide, by decide, by decide +kernel⟩, ml_RL_96, wn_yX12_best, ws_RX12_yX12_best⟩
theorem ml_RL_100 : Cond.methodLink RL 100 yX12_match ∈ TB := TB_mem (List.mem_of_getElem? (i := 1479) (by decide +kernel)) rfl
theorem lk_RL_100 : LkV RL 100 RX12 yX12_match cX12_match 4 (some .int) 3 := ⟨⟨wi_RX12, wc_yX12_match, by decide, by decide, by decide +kernel⟩, ml_RL_100, wn_yX12_match, ws_RX12_yX12_match⟩
theorem ml_RL_104 : Cond.methodLink RL 104 yX12_table ∈ TB := TB_mem (List.mem_of_getElem? (i := 1483) (by decide +kernel)) rfl
theorem lk_RL_104 : LkV RL 104 RX12 yX12_table cX12_table 4 (some .int) 3 := ⟨⟨wi_RX12, wc_yX12_table, by decide, by decide, by decide +kernel⟩, ml_RL_104, wn_yX12_table, ws_RX12_yX12_table⟩
theorem ml_RX12_427 : Cond.methodLink RX12 427 yX12_tables ∈ TB := TB_mem (List.mem_of_getElem? (i := 1487) (by decide +kernel)) rfl
theorem lk_RX12_427 : LkV RX12 427 RX12 yX12_tables cX12_tables 9 none 1 := ⟨⟨wi_RX12, wc_yX12_tables, by decide, by decide, by decide +kernel⟩, ml_RX12_427, wn_yX12_tables, ws_RX12_yX12_tables⟩
theorem ml_RX12_420 : Cond.methodLink RX12 420 yX12_counts ∈ TB := TB_mem (List.mem_of_getElem? (i := 1491) (by decide +kernel)) rfl
theorem lk_RX12_420 : LkV RX12 420 RX12 yX12_counts cX12_counts 4 none 3 := ⟨⟨wi_RX12, wc_yX12_counts, by decide, by decide, by decide +kernel⟩, ml_RX12_420, wn_yX12_counts, ws_RX12_yX12_counts⟩
theorem ml_RX12_431 : Cond.methodLink RX12 431 yX12_rankOf ∈ TB := TB_mem (List.mem_of_getElem? (i := 1495) (by decide +kernel)) rfl
theorem lk_RX12_431 : LkV RX12 431 RX12 yX12_rankOf cX12_rankOf 4 (some .int) 1 := ⟨⟨wi_RX12, wc_yX12_rankOf, by decide, by decide, by decide +kernel⟩, ml_RX12_431, wn_yX12_rankOf, ws_RX12_yX12_rankOf⟩
theorem ml_RX12_424 : Cond.methodLink RX12 424 yX12_isAbove ∈ TB := TB_mem (List.mem_of_getElem? (i := 1499) (by decide +kernel)) rfl
theorem lk_RX12_424 : LkV RX12 424 RX12 yX12_isAbove cX12_isAbove 5 (some .boolean) 2 := ⟨⟨wi_RX12, wc_yX12_isAbove, by decide, by decide, by decide +kernel⟩, ml_RX12_424, wn_yX12_isAbove, ws_RX12_yX12_isAbove⟩
theorem ml_RL_108 : Cond.methodLink RL 108 yX12_season ∈ TB := TB_mem (List.mem_of_getElem? (i := 1503) (by decide +kernel)) rfl
theorem lk_RL_108 : LkV RL 108 RX12 yX12_season cX12_season 7 (some .int) 1 := ⟨⟨wi_RX12, wc_yX12_season, by decide, by decide, by decide +kernel⟩, ml_RL_108, wn_yX12_season, ws_RX12_yX12_season⟩
theorem ml_RX12_434 : Cond.methodLink RX12 434 yX12_ranks ∈ TB := TB_mem (List.mem_of_getElem? (i := 1507) (by decide +kernel)) rfl
theorem lk_RX12_434 : LkV RX12 434 RX12 yX12_ranks cX12_ranks 4 (some .int) 1 := ⟨⟨wi_RX12, wc_yX12_ranks, by decide, by decide, by decide +kernel⟩, ml_RX12_434, wn_yX12_ranks, ws_RX12_yX12_ranks⟩
theorem ml_RL_112 : Cond.methodLink RL 112 yX12_stand ∈ TB := TB_mem (List.mem_of_getElem? (i := 1511) (by decide +kernel)) rfl
theorem lk_RL_112 : LkV RL 112 RX12 yX12_stand cX12_stand 7 (some .int) 3 := ⟨⟨wi_RX12, wc_yX12_stand, by decide, by decide, by decide +kernel⟩, ml_RL_112, wn_yX12_stand, ws_RX12_yX12_stand⟩
theorem ml_RL_116 : Cond.methodLink RL 116 yX12_shown ∈ TB := TB_mem (List.mem_of_getElem? (i := 1515) (by decide +kernel)) rfl
theorem lk_RL_116 : LkV RL 116 RX12 yX12_shown cX12_shown 3 (some .int) 2 := ⟨⟨wi_RX12, wc_yX12_shown, by decide, by decide, by decide +kernel⟩, ml_RL_116, wn_yX12_shown, ws_RX12_yX12_shown⟩
theorem ml_RL_120 : Cond.methodLink RL 120 yX12_split ∈ TB := TB_mem (List.mem_of_getElem? (i := 1520) (by decide +kernel)) rfl
theorem lk_RL_120 : LkV RL 120 RX12 yX12_split cX12_split 6 (some .int) 0 := ⟨⟨wi_RX12, wc_yX12_split, by decide, by decide, by decide +kernel⟩, ml_RL_120, wn_yX12_split, ws_RX12_yX12_split⟩
theorem ml_RX12_442 : Cond.methodLink RX12 442 yX12_bitsOf ∈ TB := TB_mem (List.mem_of_getElem? (i := 1524) (by decide +kernel)) rfl
theorem lk_RX12_442 : LkS RX12 442 yX12_bitsOf cX12_bitsOf 3 (some .int) 1 := ⟨⟨wi_RX12, wc_yX12_bitsOf, by decide, by decide, by decide +kernel⟩, ml_RX12_442, wt_yX12_bitsOf⟩
theorem ml_RL_124 : Cond.methodLink RL 124 yX12_image ∈ TB := TB_mem (List.mem_of_getElem? (i := 1527) (by decide +kernel)) rfl
theorem lk_RL_124 : LkV RL 124 RX12 yX12_image cX12_image 3 (some .int) 0 := ⟨⟨wi_RX12, wc_yX12_image, by decide, by decide, by decide +kernel⟩, ml_RL_124, wn_yX12_image, ws_RX12_yX12_image⟩
theorem ml_RL_128 : Cond.methodLink RL 128 yX12_back ∈ TB := TB_mem (List.mem_of_getElem? (i := 1531) (by decide +kernel)) rfl
theorem lk_RL_128 : LkV RL 128 RX12 yX12_back cX12_back 3 (some .int) 0 := ⟨⟨wi_RX12, wc_yX12_back, by decide, by decide, by decide +kernel⟩, ml_RL_128, wn_yX12_back, ws_RX12_yX12_back⟩
theorem ml_RL_132 : Cond.methodLink RL 132 yX12_count ∈ TB := TB_mem (List.mem_of_getElem? (i := 1535) (by decide +kernel)) rfl
theorem lk_RL_132 : LkV RL 132 RX12 yX12_count cX12_count 2 (some .int) 1 := ⟨⟨wi_RX12, wc_yX12_count, by decide, by decide, by decide +kernel⟩, ml_RL_132, wn_yX12_count, ws_RX12_yX12_count⟩
theorem ml_RL_136 : Cond.methodLink RL 136 yX12_sheet ∈ TB := TB_mem (List.mem_of_getElem? (i := 1539) (by decide +kernel)) rfl
theorem lk_RL_136 : LkV RL 136 RX12 yX12_sheet cX12_sheet 5 (some .int) 3 := ⟨⟨wi_RX12, wc_yX12_sheet, by decide, by decide, by decide +kernel⟩, ml_RL_136, wn_yX12_sheet, ws_RX12_yX12_sheet⟩
theorem ml_RL_140 : Cond.methodLink RL 140 yX12_cell ∈ TB := TB_mem (List.mem_of_getElem? (i := 1543) (by decide +kernel)) rfl
theorem lk_RL_140 : LkV RL 140 RX12 yX12_cell cX12_cell 4 (some .int) 3 := ⟨⟨wi_RX12, wc_yX12_cell, by decide, by decide, by decide +kernel⟩, ml_RL_140, wn_yX12_cell, ws_RX12_yX12_cell⟩
theorem ml_RL_144 : Cond.methodLink RL 144 yX12_copy ∈ TB := TB_mem (List.mem_of_getElem? (i := 1547) (by decide +kernel)) rfl
theorem lk_RL_144 : LkV RL 144 RX12 yX12_copy cX12_copy 9 (some .int) 5 := ⟨⟨wi_RX12, wc_yX12_copy, by decide, by decide, by decide +kernel⟩, ml_RL_144, wn_yX12_copy, ws_RX12_yX12_copy⟩
theorem ml_RL_148 : Cond.methodLink RL 148 yX12_men ∈ TB := TB_mem (List.mem_of_getElem? (i := 1551) (by decide +kernel)) rfl
theorem lk_RL_148 : LkV RL 148 RX12 yX12_men cX12_men 8 (some .int) 4 := ⟨⟨wi_RX12, wc_yX12_men, by decide, by decide, by decide +kernel⟩, ml_RL_148, wn_yX12_men, ws_RX12_yX12_men⟩
theorem ml_RX12_457 : Cond.methodLink RX12 457 yX12_man ∈ TB := TB_mem (List.mem_of_getElem? (i := 1555) (by decide +kernel)) rfl
theorem lk_RX12_457 : LkV RX12 457 RX12 yX12_man cX12_man 5 (some .int) 3 := ⟨⟨wi_RX12, wc_yX12_man, by decide, by decide, by decide +kernel⟩, ml_RX12_457, wn_yX12_man, ws_RX12_yX12_man⟩
theorem ml_RL_152 : Cond.methodLink RL 152 yX12_taken ∈ TB := TB_mem (List.mem_of_getElem? (i := 1556) (by decide +kernel)) rfl
theorem lk_RL_152 : LkV RL 152 RX12 yX12_taken cX12_taken 4 (some .int) 2 := ⟨⟨wi_RX12, wc_yX12_taken, by decide, by decide, by decide +kernel⟩, ml_RL_152, wn_yX12_taken, ws_RX12_yX12_taken⟩
theorem ml_RX12_460 : Cond.methodLink RX12 460 yX12_over ∈ TB := TB_mem (List.mem_of_getElem? (i := 1560) (by decide +kernel)) rfl
theorem lk_RX12_460 : LkS RX12 460 yX12_over cX12_over 1 (some .int) 1 := ⟨⟨wi_RX12, wc_yX12_over, by decide, by decide, by decide +kernel⟩, ml_RX12_460, wt_yX12_over⟩
theorem lkn_yX11_isWithin : LkN yX11_isWithin cX11_isWithin 3 (some .boolean) 3 := ⟨⟨wi_RX11, wc_yX11_isWithin, by decide, by decide, by decide +kernel⟩, wt_yX11_isWithin⟩
theorem lkn_yX11_isSide : LkN yX11_isSide cX11_isSide 1 (some .boolean) 1 := ⟨⟨wi_RX11, wc_yX11_isSide, by decide, by decide, by decide +kernel⟩, wt_yX11_isSide⟩
theorem lkn_yX11_isPlace : LkN yX11_isPlace cX11_isPlace 1 (some .boolean) 1 := ⟨⟨wi_RX11, wc_yX11_isPlace, by decide, by decide, by decide +kernel⟩, wt_yX11_isPlace⟩
theorem lkn_yX11_isSpeed : LkN yX11_isSpeed cX11_isSpeed 1 (some .boolean) 1 := ⟨⟨wi_RX11, wc_yX11_isSpeed, by decide, by decide, by decide +kernel⟩, wt_yX11_isSpeed⟩
theorem lkn_yX11_isUnder : LkN yX11_isUnder cX11_isUnder 4 (some .boolean) 2 := ⟨⟨wi_RX11, wc_yX11_isUnder, by decide, by decide, by decide +kernel⟩, wt_yX11_isUnder⟩
theorem lkn_yX11_footIfNone : LkN yX11_footIfNone cX11_footIfNone 1 (some .int) 1 := ⟨⟨wi_RX11, wc_yX11_footIfNone, by decide, by decide, by decide +kernel⟩, wt_yX11_footIfNone⟩
theorem lkn_yX11_isWidth : LkN yX11_isWidth cX11_isWidth 1 (some .boolean) 1 := ⟨⟨wi_RX11, wc_yX11_isWidth, by decide, by decide, by decide +kernel⟩, wt_yX11_isWidth⟩
theorem inTX0 : ∀ w ∈ u_ws RX0 TX0 8, w ∈ TB := in_places [218, 220, 222, 224, 226, 228, 230, 232] (by decide +kernel) (by decide +kernel)
theorem inTX1 : ∀ w ∈ u_ws RX1 TX1 4, w ∈ TB := in_places [136, 138, 140, 142] (by decide +kernel) (by decide +kernel)
theorem inTX2 : ∀ w ∈ u_ws RX2 TX2 4, w ∈ TB := in_places [375, 377, 379, 381] (by decide +kernel) (by decide +kernel)
theorem inTX3 : ∀ w ∈ u_ws RX3 TX3 3, w ∈ TB := in_places [157, 159, 161] (by decide +kernel) (by decide +kernel)
theorem inTX4 : ∀ w ∈ u_ws RX4 TX4 8, w ∈ TB := in_places [347, 349, 351, 353, 355, 357, 359, 361] (by decide +kernel) (by decide +kernel)
theorem inTX5 : ∀ w ∈ u_ws RX5 TX5 10, w ∈ TB := in_places [252, 254, 256, 258, 260, 262, 264, 266, 268, 270] (by decide +kernel) (by decide +kernel)
theorem inTX6 : ∀ w ∈ u_ws RX6 TX6 5, w ∈ TB := in_places [318, 320, 322, 324, 326] (by decide +kernel) (by decide +kernel)
theorem inTX7 : ∀ w ∈ u_ws RX7 TX7 3, w ∈ TB := in_places [396, 398, 400] (by decide +kernel) (by decide +kernel)
theorem inTX8 : ∀ w ∈ u_ws RX8 TX8 5, w ∈ TB := in_places [113, 115, 117, 119, 121] (by decide +kernel) (by decide +kernel)
theorem inTX9 : ∀ w ∈ u_ws RX9 TX9 6, w ∈ TB := in_places [297, 299, 301, 303, 305, 307] (by decide +kernel) (by decide +kernel)
theorem inTX10 : ∀ w ∈ u_ws RX10 TX10 7, w ∈ TB := in_places [179, 181, 183, 185, 187, 189, 191] (by decide +kernel) (by decide +kernel)
theorem inTX11 : ∀ w ∈ u_ws RX11 TX11 10, w ∈ TB := in_places [554, 556, 558, 560, 562, 564, 566, 568, 570, 572] (by decide +kernel) (by decide +kernel)
theorem inTX12 : ∀ w ∈ u_ws RX12 TX12 63, w ∈ TB := in_places [1082, 1084, 1086, 1088, 1090, 1092, 1094, 1096, 1098, 1100, 1102, 1104, 1106, 1108, 1110, 1112, 1114, 1116, 1118, 1120, 1122, 1124, 1126, 1128, 1130, 1132, 1134, 1136, 1138, 1140, 1142, 1144, 1146, 1148, 1150, 1152, 1154, 1156, 1158, 1160, 1162, 1164, 1166, 1168, 1170, 1172, 1174, 1176, 1178, 1180, 1182, 1184, 1186, 1188, 1190, 1192, 1194, 1196, 1198, 1200, 1202, 1204, 1206] (by decide +kernel) (by decide +kernel)
