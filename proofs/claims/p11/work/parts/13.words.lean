def isNest : Cond → Bool
  | .fieldLinkNest .. => true
  | .methodLinkNest .. => true
  | _ => false
def gw : List Cond := lw_tbl.filter goodWord
def nw : List Cond := lw_tbl.filter isNest
theorem mgw {w : Cond} (i : Nat) (h : lw_tbl[i]? = some w) (hg : goodWord w = true) : w ∈ gw := List.mem_filter.mpr ⟨List.mem_of_getElem? h, hg⟩
theorem mnw {w : Cond} (i : Nat) (h : lw_tbl[i]? = some w) (hg : isNest w = true) : w ∈ nw := List.mem_filter.mpr ⟨List.mem_of_getElem? h, hg⟩
theorem mem_tb {w : Cond} (j : Nat) (h : tables_1[j]? = some w) : w ∈ lw_tbl := by
  show w ∈ k2_sels lw_privs ++ tables_1
  exact List.mem_append_right _ (List.mem_of_getElem? h)
theorem mgt {w : Cond} (j : Nat) (h : tables_1[j]? = some w) (hg : goodWord w = true) : w ∈ gw := List.mem_filter.mpr ⟨mem_tb j h, hg⟩
theorem mnt {w : Cond} (j : Nat) (h : tables_1[j]? = some w) (hg : isNest w = true) : w ∈ nw := List.mem_filter.mpr ⟨mem_tb j h, hg⟩
theorem mgc {w : Cond} (h : w ∈ tables_1) (hg : goodWord w = true) : w ∈ gw := List.mem_filter.mpr ⟨(show w ∈ k2_sels lw_privs ++ tables_1 from List.mem_append_right _ h), hg⟩
theorem mnc {w : Cond} (h : w ∈ tables_1) (hg : isNest w = true) : w ∈ nw := List.mem_filter.mpr ⟨(show w ∈ k2_sels lw_privs ++ tables_1 from List.mem_append_right _ h), hg⟩
theorem in_1 {w : Cond} (h : w ∈ tables_1_1) : w ∈ tables_1 := by
  show w ∈ tables_1_1 ++ (tables_1_2 ++ (tables_1_3 ++ (tables_1_4 ++ (tables_1_5))))
  exact List.mem_append_left _ (h)
theorem in_2 {w : Cond} (h : w ∈ tables_1_2) : w ∈ tables_1 := by
  show w ∈ tables_1_1 ++ (tables_1_2 ++ (tables_1_3 ++ (tables_1_4 ++ (tables_1_5))))
  exact List.mem_append_right _ (List.mem_append_left _ (h))
theorem in_3 {w : Cond} (h : w ∈ tables_1_3) : w ∈ tables_1 := by
  show w ∈ tables_1_1 ++ (tables_1_2 ++ (tables_1_3 ++ (tables_1_4 ++ (tables_1_5))))
  exact List.mem_append_right _ (List.mem_append_right _ (List.mem_append_left _ (h)))
theorem in_4 {w : Cond} (h : w ∈ tables_1_4) : w ∈ tables_1 := by
  show w ∈ tables_1_1 ++ (tables_1_2 ++ (tables_1_3 ++ (tables_1_4 ++ (tables_1_5))))
  exact List.mem_append_right _ (List.mem_append_right _ (List.mem_append_right _ (List.mem_append_left _ (h))))
theorem in_5 {w : Cond} (h : w ∈ tables_1_5) : w ∈ tables_1 := by
  show w ∈ tables_1_1 ++ (tables_1_2 ++ (tables_1_3 ++ (tables_1_4 ++ (tables_1_5))))
  exact List.mem_append_right _ (List.mem_append_right _ (List.mem_append_right _ (List.mem_append_right _ (h))))
theorem wq_0 : Cond.selects RX1 yX1_renew yX1_renew ∈ gw := mgw 0 (by decide +kernel) (by decide +kernel)
theorem wq_1 : Cond.selects RX4 yX4_renew yX4_renew ∈ gw := mgw 1 (by decide +kernel) (by decide +kernel)
theorem wq_2 : Cond.selects RX4 yX4_switchOff yX4_switchOff ∈ gw := mgw 2 (by decide +kernel) (by decide +kernel)
theorem wq_3 : Cond.selects RX0 yX0_forget yX0_forget ∈ gw := mgw 3 (by decide +kernel) (by decide +kernel)
theorem wq_4 : Cond.selects RX4 yX4_isOn yX4_isOn ∈ gw := mgw 4 (by decide +kernel) (by decide +kernel)
theorem wq_5 : Cond.selects RX4 yX4_switchOn yX4_switchOn ∈ gw := mgw 5 (by decide +kernel) (by decide +kernel)
theorem wq_6 : Cond.selects RX1 yX1_greatestActive yX1_greatestActive ∈ gw := mgw 6 (by decide +kernel) (by decide +kernel)
theorem wq_7 : Cond.selects RX1 yX1_isActive yX1_isActive ∈ gw := mgw 7 (by decide +kernel) (by decide +kernel)
theorem wq_8 : Cond.selects RX1 yX1_peek yX1_peek ∈ gw := mgw 8 (by decide +kernel) (by decide +kernel)
theorem wq_9 : Cond.selects RX1 yX1_holds yX1_holds ∈ gw := mgw 9 (by decide +kernel) (by decide +kernel)
theorem wq_10 : Cond.selects RX1 yX1_numberOf yX1_numberOf ∈ gw := mgw 10 (by decide +kernel) (by decide +kernel)
theorem wq_11 : Cond.selects RX1 yX1_eraseAllBut yX1_eraseAllBut ∈ gw := mgw 11 (by decide +kernel) (by decide +kernel)
theorem wq_12 : Cond.selects RX1 yX1_isBlank yX1_isBlank ∈ gw := mgw 12 (by decide +kernel) (by decide +kernel)
theorem wq_13 : Cond.selects RX1 yX1_usedEnd yX1_usedEnd ∈ gw := mgw 13 (by decide +kernel) (by decide +kernel)
theorem wq_14 : Cond.selects RX1 yX1_hasSector yX1_hasSector ∈ gw := mgw 14 (by decide +kernel) (by decide +kernel)
theorem wq_15 : Cond.selects RX1 yX1_erase yX1_erase ∈ gw := mgw 15 (by decide +kernel) (by decide +kernel)
theorem wq_16 : Cond.selects RX1 yX1_endures yX1_endures ∈ gw := mgw 16 (by decide +kernel) (by decide +kernel)
theorem wq_17 : Cond.selects RX1 yX1_leastErased yX1_leastErased ∈ gw := mgw 17 (by decide +kernel) (by decide +kernel)
theorem wq_18 : Cond.selects RX1 yX1_erasesOf yX1_erasesOf ∈ gw := mgw 18 (by decide +kernel) (by decide +kernel)
theorem wq_19 : Cond.selects RX1 yX1_makeReady yX1_makeReady ∈ gw := mgw 19 (by decide +kernel) (by decide +kernel)
theorem wq_20 : Cond.selects RX1 yX1_write yX1_write ∈ gw := mgw 20 (by decide +kernel) (by decide +kernel)
theorem wq_21 : Cond.selects RX4 yX4_look yX4_look ∈ gw := mgw 21 (by decide +kernel) (by decide +kernel)
theorem wq_22 : Cond.selects RX3 yX3_scan yX3_scan ∈ gw := mgw 22 (by decide +kernel) (by decide +kernel)
theorem wq_23 : Cond.selects RX1 yX1_copySector yX1_copySector ∈ gw := mgw 23 (by decide +kernel) (by decide +kernel)
theorem wq_24 : Cond.selects RX3 yX3_takeEntry yX3_takeEntry ∈ gw := mgw 24 (by decide +kernel) (by decide +kernel)
theorem wq_25 : Cond.selects RX3 yX3_byteAt yX3_byteAt ∈ gw := mgw 25 (by decide +kernel) (by decide +kernel)
theorem wq_26 : Cond.selects RX3 yX3_firstMark yX3_firstMark ∈ gw := mgw 26 (by decide +kernel) (by decide +kernel)
theorem wq_27 : Cond.selects RX3 yX3_settleParts yX3_settleParts ∈ gw := mgw 27 (by decide +kernel) (by decide +kernel)
theorem wq_28 : Cond.selects RX3 yX3_has yX3_has ∈ gw := mgw 28 (by decide +kernel) (by decide +kernel)
theorem wq_29 : Cond.selects RX3 yX3_markNewest yX3_markNewest ∈ gw := mgw 29 (by decide +kernel) (by decide +kernel)
theorem wq_30 : Cond.selects RX3 yX3_valuedTags yX3_valuedTags ∈ gw := mgw 30 (by decide +kernel) (by decide +kernel)
theorem wq_31 : Cond.selects RX3 yX3_hasValue yX3_hasValue ∈ gw := mgw 31 (by decide +kernel) (by decide +kernel)
theorem wq_32 : Cond.selects RX3 yX3_valuedSize yX3_valuedSize ∈ gw := mgw 32 (by decide +kernel) (by decide +kernel)
theorem wq_33 : Cond.selects RX3 yX3_newestOf yX3_newestOf ∈ gw := mgw 33 (by decide +kernel) (by decide +kernel)
theorem wq_34 : Cond.selects RX4 yX4_outcome yX4_outcome ∈ gw := mgw 34 (by decide +kernel) (by decide +kernel)
theorem wq_35 : Cond.selects RX1 yX1_arm yX1_arm ∈ gw := mgw 35 (by decide +kernel) (by decide +kernel)
theorem wq_36 : Cond.selects RX1 yX1_decay yX1_decay ∈ gw := mgw 36 (by decide +kernel) (by decide +kernel)
theorem wq_37 : Cond.selects RX0 yX0_tell yX0_tell ∈ gw := mgw 37 (by decide +kernel) (by decide +kernel)
theorem wq_38 : Cond.selects RX0 yX0_find yX0_find ∈ gw := mgw 38 (by decide +kernel) (by decide +kernel)
theorem wq_39 : Cond.selects RX4 yX4_keep yX4_keep ∈ gw := mgw 39 (by decide +kernel) (by decide +kernel)
theorem wq_40 : Cond.selects RX4 yX4_makeRoom yX4_makeRoom ∈ gw := mgw 40 (by decide +kernel) (by decide +kernel)
theorem wq_41 : Cond.selects RX3 yX3_freeBytes yX3_freeBytes ∈ gw := mgw 41 (by decide +kernel) (by decide +kernel)
theorem wq_42 : Cond.selects RX3 yX3_freeBehindHandover yX3_freeBehindHandover ∈ gw := mgw 42 (by decide +kernel) (by decide +kernel)
theorem wq_43 : Cond.selects RX3 yX3_valuedBytes yX3_valuedBytes ∈ gw := mgw 43 (by decide +kernel) (by decide +kernel)
theorem wq_44 : Cond.selects RX4 yX4_handOver yX4_handOver ∈ gw := mgw 44 (by decide +kernel) (by decide +kernel)
theorem wq_45 : Cond.selects RX3 yX3_valueOf yX3_valueOf ∈ gw := mgw 45 (by decide +kernel) (by decide +kernel)
theorem wq_46 : Cond.selects RX3 yX3_numberAt yX3_numberAt ∈ gw := mgw 46 (by decide +kernel) (by decide +kernel)
theorem wq_47 : Cond.selects RX3 yX3_clearedBits yX3_clearedBits ∈ gw := mgw 47 (by decide +kernel) (by decide +kernel)
theorem wq_48 : Cond.selects RX3 yX3_newestLength yX3_newestLength ∈ gw := mgw 48 (by decide +kernel) (by decide +kernel)
theorem wq_49 : Cond.selects RX2 yX2_fillSetting yX2_fillSetting ∈ gw := mgw 49 (by decide +kernel) (by decide +kernel)
theorem wq_50 : Cond.selects RX2 yX2_start yX2_start ∈ gw := mgw 50 (by decide +kernel) (by decide +kernel)
theorem wq_51 : Cond.selects RX2 yX2_put yX2_put ∈ gw := mgw 51 (by decide +kernel) (by decide +kernel)
theorem wq_52 : Cond.selects RX2 yX2_putBytes yX2_putBytes ∈ gw := mgw 52 (by decide +kernel) (by decide +kernel)
theorem wq_53 : Cond.selects RX2 yX2_fillCounter yX2_fillCounter ∈ gw := mgw 53 (by decide +kernel) (by decide +kernel)
theorem wq_54 : Cond.selects RX1 yX1_writeDraft yX1_writeDraft ∈ gw := mgw 54 (by decide +kernel) (by decide +kernel)
theorem wq_55 : Cond.selects RX4 yX4_wouldHave yX4_wouldHave ∈ gw := mgw 55 (by decide +kernel) (by decide +kernel)
theorem wq_56 : Cond.selects RX4 yX4_countUp yX4_countUp ∈ gw := mgw 56 (by decide +kernel) (by decide +kernel)
theorem wq_57 : Cond.selects RX3 yX3_newestValue yX3_newestValue ∈ gw := mgw 57 (by decide +kernel) (by decide +kernel)
theorem wq_58 : Cond.selects RX3 yX3_unspentPlace yX3_unspentPlace ∈ gw := mgw 58 (by decide +kernel) (by decide +kernel)
theorem wq_59 : Cond.selects RX0 yX0_start yX0_start ∈ gw := mgw 59 (by decide +kernel) (by decide +kernel)
theorem wq_60 : Cond.selects RX4 yX4_writeChange yX4_writeChange ∈ gw := mgw 60 (by decide +kernel) (by decide +kernel)
theorem wq_61 : Cond.selects RX0 yX0_bytesToWrite yX0_bytesToWrite ∈ gw := mgw 61 (by decide +kernel) (by decide +kernel)
theorem wq_62 : Cond.selects RX2 yX2_fillCommit yX2_fillCommit ∈ gw := mgw 62 (by decide +kernel) (by decide +kernel)
theorem wq_63 : Cond.selects RX4 yX4_handOverByHand yX4_handOverByHand ∈ gw := mgw 63 (by decide +kernel) (by decide +kernel)
theorem wq_64 : Cond.selects RX3 yX3_tell yX3_tell ∈ gw := mgw 64 (by decide +kernel) (by decide +kernel)
theorem wq_65 : Cond.selects RX3 yX3_allBytes yX3_allBytes ∈ gw := mgw 65 (by decide +kernel) (by decide +kernel)
theorem wq_66 : Cond.selects RX4 yX4_costOf yX4_costOf ∈ gw := mgw 66 (by decide +kernel) (by decide +kernel)
theorem wq_67 : Cond.selects RX4 yX4_handoverDoings yX4_handoverDoings ∈ gw := mgw 67 (by decide +kernel) (by decide +kernel)
theorem wq_68 : Cond.selects RX3 yX3_copyWrites yX3_copyWrites ∈ gw := mgw 68 (by decide +kernel) (by decide +kernel)
theorem wq_69 : Cond.selects RX4 yX4_copyFrom yX4_copyFrom ∈ gw := mgw 69 (by decide +kernel) (by decide +kernel)
theorem wq_70 : Cond.selects RX1 yX1_copyFrom yX1_copyFrom ∈ gw := mgw 70 (by decide +kernel) (by decide +kernel)
theorem wq_71 : Cond.selects RX3 yX3_tellingOf yX3_tellingOf ∈ gw := mgw 71 (by decide +kernel) (by decide +kernel)
theorem wq_72 : Cond.selects RX3 yX3_tells yX3_tells ∈ gw := mgw 72 (by decide +kernel) (by decide +kernel)
theorem wq_73 : Cond.selects RX3 yX3_earlierValue yX3_earlierValue ∈ gw := mgw 73 (by decide +kernel) (by decide +kernel)
theorem wq_74 : Cond.selects RX4 yX4_wearOut yX4_wearOut ∈ gw := mgw 74 (by decide +kernel) (by decide +kernel)
theorem wq_75 : Cond.selects RX1 yX1_mostErases yX1_mostErases ∈ gw := mgw 75 (by decide +kernel) (by decide +kernel)
theorem wq_76 : Cond.selects RX1 yX1_fewestErases yX1_fewestErases ∈ gw := mgw 76 (by decide +kernel) (by decide +kernel)
theorem wq_77 : Cond.selects RX1 yX1_allErases yX1_allErases ∈ gw := mgw 77 (by decide +kernel) (by decide +kernel)
theorem wq_78 : Cond.selects "java/lang/Throwable" ⟨"java/lang/Throwable", "fillInStackTrace", "(I)Ljava/lang/Throwable;"⟩ ⟨"java/lang/Throwable", "fillInStackTrace", "(I)Ljava/lang/Throwable;"⟩ ∈ gw := mgw 78 (by decide +kernel) (by decide +kernel)
theorem wq_79 : Cond.selects RX6 yX6_makes yX6_makes ∈ gw := mgw 79 (by decide +kernel) (by decide +kernel)
theorem wq_80 : Cond.selects RX6 yX6_isOn yX6_isOn ∈ gw := mgw 80 (by decide +kernel) (by decide +kernel)
theorem wq_81 : Cond.selects RX6 yX6_begins yX6_begins ∈ gw := mgw 81 (by decide +kernel) (by decide +kernel)
theorem wq_82 : Cond.selects RX6 yX6_switchesOn yX6_switchesOn ∈ gw := mgw 82 (by decide +kernel) (by decide +kernel)
theorem wq_83 : Cond.selects RX6 yX6_found yX6_found ∈ gw := mgw 83 (by decide +kernel) (by decide +kernel)
theorem wq_84 : Cond.selects RX6 yX6_byteAt yX6_byteAt ∈ gw := mgw 84 (by decide +kernel) (by decide +kernel)
theorem wq_85 : Cond.selects RX6 yX6_numberOf yX6_numberOf ∈ gw := mgw 85 (by decide +kernel) (by decide +kernel)
theorem wq_86 : Cond.selects RX6 yX6_erasesOthers yX6_erasesOthers ∈ gw := mgw 86 (by decide +kernel) (by decide +kernel)
theorem wq_87 : Cond.selects RX6 yX6_isBlank yX6_isBlank ∈ gw := mgw 87 (by decide +kernel) (by decide +kernel)
theorem wq_88 : Cond.selects RX6 yX6_erases yX6_erases ∈ gw := mgw 88 (by decide +kernel) (by decide +kernel)
theorem wq_89 : Cond.selects RX6 yX6_goes yX6_goes ∈ gw := mgw 89 (by decide +kernel) (by decide +kernel)
theorem wq_90 : Cond.selects RX6 yX6_leastErased yX6_leastErased ∈ gw := mgw 90 (by decide +kernel) (by decide +kernel)
theorem wq_91 : Cond.selects RX6 yX6_makesReady yX6_makesReady ∈ gw := mgw 91 (by decide +kernel) (by decide +kernel)
theorem wq_92 : Cond.selects RX6 yX6_writes yX6_writes ∈ gw := mgw 92 (by decide +kernel) (by decide +kernel)
theorem wq_93 : Cond.selects RX6 yX6_reads yX6_reads ∈ gw := mgw 93 (by decide +kernel) (by decide +kernel)
theorem wq_94 : Cond.selects RX6 yX6_sortAt yX6_sortAt ∈ gw := mgw 94 (by decide +kernel) (by decide +kernel)
theorem wq_95 : Cond.selects RX6 yX6_sizeBy yX6_sizeBy ∈ gw := mgw 95 (by decide +kernel) (by decide +kernel)
theorem wq_96 : Cond.selects RX6 yX6_checked yX6_checked ∈ gw := mgw 96 (by decide +kernel) (by decide +kernel)
theorem wq_97 : Cond.selects RX6 yX6_sumOf yX6_sumOf ∈ gw := mgw 97 (by decide +kernel) (by decide +kernel)
theorem wq_98 : Cond.selects RX6 yX6_commits yX6_commits ∈ gw := mgw 98 (by decide +kernel) (by decide +kernel)
theorem wq_99 : Cond.selects RX6 yX6_valued yX6_valued ∈ gw := mgw 99 (by decide +kernel) (by decide +kernel)
theorem wq_100 : Cond.selects RX6 yX6_hasValue yX6_hasValue ∈ gw := mgw 100 (by decide +kernel) (by decide +kernel)
theorem wq_101 : Cond.selects RX6 yX6_lengthOf yX6_lengthOf ∈ gw := mgw 101 (by decide +kernel) (by decide +kernel)
theorem wq_102 : Cond.selects RX6 yX6_isSector yX6_isSector ∈ gw := mgw 102 (by decide +kernel) (by decide +kernel)
theorem wq_103 : Cond.selects RX6 yX6_isSetting yX6_isSetting ∈ gw := mgw 103 (by decide +kernel) (by decide +kernel)
theorem wq_104 : Cond.selects RX6 yX6_sets yX6_sets ∈ gw := mgw 104 (by decide +kernel) (by decide +kernel)
theorem wq_105 : Cond.selects RX6 yX6_tells yX6_tells ∈ gw := mgw 105 (by decide +kernel) (by decide +kernel)
theorem wq_106 : Cond.selects RX6 yX6_inChange yX6_inChange ∈ gw := mgw 106 (by decide +kernel) (by decide +kernel)
theorem wq_107 : Cond.selects RX6 yX6_makesRoom yX6_makesRoom ∈ gw := mgw 107 (by decide +kernel) (by decide +kernel)
theorem wq_108 : Cond.selects RX6 yX6_freeNow yX6_freeNow ∈ gw := mgw 108 (by decide +kernel) (by decide +kernel)
theorem wq_109 : Cond.selects RX6 yX6_freeThen yX6_freeThen ∈ gw := mgw 109 (by decide +kernel) (by decide +kernel)
theorem wq_110 : Cond.selects RX6 yX6_sizeNext yX6_sizeNext ∈ gw := mgw 110 (by decide +kernel) (by decide +kernel)
theorem wq_111 : Cond.selects RX6 yX6_handsOver yX6_handsOver ∈ gw := mgw 111 (by decide +kernel) (by decide +kernel)
theorem wq_112 : Cond.selects RX6 yX6_valueOf yX6_valueOf ∈ gw := mgw 112 (by decide +kernel) (by decide +kernel)
theorem wq_113 : Cond.selects RX6 yX6_number yX6_number ∈ gw := mgw 113 (by decide +kernel) (by decide +kernel)
theorem wq_114 : Cond.selects RX6 yX6_zeros yX6_zeros ∈ gw := mgw 114 (by decide +kernel) (by decide +kernel)
theorem wq_115 : Cond.selects RX6 yX6_laysCounter yX6_laysCounter ∈ gw := mgw 115 (by decide +kernel) (by decide +kernel)
theorem wq_116 : Cond.selects RX6 yX6_lays yX6_lays ∈ gw := mgw 116 (by decide +kernel) (by decide +kernel)
theorem wq_117 : Cond.selects RX6 yX6_laysCheck yX6_laysCheck ∈ gw := mgw 117 (by decide +kernel) (by decide +kernel)
theorem wq_118 : Cond.selects RX6 yX6_laysSetting yX6_laysSetting ∈ gw := mgw 118 (by decide +kernel) (by decide +kernel)
theorem wq_119 : Cond.selects RX6 yX6_told yX6_told ∈ gw := mgw 119 (by decide +kernel) (by decide +kernel)
theorem wq_120 : Cond.selects RX6 yX6_goesUp yX6_goesUp ∈ gw := mgw 120 (by decide +kernel) (by decide +kernel)
theorem wq_121 : Cond.selects RX6 yX6_isTag yX6_isTag ∈ gw := mgw 121 (by decide +kernel) (by decide +kernel)
theorem wq_122 : Cond.selects RX6 yX6_valueNow yX6_valueNow ∈ gw := mgw 122 (by decide +kernel) (by decide +kernel)
theorem wq_123 : Cond.selects RX6 yX6_wouldCost yX6_wouldCost ∈ gw := mgw 123 (by decide +kernel) (by decide +kernel)
theorem wq_124 : Cond.selects RX6 yX6_putsAside yX6_putsAside ∈ gw := mgw 124 (by decide +kernel) (by decide +kernel)
theorem wq_125 : Cond.selects RX6 yX6_putsBack yX6_putsBack ∈ gw := mgw 125 (by decide +kernel) (by decide +kernel)
theorem wq_126 : Cond.selects RX6 yX6_isOf yX6_isOf ∈ gw := mgw 126 (by decide +kernel) (by decide +kernel)
theorem wq_127 : Cond.selects RX6 yX6_extreme yX6_extreme ∈ gw := mgw 127 (by decide +kernel) (by decide +kernel)
theorem wq_128 : Cond.selects RX6 yX6_erasesOfAll yX6_erasesOfAll ∈ gw := mgw 128 (by decide +kernel) (by decide +kernel)
theorem wq_129 : Cond.initialized RL ∈ gw := mgc (in_1 (List.mem_of_getElem? (i := 0) rfl)) rfl
theorem wq_130 : Cond.initialized RX5 ∈ gw := mgc (in_1 (List.mem_of_getElem? (i := 1) rfl)) rfl
theorem wq_131 : Cond.initialized RX4 ∈ gw := mgc (in_1 (List.mem_of_getElem? (i := 2) rfl)) rfl
theorem wq_132 : Cond.initialized RX1 ∈ gw := mgc (in_1 (List.mem_of_getElem? (i := 3) rfl)) rfl
theorem wq_133 : Cond.initialized RX3 ∈ gw := mgc (in_1 (List.mem_of_getElem? (i := 4) rfl)) rfl
theorem wq_134 : Cond.initialized RX0 ∈ gw := mgc (in_1 (List.mem_of_getElem? (i := 5) rfl)) rfl
theorem wq_135 : Cond.initialized RX2 ∈ gw := mgc (in_1 (List.mem_of_getElem? (i := 6) rfl)) rfl
theorem wq_136 : Cond.initialized RJ7 ∈ gw := mgc (in_1 (List.mem_of_getElem? (i := 7) rfl)) rfl
theorem wq_137 : Cond.initialized RX6 ∈ gw := mgc (in_1 (List.mem_of_getElem? (i := 8) rfl)) rfl
theorem wq_138 : Cond.initialized RJxd2413 ∈ gw := mgc (in_1 (List.mem_of_getElem? (i := 9) rfl)) rfl
theorem wq_139 : Cond.initialized RJ13 ∈ gw := mgc (in_1 (List.mem_of_getElem? (i := 10) rfl)) rfl
theorem wq_140 : Cond.initialized RJ6 ∈ gw := mgc (in_1 (List.mem_of_getElem? (i := 11) rfl)) rfl
theorem wq_141 : Cond.initialized "java/lang/Throwable" ∈ gw := mgc (in_1 (List.mem_of_getElem? (i := 12) rfl)) rfl
theorem wq_142 : Cond.initialized "java/lang/Exception" ∈ gw := mgc (in_1 (List.mem_of_getElem? (i := 13) rfl)) rfl
theorem wq_143 : Cond.initialized "java/lang/RuntimeException" ∈ gw := mgc (in_1 (List.mem_of_getElem? (i := 14) rfl)) rfl
theorem wq_144 : Cond.initialized "java/util/NoSuchElementException" ∈ gw := mgc (in_1 (List.mem_of_getElem? (i := 15) rfl)) rfl
theorem wq_145 : Cond.initialized RJ10 ∈ gw := mgc (in_1 (List.mem_of_getElem? (i := 16) rfl)) rfl
theorem wq_146 : Cond.initialized RJ9 ∈ gw := mgc (in_1 (List.mem_of_getElem? (i := 17) rfl)) rfl
theorem wq_147 : Cond.initialized RJxf58ca ∈ gw := mgc (in_1 (List.mem_of_getElem? (i := 18) rfl)) rfl
theorem wq_148 : Cond.classLink RL 8 RX5 ∈ gw := mgc (in_1 (List.mem_of_getElem? (i := 19) rfl)) rfl
theorem wq_149 : Cond.instantiable RX5 2 ∈ gw := mgc (in_1 (List.mem_of_getElem? (i := 20) rfl)) rfl
theorem wq_150 : Cond.methodLink RL 15 yX5_init ∈ gw := mgc (in_1 (List.mem_of_getElem? (i := 21) rfl)) rfl
theorem wq_151 : Cond.instanceMethod yX5_init ∈ gw := mgc (in_1 (List.mem_of_getElem? (i := 22) rfl)) rfl
theorem wq_152 : Cond.code yX5_init cX5_init 1 (none : Option FieldType) ∈ gw := mgc (in_1 (List.mem_of_getElem? (i := 23) rfl)) rfl
theorem wq_153 : Cond.methodLink RX5 3 objectInit ∈ gw := mgc (in_1 (List.mem_of_getElem? (i := 24) rfl)) rfl
theorem wq_154 : Cond.instanceMethod objectInit ∈ gw := mgc (in_1 (List.mem_of_getElem? (i := 25) rfl)) rfl
theorem wq_155 : Cond.code objectInit object_method_1_code 1 (none : Option FieldType) ∈ gw := mgc (in_1 (List.mem_of_getElem? (i := 26) rfl)) rfl
theorem wq_156 : Cond.classLink RX5 9 RX4 ∈ gw := mgc (in_1 (List.mem_of_getElem? (i := 27) rfl)) rfl
theorem wq_157 : Cond.instantiable RX4 7 ∈ gw := mgc (in_1 (List.mem_of_getElem? (i := 28) rfl)) rfl
theorem wn_158 : Cond.methodLinkNest RX5 11 yX4_init RX5 ∈ nw := mnc (in_1 (List.mem_of_getElem? (i := 29) rfl)) rfl
theorem wq_159 : Cond.instanceMethod yX4_init ∈ gw := mgc (in_1 (List.mem_of_getElem? (i := 30) rfl)) rfl
theorem wq_160 : Cond.code yX4_init cX4_init 1 (none : Option FieldType) ∈ gw := mgc (in_1 (List.mem_of_getElem? (i := 31) rfl)) rfl
theorem wq_161 : Cond.methodLink RX4 3 objectInit ∈ gw := mgc (in_1 (List.mem_of_getElem? (i := 32) rfl)) rfl
theorem wq_162 : Cond.classLink RX4 9 RX1 ∈ gw := mgc (in_1 (List.mem_of_getElem? (i := 33) rfl)) rfl
theorem wq_163 : Cond.instantiable RX1 10 ∈ gw := mgc (in_1 (List.mem_of_getElem? (i := 34) rfl)) rfl
theorem wn_164 : Cond.methodLinkNest RX4 11 yX1_init RX5 ∈ nw := mnc (in_1 (List.mem_of_getElem? (i := 35) rfl)) rfl
theorem wq_165 : Cond.instanceMethod yX1_init ∈ gw := mgc (in_1 (List.mem_of_getElem? (i := 36) rfl)) rfl
theorem wq_166 : Cond.code yX1_init cX1_init 1 (none : Option FieldType) ∈ gw := mgc (in_1 (List.mem_of_getElem? (i := 37) rfl)) rfl
theorem wq_167 : Cond.methodLink RX1 3 objectInit ∈ gw := mgc (in_1 (List.mem_of_getElem? (i := 38) rfl)) rfl
theorem wq_168 : Cond.fieldLink RX1 9 "SettingStore$Chip" "cells" "[I" ∈ gw := mgc (in_1 (List.mem_of_getElem? (i := 39) rfl)) rfl
theorem wq_169 : Cond.fieldLink RX1 15 "SettingStore$Chip" "erases" "[I" ∈ gw := mgc (in_1 (List.mem_of_getElem? (i := 40) rfl)) rfl
theorem wn_170 : Cond.fieldLinkNest RX4 211 "SettingStore$Chip" "erases" "[I" "SettingStore" ∈ nw := mnc (in_1 (List.mem_of_getElem? (i := 41) rfl)) rfl
theorem wq_171 : Cond.fieldLink RX1 18 "SettingStore$Chip" "sectors" "I" ∈ gw := mgc (in_1 (List.mem_of_getElem? (i := 42) rfl)) rfl
theorem wn_172 : Cond.fieldLinkNest RX5 214 "SettingStore$Chip" "sectors" "I" "SettingStore" ∈ nw := mnc (in_1 (List.mem_of_getElem? (i := 43) rfl)) rfl
theorem wn_173 : Cond.fieldLinkNest RX3 33 "SettingStore$Chip" "size" "I" "SettingStore" ∈ nw := mnc (in_1 (List.mem_of_getElem? (i := 44) rfl)) rfl
theorem wq_174 : Cond.fieldLink RX1 22 "SettingStore$Chip" "size" "I" ∈ gw := mgc (in_1 (List.mem_of_getElem? (i := 45) rfl)) rfl
theorem wn_175 : Cond.fieldLinkNest RX5 217 "SettingStore$Chip" "size" "I" "SettingStore" ∈ nw := mnc (in_1 (List.mem_of_getElem? (i := 46) rfl)) rfl
theorem wq_176 : Cond.fieldLink RX1 31 "SettingStore$Chip" "writes" "I" ∈ gw := mgc (in_1 (List.mem_of_getElem? (i := 47) rfl)) rfl
theorem wn_177 : Cond.fieldLinkNest RX5 203 "SettingStore$Chip" "writes" "I" "SettingStore" ∈ nw := mnc (in_1 (List.mem_of_getElem? (i := 48) rfl)) rfl
theorem wq_178 : Cond.fieldLink RX1 34 "SettingStore$Chip" "doings" "I" ∈ gw := mgc (in_1 (List.mem_of_getElem? (i := 49) rfl)) rfl
theorem wn_179 : Cond.fieldLinkNest RX4 64 "SettingStore$Chip" "doings" "I" "SettingStore" ∈ nw := mnc (in_1 (List.mem_of_getElem? (i := 50) rfl)) rfl
theorem wn_180 : Cond.fieldLinkNest RX5 180 "SettingStore$Chip" "doings" "I" "SettingStore" ∈ nw := mnc (in_1 (List.mem_of_getElem? (i := 51) rfl)) rfl
theorem wq_181 : Cond.fieldLink RX1 37 "SettingStore$Chip" "powered" "Z" ∈ gw := mgc (in_1 (List.mem_of_getElem? (i := 52) rfl)) rfl
theorem wn_182 : Cond.fieldLinkNest RX4 60 "SettingStore$Chip" "powered" "Z" "SettingStore" ∈ nw := mnc (in_1 (List.mem_of_getElem? (i := 53) rfl)) rfl
theorem wq_183 : Cond.fieldLink RX1 41 "SettingStore$Chip" "powerIn" "I" ∈ gw := mgc (in_1 (List.mem_of_getElem? (i := 54) rfl)) rfl
theorem wn_184 : Cond.fieldLinkNest RX5 220 "SettingStore$Chip" "powerIn" "I" "SettingStore" ∈ nw := mnc (in_1 (List.mem_of_getElem? (i := 55) rfl)) rfl
theorem wq_185 : Cond.fieldLink RX1 44 "SettingStore$Chip" "mask" "I" ∈ gw := mgc (in_1 (List.mem_of_getElem? (i := 56) rfl)) rfl
theorem wq_186 : Cond.fieldLink RX1 47 "SettingStore$Chip" "outages" "I" ∈ gw := mgc (in_1 (List.mem_of_getElem? (i := 57) rfl)) rfl
theorem wn_187 : Cond.fieldLinkNest RX5 223 "SettingStore$Chip" "outages" "I" "SettingStore" ∈ nw := mnc (in_1 (List.mem_of_getElem? (i := 58) rfl)) rfl
theorem wq_188 : Cond.laysFinal RX1 "SettingStore$Chip" "cells" "[I" ∈ gw := mgc (in_1 (List.mem_of_getElem? (i := 59) rfl)) rfl
theorem wq_190 : Cond.laysFinal RX1 "SettingStore$Chip" "erases" "[I" ∈ gw := mgc (in_1 (List.mem_of_getElem? (i := 61) rfl)) rfl
theorem wq_192 : Cond.lays RX1 "SettingStore$Chip" "sectors" "I" ∈ gw := mgc (in_1 (List.mem_of_getElem? (i := 63) rfl)) rfl
theorem wq_194 : Cond.lays RX1 "SettingStore$Chip" "size" "I" ∈ gw := mgc (in_1 (List.mem_of_getElem? (i := 65) rfl)) rfl
theorem wq_196 : Cond.lays RX1 "SettingStore$Chip" "writes" "I" ∈ gw := mgc (in_1 (List.mem_of_getElem? (i := 67) rfl)) rfl
theorem wq_198 : Cond.lays RX1 "SettingStore$Chip" "doings" "I" ∈ gw := mgc (in_1 (List.mem_of_getElem? (i := 69) rfl)) rfl
theorem wq_200 : Cond.lays RX1 "SettingStore$Chip" "powered" "Z" ∈ gw := mgc (in_1 (List.mem_of_getElem? (i := 71) rfl)) rfl
theorem wq_202 : Cond.lays RX1 "SettingStore$Chip" "powerIn" "I" ∈ gw := mgc (in_1 (List.mem_of_getElem? (i := 73) rfl)) rfl
theorem wq_204 : Cond.lays RX1 "SettingStore$Chip" "mask" "I" ∈ gw := mgc (in_1 (List.mem_of_getElem? (i := 75) rfl)) rfl
theorem wq_206 : Cond.lays RX1 "SettingStore$Chip" "outages" "I" ∈ gw := mgc (in_1 (List.mem_of_getElem? (i := 77) rfl)) rfl
theorem wq_209 : Cond.arrayClass Jvm.ClassFile.FieldType.int ∈ gw := mgc (in_1 (List.mem_of_getElem? (i := 80) rfl)) rfl
theorem wq_210 : Cond.classLink RX4 18 RX3 ∈ gw := mgc (in_1 (List.mem_of_getElem? (i := 81) rfl)) rfl
theorem wq_211 : Cond.instantiable RX3 11 ∈ gw := mgc (in_1 (List.mem_of_getElem? (i := 82) rfl)) rfl
theorem wn_212 : Cond.methodLinkNest RX4 20 yX3_init RX5 ∈ nw := mnc (in_1 (List.mem_of_getElem? (i := 83) rfl)) rfl
theorem wq_213 : Cond.instanceMethod yX3_init ∈ gw := mgc (in_1 (List.mem_of_getElem? (i := 84) rfl)) rfl
theorem wq_214 : Cond.code yX3_init cX3_init 1 (none : Option FieldType) ∈ gw := mgc (in_1 (List.mem_of_getElem? (i := 85) rfl)) rfl
theorem wq_215 : Cond.methodLink RX3 3 objectInit ∈ gw := mgc (in_1 (List.mem_of_getElem? (i := 86) rfl)) rfl
theorem wq_216 : Cond.fieldLink RX3 9 "SettingStore$Reading" "row" "[I" ∈ gw := mgc (in_1 (List.mem_of_getElem? (i := 87) rfl)) rfl
theorem wq_217 : Cond.fieldLink RX3 15 "SettingStore$Reading" "places" "[I" ∈ gw := mgc (in_1 (List.mem_of_getElem? (i := 88) rfl)) rfl
theorem wq_218 : Cond.fieldLink RX3 18 "SettingStore$Reading" "kinds" "[I" ∈ gw := mgc (in_1 (List.mem_of_getElem? (i := 89) rfl)) rfl
theorem wq_219 : Cond.fieldLink RX3 21 "SettingStore$Reading" "labels" "[I" ∈ gw := mgc (in_1 (List.mem_of_getElem? (i := 90) rfl)) rfl
theorem wq_220 : Cond.fieldLink RX3 24 "SettingStore$Reading" "sizes" "[I" ∈ gw := mgc (in_1 (List.mem_of_getElem? (i := 91) rfl)) rfl
theorem wq_221 : Cond.fieldLink RX3 27 "SettingStore$Reading" "marks" "[I" ∈ gw := mgc (in_1 (List.mem_of_getElem? (i := 92) rfl)) rfl
theorem wq_222 : Cond.fieldLink RX3 30 "SettingStore$Reading" "newest" "[I" ∈ gw := mgc (in_1 (List.mem_of_getElem? (i := 93) rfl)) rfl
theorem wq_223 : Cond.fieldLink RX3 39 "SettingStore$Reading" "size" "I" ∈ gw := mgc (in_1 (List.mem_of_getElem? (i := 94) rfl)) rfl
theorem wq_224 : Cond.fieldLink RX3 44 "SettingStore$Reading" "entries" "I" ∈ gw := mgc (in_1 (List.mem_of_getElem? (i := 95) rfl)) rfl
theorem wn_225 : Cond.fieldLinkNest RX5 150 "SettingStore$Reading" "entries" "I" "SettingStore" ∈ nw := mnc (in_1 (List.mem_of_getElem? (i := 96) rfl)) rfl
theorem wq_226 : Cond.fieldLink RX3 57 "SettingStore$Reading" "free" "I" ∈ gw := mgc (in_1 (List.mem_of_getElem? (i := 97) rfl)) rfl
theorem wn_227 : Cond.fieldLinkNest RX4 180 "SettingStore$Reading" "free" "I" "SettingStore" ∈ nw := mnc (in_1 (List.mem_of_getElem? (i := 98) rfl)) rfl
theorem wn_228 : Cond.fieldLinkNest RX5 155 "SettingStore$Reading" "free" "I" "SettingStore" ∈ nw := mnc (in_1 (List.mem_of_getElem? (i := 99) rfl)) rfl
theorem wq_229 : Cond.fieldLink RX3 47 "SettingStore$Reading" "lost" "I" ∈ gw := mgc (in_1 (List.mem_of_getElem? (i := 100) rfl)) rfl
theorem wn_230 : Cond.fieldLinkNest RX5 158 "SettingStore$Reading" "lost" "I" "SettingStore" ∈ nw := mnc (in_1 (List.mem_of_getElem? (i := 101) rfl)) rfl
theorem wq_231 : Cond.laysFinal RX3 "SettingStore$Reading" "row" "[I" ∈ gw := mgc (in_1 (List.mem_of_getElem? (i := 102) rfl)) rfl
theorem wq_233 : Cond.laysFinal RX3 "SettingStore$Reading" "places" "[I" ∈ gw := mgc (in_1 (List.mem_of_getElem? (i := 104) rfl)) rfl
theorem wq_235 : Cond.laysFinal RX3 "SettingStore$Reading" "kinds" "[I" ∈ gw := mgc (in_1 (List.mem_of_getElem? (i := 106) rfl)) rfl
theorem wq_237 : Cond.laysFinal RX3 "SettingStore$Reading" "labels" "[I" ∈ gw := mgc (in_1 (List.mem_of_getElem? (i := 108) rfl)) rfl
theorem wq_239 : Cond.laysFinal RX3 "SettingStore$Reading" "sizes" "[I" ∈ gw := mgc (in_1 (List.mem_of_getElem? (i := 110) rfl)) rfl
theorem wq_241 : Cond.laysFinal RX3 "SettingStore$Reading" "marks" "[I" ∈ gw := mgc (in_1 (List.mem_of_getElem? (i := 112) rfl)) rfl
theorem wq_243 : Cond.laysFinal RX3 "SettingStore$Reading" "newest" "[I" ∈ gw := mgc (in_1 (List.mem_of_getElem? (i := 114) rfl)) rfl
theorem wq_245 : Cond.lays RX3 "SettingStore$Reading" "size" "I" ∈ gw := mgc (in_1 (List.mem_of_getElem? (i := 116) rfl)) rfl
theorem wq_247 : Cond.lays RX3 "SettingStore$Reading" "entries" "I" ∈ gw := mgc (in_1 (List.mem_of_getElem? (i := 118) rfl)) rfl
theorem wq_249 : Cond.lays RX3 "SettingStore$Reading" "free" "I" ∈ gw := mgc (in_1 (List.mem_of_getElem? (i := 120) rfl)) rfl
theorem wq_251 : Cond.lays RX3 "SettingStore$Reading" "lost" "I" ∈ gw := mgc (in_1 (List.mem_of_getElem? (i := 122) rfl)) rfl
theorem wq_254 : Cond.classLink RX4 25 RX0 ∈ gw := mgc (in_1 (List.mem_of_getElem? (i := 125) rfl)) rfl
theorem wq_255 : Cond.instantiable RX0 5 ∈ gw := mgc (in_1 (List.mem_of_getElem? (i := 126) rfl)) rfl
theorem wn_256 : Cond.methodLinkNest RX4 27 yX0_init RX5 ∈ nw := mnc (in_1 (List.mem_of_getElem? (i := 127) rfl)) rfl
theorem wq_257 : Cond.instanceMethod yX0_init ∈ gw := mgc (in_1 (List.mem_of_getElem? (i := 128) rfl)) rfl
theorem wq_258 : Cond.code yX0_init cX0_init 1 (none : Option FieldType) ∈ gw := mgc (in_1 (List.mem_of_getElem? (i := 129) rfl)) rfl
theorem wq_259 : Cond.methodLink RX0 3 objectInit ∈ gw := mgc (in_1 (List.mem_of_getElem? (i := 130) rfl)) rfl
theorem wq_260 : Cond.fieldLink RX0 9 "SettingStore$Change" "labels" "[I" ∈ gw := mgc (in_1 (List.mem_of_getElem? (i := 131) rfl)) rfl
theorem wn_261 : Cond.fieldLinkNest RX4 159 "SettingStore$Change" "labels" "[I" "SettingStore" ∈ nw := mnc (in_1 (List.mem_of_getElem? (i := 132) rfl)) rfl
theorem wq_262 : Cond.fieldLink RX0 15 "SettingStore$Change" "values" "[I" ∈ gw := mgc (in_1 (List.mem_of_getElem? (i := 133) rfl)) rfl
theorem wn_263 : Cond.fieldLinkNest RX4 162 "SettingStore$Change" "values" "[I" "SettingStore" ∈ nw := mnc (in_1 (List.mem_of_getElem? (i := 134) rfl)) rfl
theorem wq_264 : Cond.fieldLink RX0 18 "SettingStore$Change" "lengths" "[I" ∈ gw := mgc (in_1 (List.mem_of_getElem? (i := 135) rfl)) rfl
theorem wn_265 : Cond.fieldLinkNest RX4 113 "SettingStore$Change" "lengths" "[I" "SettingStore" ∈ nw := mnc (in_1 (List.mem_of_getElem? (i := 136) rfl)) rfl
theorem wq_266 : Cond.fieldLink RX0 21 "SettingStore$Change" "begun" "Z" ∈ gw := mgc (in_1 (List.mem_of_getElem? (i := 137) rfl)) rfl
theorem wn_267 : Cond.fieldLinkNest RX5 62 "SettingStore$Change" "begun" "Z" "SettingStore" ∈ nw := mnc (in_1 (List.mem_of_getElem? (i := 138) rfl)) rfl
theorem wn_268 : Cond.fieldLinkNest RX4 107 "SettingStore$Change" "begun" "Z" "SettingStore" ∈ nw := mnc (in_1 (List.mem_of_getElem? (i := 139) rfl)) rfl
theorem wq_269 : Cond.fieldLink RX0 25 "SettingStore$Change" "told" "I" ∈ gw := mgc (in_1 (List.mem_of_getElem? (i := 140) rfl)) rfl
theorem wn_270 : Cond.fieldLinkNest RX5 85 "SettingStore$Change" "told" "I" "SettingStore" ∈ nw := mnc (in_1 (List.mem_of_getElem? (i := 141) rfl)) rfl
theorem wn_271 : Cond.fieldLinkNest RX4 156 "SettingStore$Change" "told" "I" "SettingStore" ∈ nw := mnc (in_1 (List.mem_of_getElem? (i := 142) rfl)) rfl
theorem wq_272 : Cond.laysFinal RX0 "SettingStore$Change" "labels" "[I" ∈ gw := mgc (in_1 (List.mem_of_getElem? (i := 143) rfl)) rfl
theorem wq_274 : Cond.laysFinal RX0 "SettingStore$Change" "values" "[I" ∈ gw := mgc (in_1 (List.mem_of_getElem? (i := 145) rfl)) rfl
theorem wq_276 : Cond.laysFinal RX0 "SettingStore$Change" "lengths" "[I" ∈ gw := mgc (in_1 (List.mem_of_getElem? (i := 147) rfl)) rfl
theorem wq_278 : Cond.lays RX0 "SettingStore$Change" "begun" "Z" ∈ gw := mgc (in_1 (List.mem_of_getElem? (i := 149) rfl)) rfl
theorem wq_280 : Cond.lays RX0 "SettingStore$Change" "told" "I" ∈ gw := mgc (in_1 (List.mem_of_getElem? (i := 151) rfl)) rfl
theorem wq_283 : Cond.classLink RX4 32 RX2 ∈ gw := mgc (in_1 (List.mem_of_getElem? (i := 154) rfl)) rfl
theorem wq_284 : Cond.instantiable RX2 3 ∈ gw := mgc (in_1 (List.mem_of_getElem? (i := 155) rfl)) rfl
theorem wn_285 : Cond.methodLinkNest RX4 34 yX2_init RX5 ∈ nw := mnc (in_1 (List.mem_of_getElem? (i := 156) rfl)) rfl
theorem wq_286 : Cond.instanceMethod yX2_init ∈ gw := mgc (in_1 (List.mem_of_getElem? (i := 157) rfl)) rfl
theorem wq_287 : Cond.code yX2_init cX2_init 1 (none : Option FieldType) ∈ gw := mgc (in_1 (List.mem_of_getElem? (i := 158) rfl)) rfl
theorem wq_288 : Cond.methodLink RX2 3 objectInit ∈ gw := mgc (in_1 (List.mem_of_getElem? (i := 159) rfl)) rfl
theorem wq_289 : Cond.fieldLink RX2 9 "SettingStore$Draft" "row" "[I" ∈ gw := mgc (in_1 (List.mem_of_getElem? (i := 160) rfl)) rfl
theorem wn_290 : Cond.fieldLinkNest RX1 81 "SettingStore$Draft" "row" "[I" "SettingStore" ∈ nw := mnc (in_1 (List.mem_of_getElem? (i := 161) rfl)) rfl
theorem wq_291 : Cond.fieldLink RX2 34 "SettingStore$Draft" "used" "I" ∈ gw := mgc (in_1 (List.mem_of_getElem? (i := 162) rfl)) rfl
theorem wn_292 : Cond.fieldLinkNest RX1 76 "SettingStore$Draft" "used" "I" "SettingStore" ∈ nw := mnc (in_1 (List.mem_of_getElem? (i := 163) rfl)) rfl
theorem wn_293 : Cond.fieldLinkNest RX4 165 "SettingStore$Draft" "used" "I" "SettingStore" ∈ nw := mnc (in_1 (List.mem_of_getElem? (i := 164) rfl)) rfl
theorem wq_294 : Cond.fieldLink RX2 22 "SettingStore$Draft" "sum" "I" ∈ gw := mgc (in_1 (List.mem_of_getElem? (i := 165) rfl)) rfl
theorem wq_295 : Cond.laysFinal RX2 "SettingStore$Draft" "row" "[I" ∈ gw := mgc (in_1 (List.mem_of_getElem? (i := 166) rfl)) rfl
theorem wq_297 : Cond.lays RX2 "SettingStore$Draft" "used" "I" ∈ gw := mgc (in_1 (List.mem_of_getElem? (i := 168) rfl)) rfl
theorem wq_299 : Cond.lays RX2 "SettingStore$Draft" "sum" "I" ∈ gw := mgc (in_1 (List.mem_of_getElem? (i := 170) rfl)) rfl
theorem wn_302 : Cond.methodLinkNest RX4 43 yX1_renew RX5 ∈ nw := mnc (in_1 (List.mem_of_getElem? (i := 173) rfl)) rfl
theorem wq_304 : Cond.instanceMethod yX1_renew ∈ gw := mgc (in_1 (List.mem_of_getElem? (i := 175) rfl)) rfl
theorem wq_305 : Cond.code yX1_renew cX1_renew 3 (none : Option FieldType) ∈ gw := mgc (in_1 (List.mem_of_getElem? (i := 176) rfl)) rfl
theorem wq_306 : Cond.methodLink RX1 25 yJ7_fill_53178 ∈ gw := mgc (in_1 (List.mem_of_getElem? (i := 177) rfl)) rfl
theorem wq_307 : Cond.static yJ7_fill_53178 ∈ gw := mgc (in_1 (List.mem_of_getElem? (i := 178) rfl)) rfl
theorem wq_308 : Cond.code yJ7_fill_53178 cJ7_fill_53178 4 (none : Option FieldType) ∈ gw := mgc (in_1 (List.mem_of_getElem? (i := 179) rfl)) rfl
theorem wq_309 : Cond.fieldLink RX4 12 "SettingStore$Store" "chip" "LSettingStore$Chip;" ∈ gw := mgc (in_1 (List.mem_of_getElem? (i := 180) rfl)) rfl
theorem wn_310 : Cond.fieldLinkNest RX5 38 "SettingStore$Store" "chip" "LSettingStore$Chip;" "SettingStore" ∈ nw := mnc (in_1 (List.mem_of_getElem? (i := 181) rfl)) rfl
theorem wq_311 : Cond.fieldLink RX4 21 "SettingStore$Store" "reading" "LSettingStore$Reading;" ∈ gw := mgc (in_1 (List.mem_of_getElem? (i := 182) rfl)) rfl
theorem wn_312 : Cond.fieldLinkNest RX5 142 "SettingStore$Store" "reading" "LSettingStore$Reading;" "SettingStore" ∈ nw := mnc (in_1 (List.mem_of_getElem? (i := 183) rfl)) rfl
theorem wq_313 : Cond.fieldLink RX4 28 "SettingStore$Store" "change" "LSettingStore$Change;" ∈ gw := mgc (in_1 (List.mem_of_getElem? (i := 184) rfl)) rfl
theorem wn_314 : Cond.fieldLinkNest RX5 58 "SettingStore$Store" "change" "LSettingStore$Change;" "SettingStore" ∈ nw := mnc (in_1 (List.mem_of_getElem? (i := 185) rfl)) rfl
theorem wq_315 : Cond.fieldLink RX4 35 "SettingStore$Store" "draft" "LSettingStore$Draft;" ∈ gw := mgc (in_1 (List.mem_of_getElem? (i := 186) rfl)) rfl
theorem wq_316 : Cond.fieldLink RX4 39 "SettingStore$Store" "inUse" "I" ∈ gw := mgc (in_1 (List.mem_of_getElem? (i := 187) rfl)) rfl
theorem wn_317 : Cond.fieldLinkNest RX5 139 "SettingStore$Store" "inUse" "I" "SettingStore" ∈ nw := mnc (in_1 (List.mem_of_getElem? (i := 188) rfl)) rfl
theorem wq_318 : Cond.fieldLink RX4 47 "SettingStore$Store" "handovers" "I" ∈ gw := mgc (in_1 (List.mem_of_getElem? (i := 189) rfl)) rfl
theorem wn_319 : Cond.fieldLinkNest RX5 226 "SettingStore$Store" "handovers" "I" "SettingStore" ∈ nw := mnc (in_1 (List.mem_of_getElem? (i := 190) rfl)) rfl
theorem wq_320 : Cond.fieldLink RX4 128 "SettingStore$Store" "pen" "I" ∈ gw := mgc (in_1 (List.mem_of_getElem? (i := 191) rfl)) rfl
theorem wq_321 : Cond.laysFinal RX4 "SettingStore$Store" "chip" "LSettingStore$Chip;" ∈ gw := mgc (in_1 (List.mem_of_getElem? (i := 192) rfl)) rfl
theorem wq_323 : Cond.laysFinal RX4 "SettingStore$Store" "reading" "LSettingStore$Reading;" ∈ gw := mgc (in_1 (List.mem_of_getElem? (i := 194) rfl)) rfl
theorem wq_325 : Cond.laysFinal RX4 "SettingStore$Store" "change" "LSettingStore$Change;" ∈ gw := mgc (in_1 (List.mem_of_getElem? (i := 196) rfl)) rfl
theorem wq_327 : Cond.laysFinal RX4 "SettingStore$Store" "draft" "LSettingStore$Draft;" ∈ gw := mgc (in_1 (List.mem_of_getElem? (i := 198) rfl)) rfl
theorem wq_329 : Cond.lays RX4 "SettingStore$Store" "inUse" "I" ∈ gw := mgc (in_1 (List.mem_of_getElem? (i := 200) rfl)) rfl
theorem wq_331 : Cond.lays RX4 "SettingStore$Store" "handovers" "I" ∈ gw := mgc (in_1 (List.mem_of_getElem? (i := 202) rfl)) rfl
theorem wq_333 : Cond.lays RX4 "SettingStore$Store" "pen" "I" ∈ gw := mgc (in_1 (List.mem_of_getElem? (i := 204) rfl)) rfl
theorem wq_336 : Cond.fieldLink RX5 12 "SettingStore" "store" "LSettingStore$Store;" ∈ gw := mgc (in_1 (List.mem_of_getElem? (i := 207) rfl)) rfl
theorem wq_337 : Cond.fieldLink RX5 16 "SettingStore" "trial" "LSettingStore$Store;" ∈ gw := mgc (in_1 (List.mem_of_getElem? (i := 208) rfl)) rfl
theorem wq_338 : Cond.laysFinal RX5 "SettingStore" "store" "LSettingStore$Store;" ∈ gw := mgc (in_1 (List.mem_of_getElem? (i := 209) rfl)) rfl
theorem wq_340 : Cond.laysFinal RX5 "SettingStore" "trial" "LSettingStore$Store;" ∈ gw := mgc (in_1 (List.mem_of_getElem? (i := 211) rfl)) rfl
theorem wq_343 : Cond.methodLink RL 19 yX5_chip ∈ gw := mgc (in_1 (List.mem_of_getElem? (i := 214) rfl)) rfl
theorem wq_344 : Cond.instanceMethod yX5_chip ∈ gw := mgc (in_1 (List.mem_of_getElem? (i := 215) rfl)) rfl
theorem wq_345 : Cond.selects RX5 yX5_chip yX5_chip ∈ gw := mgc (in_1 (List.mem_of_getElem? (i := 216) rfl)) rfl
theorem wq_346 : Cond.code yX5_chip cX5_chip 3 (some FieldType.boolean) ∈ gw := mgc (in_1 (List.mem_of_getElem? (i := 217) rfl)) rfl
theorem wq_347 : Cond.methodLink RX5 19 yX5_within ∈ gw := mgc (in_1 (List.mem_of_getElem? (i := 218) rfl)) rfl
theorem wq_348 : Cond.static yX5_within ∈ gw := mgc (in_1 (List.mem_of_getElem? (i := 219) rfl)) rfl
theorem wq_349 : Cond.code yX5_within cX5_within 3 (some FieldType.boolean) ∈ gw := mgc (in_1 (List.mem_of_getElem? (i := 220) rfl)) rfl
theorem wn_350 : Cond.methodLinkNest RX5 23 yX4_renew RX5 ∈ nw := mnc (in_1 (List.mem_of_getElem? (i := 221) rfl)) rfl
theorem wq_352 : Cond.instanceMethod yX4_renew ∈ gw := mgc (in_1 (List.mem_of_getElem? (i := 223) rfl)) rfl
theorem wq_353 : Cond.code yX4_renew cX4_renew 3 (none : Option FieldType) ∈ gw := mgc (in_1 (List.mem_of_getElem? (i := 224) rfl)) rfl
theorem wq_354 : Cond.methodLink RX4 50 yX4_switchOff ∈ gw := mgc (in_1 (List.mem_of_getElem? (i := 225) rfl)) rfl
theorem wq_356 : Cond.instanceMethod yX4_switchOff ∈ gw := mgc (in_1 (List.mem_of_getElem? (i := 227) rfl)) rfl
theorem wq_357 : Cond.code yX4_switchOff cX4_switchOff 1 (none : Option FieldType) ∈ gw := mgc (in_1 (List.mem_of_getElem? (i := 228) rfl)) rfl
theorem wn_358 : Cond.methodLinkNest RX4 57 yX0_forget RX5 ∈ nw := mnc (in_1 (List.mem_of_getElem? (i := 229) rfl)) rfl
theorem wq_360 : Cond.instanceMethod yX0_forget ∈ gw := mgc (in_1 (List.mem_of_getElem? (i := 231) rfl)) rfl
theorem wq_361 : Cond.code yX0_forget cX0_forget 1 (none : Option FieldType) ∈ gw := mgc (in_1 (List.mem_of_getElem? (i := 232) rfl)) rfl
theorem wq_362 : Cond.methodLink RL 24 yX5_on ∈ gw := mgc (in_1 (List.mem_of_getElem? (i := 233) rfl)) rfl
theorem wq_363 : Cond.instanceMethod yX5_on ∈ gw := mgc (in_1 (List.mem_of_getElem? (i := 234) rfl)) rfl
theorem wq_364 : Cond.selects RX5 yX5_on yX5_on ∈ gw := mgc (in_1 (List.mem_of_getElem? (i := 235) rfl)) rfl
theorem wq_365 : Cond.code yX5_on cX5_on 1 (some FieldType.int) ∈ gw := mgc (in_1 (List.mem_of_getElem? (i := 236) rfl)) rfl
theorem wn_366 : Cond.methodLinkNest RX5 27 yX4_isOn RX5 ∈ nw := mnc (in_1 (List.mem_of_getElem? (i := 237) rfl)) rfl
theorem wq_368 : Cond.instanceMethod yX4_isOn ∈ gw := mgc (in_1 (List.mem_of_getElem? (i := 239) rfl)) rfl
theorem wq_369 : Cond.code yX4_isOn cX4_isOn 1 (some FieldType.boolean) ∈ gw := mgc (in_2 (List.mem_of_getElem? (i := 0) rfl)) rfl
theorem wn_370 : Cond.methodLinkNest RX5 31 yX4_switchOn RX5 ∈ nw := mnc (in_2 (List.mem_of_getElem? (i := 1) rfl)) rfl
theorem wq_372 : Cond.instanceMethod yX4_switchOn ∈ gw := mgc (in_2 (List.mem_of_getElem? (i := 3) rfl)) rfl
theorem wq_373 : Cond.code yX4_switchOn cX4_switchOn 2 (some FieldType.int) ∈ gw := mgc (in_2 (List.mem_of_getElem? (i := 4) rfl)) rfl
theorem wn_374 : Cond.methodLinkNest RX4 67 yX1_greatestActive RX5 ∈ nw := mnc (in_2 (List.mem_of_getElem? (i := 5) rfl)) rfl
theorem wq_376 : Cond.instanceMethod yX1_greatestActive ∈ gw := mgc (in_2 (List.mem_of_getElem? (i := 7) rfl)) rfl
theorem wq_377 : Cond.code yX1_greatestActive cX1_greatestActive 3 (some FieldType.int) ∈ gw := mgc (in_2 (List.mem_of_getElem? (i := 8) rfl)) rfl
theorem wq_378 : Cond.methodLink RX1 98 yX1_isActive ∈ gw := mgc (in_2 (List.mem_of_getElem? (i := 9) rfl)) rfl
theorem wq_380 : Cond.instanceMethod yX1_isActive ∈ gw := mgc (in_2 (List.mem_of_getElem? (i := 11) rfl)) rfl
theorem wq_381 : Cond.code yX1_isActive cX1_isActive 3 (some FieldType.boolean) ∈ gw := mgc (in_2 (List.mem_of_getElem? (i := 12) rfl)) rfl
theorem wq_382 : Cond.methodLink RX1 94 yX1_peek ∈ gw := mgc (in_2 (List.mem_of_getElem? (i := 13) rfl)) rfl
theorem wq_384 : Cond.instanceMethod yX1_peek ∈ gw := mgc (in_2 (List.mem_of_getElem? (i := 15) rfl)) rfl
theorem wq_385 : Cond.code yX1_peek cX1_peek 3 (some FieldType.int) ∈ gw := mgc (in_2 (List.mem_of_getElem? (i := 16) rfl)) rfl
theorem wq_386 : Cond.methodLink RX1 56 yX1_holds ∈ gw := mgc (in_2 (List.mem_of_getElem? (i := 17) rfl)) rfl
theorem wq_388 : Cond.instanceMethod yX1_holds ∈ gw := mgc (in_2 (List.mem_of_getElem? (i := 19) rfl)) rfl
theorem wq_389 : Cond.code yX1_holds cX1_holds 3 (some FieldType.boolean) ∈ gw := mgc (in_2 (List.mem_of_getElem? (i := 20) rfl)) rfl
theorem wn_390 : Cond.methodLinkNest RX1 72 yX5_checkOf RX5 ∈ nw := mnc (in_2 (List.mem_of_getElem? (i := 21) rfl)) rfl
theorem wq_391 : Cond.static yX5_checkOf ∈ gw := mgc (in_2 (List.mem_of_getElem? (i := 22) rfl)) rfl
theorem wq_392 : Cond.code yX5_checkOf cX5_checkOf 1 (some FieldType.int) ∈ gw := mgc (in_2 (List.mem_of_getElem? (i := 23) rfl)) rfl
theorem wq_393 : Cond.methodLink RX1 101 yX1_numberOf ∈ gw := mgc (in_2 (List.mem_of_getElem? (i := 24) rfl)) rfl
theorem wq_395 : Cond.instanceMethod yX1_numberOf ∈ gw := mgc (in_2 (List.mem_of_getElem? (i := 26) rfl)) rfl
theorem wq_396 : Cond.code yX1_numberOf cX1_numberOf 2 (some FieldType.int) ∈ gw := mgc (in_2 (List.mem_of_getElem? (i := 27) rfl)) rfl
theorem wn_397 : Cond.methodLinkNest RX4 71 yX1_eraseAllBut RX5 ∈ nw := mnc (in_2 (List.mem_of_getElem? (i := 28) rfl)) rfl
theorem wq_399 : Cond.instanceMethod yX1_eraseAllBut ∈ gw := mgc (in_2 (List.mem_of_getElem? (i := 30) rfl)) rfl
theorem wq_400 : Cond.code yX1_eraseAllBut cX1_eraseAllBut 3 (none : Option FieldType) ∈ gw := mgc (in_2 (List.mem_of_getElem? (i := 31) rfl)) rfl
theorem wq_401 : Cond.methodLink RX1 84 yX1_isBlank ∈ gw := mgc (in_2 (List.mem_of_getElem? (i := 32) rfl)) rfl
theorem wq_403 : Cond.instanceMethod yX1_isBlank ∈ gw := mgc (in_2 (List.mem_of_getElem? (i := 34) rfl)) rfl
theorem wq_404 : Cond.code yX1_isBlank cX1_isBlank 2 (some FieldType.boolean) ∈ gw := mgc (in_2 (List.mem_of_getElem? (i := 35) rfl)) rfl
theorem wq_405 : Cond.methodLink RX1 91 yX1_usedEnd ∈ gw := mgc (in_2 (List.mem_of_getElem? (i := 36) rfl)) rfl
theorem wq_407 : Cond.instanceMethod yX1_usedEnd ∈ gw := mgc (in_2 (List.mem_of_getElem? (i := 38) rfl)) rfl
theorem wq_408 : Cond.code yX1_usedEnd cX1_usedEnd 3 (some FieldType.int) ∈ gw := mgc (in_2 (List.mem_of_getElem? (i := 39) rfl)) rfl
theorem wq_409 : Cond.methodLink RX1 64 yX1_hasSector ∈ gw := mgc (in_2 (List.mem_of_getElem? (i := 40) rfl)) rfl
theorem wq_411 : Cond.instanceMethod yX1_hasSector ∈ gw := mgc (in_2 (List.mem_of_getElem? (i := 42) rfl)) rfl
theorem wq_412 : Cond.code yX1_hasSector cX1_hasSector 2 (some FieldType.boolean) ∈ gw := mgc (in_2 (List.mem_of_getElem? (i := 43) rfl)) rfl
theorem wq_413 : Cond.methodLink RX1 87 yX1_erase ∈ gw := mgc (in_2 (List.mem_of_getElem? (i := 44) rfl)) rfl
theorem wq_415 : Cond.instanceMethod yX1_erase ∈ gw := mgc (in_2 (List.mem_of_getElem? (i := 46) rfl)) rfl
theorem wq_416 : Cond.code yX1_erase cX1_erase 4 (none : Option FieldType) ∈ gw := mgc (in_2 (List.mem_of_getElem? (i := 47) rfl)) rfl
theorem wq_417 : Cond.methodLink RX1 60 yX1_endures ∈ gw := mgc (in_2 (List.mem_of_getElem? (i := 48) rfl)) rfl
theorem wq_419 : Cond.instanceMethod yX1_endures ∈ gw := mgc (in_2 (List.mem_of_getElem? (i := 50) rfl)) rfl
theorem wq_420 : Cond.code yX1_endures cX1_endures 1 (some FieldType.boolean) ∈ gw := mgc (in_2 (List.mem_of_getElem? (i := 51) rfl)) rfl
theorem wn_421 : Cond.methodLinkNest RX4 75 yX1_leastErased RX5 ∈ nw := mnc (in_2 (List.mem_of_getElem? (i := 52) rfl)) rfl
theorem wq_423 : Cond.instanceMethod yX1_leastErased ∈ gw := mgc (in_2 (List.mem_of_getElem? (i := 54) rfl)) rfl
theorem wq_424 : Cond.code yX1_leastErased cX1_leastErased 4 (some FieldType.int) ∈ gw := mgc (in_2 (List.mem_of_getElem? (i := 55) rfl)) rfl
theorem wq_425 : Cond.methodLink RX1 104 yX1_erasesOf ∈ gw := mgc (in_2 (List.mem_of_getElem? (i := 56) rfl)) rfl
theorem wq_427 : Cond.instanceMethod yX1_erasesOf ∈ gw := mgc (in_2 (List.mem_of_getElem? (i := 58) rfl)) rfl
theorem wq_428 : Cond.code yX1_erasesOf cX1_erasesOf 2 (some FieldType.int) ∈ gw := mgc (in_2 (List.mem_of_getElem? (i := 59) rfl)) rfl
theorem wn_429 : Cond.methodLinkNest RX4 79 yX1_makeReady RX5 ∈ nw := mnc (in_2 (List.mem_of_getElem? (i := 60) rfl)) rfl
theorem wq_431 : Cond.instanceMethod yX1_makeReady ∈ gw := mgc (in_2 (List.mem_of_getElem? (i := 62) rfl)) rfl
theorem wq_432 : Cond.code yX1_makeReady cX1_makeReady 5 (none : Option FieldType) ∈ gw := mgc (in_2 (List.mem_of_getElem? (i := 63) rfl)) rfl
theorem wq_433 : Cond.methodLink RX1 68 yX1_write ∈ gw := mgc (in_2 (List.mem_of_getElem? (i := 64) rfl)) rfl
theorem wq_435 : Cond.instanceMethod yX1_write ∈ gw := mgc (in_2 (List.mem_of_getElem? (i := 66) rfl)) rfl
theorem wq_436 : Cond.code yX1_write cX1_write 5 (none : Option FieldType) ∈ gw := mgc (in_2 (List.mem_of_getElem? (i := 67) rfl)) rfl
theorem wn_437 : Cond.methodLinkNest RX4 82 yX1_write RX5 ∈ nw := mnc (in_2 (List.mem_of_getElem? (i := 68) rfl)) rfl
theorem wq_438 : Cond.methodLink RX4 86 yX4_look ∈ gw := mgc (in_2 (List.mem_of_getElem? (i := 69) rfl)) rfl
theorem wq_440 : Cond.instanceMethod yX4_look ∈ gw := mgc (in_2 (List.mem_of_getElem? (i := 71) rfl)) rfl
theorem wq_441 : Cond.code yX4_look cX4_look 1 (some (FieldType.object "SettingStore$Reading")) ∈ gw := mgc (in_2 (List.mem_of_getElem? (i := 72) rfl)) rfl
theorem wn_442 : Cond.methodLinkNest RX4 103 yX3_scan RX5 ∈ nw := mnc (in_2 (List.mem_of_getElem? (i := 73) rfl)) rfl
theorem wq_444 : Cond.instanceMethod yX3_scan ∈ gw := mgc (in_2 (List.mem_of_getElem? (i := 75) rfl)) rfl
theorem wq_445 : Cond.code yX3_scan cX3_scan 6 (none : Option FieldType) ∈ gw := mgc (in_2 (List.mem_of_getElem? (i := 76) rfl)) rfl
theorem wn_446 : Cond.methodLinkNest RX3 40 yX1_copySector RX5 ∈ nw := mnc (in_2 (List.mem_of_getElem? (i := 77) rfl)) rfl
theorem wq_448 : Cond.instanceMethod yX1_copySector ∈ gw := mgc (in_2 (List.mem_of_getElem? (i := 79) rfl)) rfl
theorem wq_449 : Cond.code yX1_copySector cX1_copySector 4 (none : Option FieldType) ∈ gw := mgc (in_2 (List.mem_of_getElem? (i := 80) rfl)) rfl
theorem wn_450 : Cond.methodLinkNest RX3 50 yX1_usedEnd RX5 ∈ nw := mnc (in_2 (List.mem_of_getElem? (i := 81) rfl)) rfl
theorem wq_451 : Cond.methodLink RX3 54 yX3_takeEntry ∈ gw := mgc (in_2 (List.mem_of_getElem? (i := 82) rfl)) rfl
theorem wq_453 : Cond.instanceMethod yX3_takeEntry ∈ gw := mgc (in_2 (List.mem_of_getElem? (i := 84) rfl)) rfl
theorem wq_454 : Cond.code yX3_takeEntry cX3_takeEntry 6 (some FieldType.int) ∈ gw := mgc (in_2 (List.mem_of_getElem? (i := 85) rfl)) rfl
theorem wq_455 : Cond.methodLink RX3 63 yX3_byteAt ∈ gw := mgc (in_2 (List.mem_of_getElem? (i := 86) rfl)) rfl
theorem wq_457 : Cond.instanceMethod yX3_byteAt ∈ gw := mgc (in_2 (List.mem_of_getElem? (i := 88) rfl)) rfl
theorem wq_458 : Cond.code yX3_byteAt cX3_byteAt 2 (some FieldType.int) ∈ gw := mgc (in_2 (List.mem_of_getElem? (i := 89) rfl)) rfl
theorem wq_459 : Cond.methodLink RX3 66 yX3_kindOf ∈ gw := mgc (in_2 (List.mem_of_getElem? (i := 90) rfl)) rfl
theorem wq_460 : Cond.static yX3_kindOf ∈ gw := mgc (in_2 (List.mem_of_getElem? (i := 91) rfl)) rfl
theorem wq_461 : Cond.code yX3_kindOf cX3_kindOf 2 (some FieldType.int) ∈ gw := mgc (in_2 (List.mem_of_getElem? (i := 92) rfl)) rfl
theorem wn_462 : Cond.methodLinkNest RX3 81 yX5_within RX5 ∈ nw := mnc (in_2 (List.mem_of_getElem? (i := 93) rfl)) rfl
theorem wq_463 : Cond.methodLink RX3 70 yX3_sizeOf ∈ gw := mgc (in_2 (List.mem_of_getElem? (i := 94) rfl)) rfl
theorem wq_464 : Cond.static yX3_sizeOf ∈ gw := mgc (in_2 (List.mem_of_getElem? (i := 95) rfl)) rfl
theorem wq_465 : Cond.code yX3_sizeOf cX3_sizeOf 2 (some FieldType.int) ∈ gw := mgc (in_2 (List.mem_of_getElem? (i := 96) rfl)) rfl
theorem wq_466 : Cond.methodLink RX3 73 yX3_firstMark ∈ gw := mgc (in_2 (List.mem_of_getElem? (i := 97) rfl)) rfl
theorem wq_468 : Cond.instanceMethod yX3_firstMark ∈ gw := mgc (in_2 (List.mem_of_getElem? (i := 99) rfl)) rfl
theorem wq_469 : Cond.code yX3_firstMark cX3_firstMark 7 (some FieldType.int) ∈ gw := mgc (in_2 (List.mem_of_getElem? (i := 100) rfl)) rfl
theorem wn_470 : Cond.methodLinkNest RX3 85 yX5_checkOf RX5 ∈ nw := mnc (in_2 (List.mem_of_getElem? (i := 101) rfl)) rfl
theorem wq_471 : Cond.methodLink RX3 77 yX3_settleParts ∈ gw := mgc (in_2 (List.mem_of_getElem? (i := 102) rfl)) rfl
theorem wq_473 : Cond.instanceMethod yX3_settleParts ∈ gw := mgc (in_2 (List.mem_of_getElem? (i := 104) rfl)) rfl
theorem wq_474 : Cond.code yX3_settleParts cX3_settleParts 4 (none : Option FieldType) ∈ gw := mgc (in_2 (List.mem_of_getElem? (i := 105) rfl)) rfl
theorem wq_475 : Cond.methodLink RX3 88 yX3_has ∈ gw := mgc (in_2 (List.mem_of_getElem? (i := 106) rfl)) rfl
theorem wq_477 : Cond.instanceMethod yX3_has ∈ gw := mgc (in_2 (List.mem_of_getElem? (i := 108) rfl)) rfl
theorem wq_478 : Cond.code yX3_has cX3_has 2 (some FieldType.boolean) ∈ gw := mgc (in_2 (List.mem_of_getElem? (i := 109) rfl)) rfl
theorem wq_479 : Cond.methodLink RX3 60 yX3_markNewest ∈ gw := mgc (in_2 (List.mem_of_getElem? (i := 110) rfl)) rfl
theorem wq_481 : Cond.instanceMethod yX3_markNewest ∈ gw := mgc (in_2 (List.mem_of_getElem? (i := 112) rfl)) rfl
theorem wq_482 : Cond.code yX3_markNewest cX3_markNewest 2 (none : Option FieldType) ∈ gw := mgc (in_2 (List.mem_of_getElem? (i := 113) rfl)) rfl
theorem wq_483 : Cond.methodLink RX3 92 yJ7_fill_53178 ∈ gw := mgc (in_2 (List.mem_of_getElem? (i := 114) rfl)) rfl
theorem wn_484 : Cond.methodLinkNest RX3 98 yX5_isTag RX5 ∈ nw := mnc (in_2 (List.mem_of_getElem? (i := 115) rfl)) rfl
theorem wq_485 : Cond.static yX5_isTag ∈ gw := mgc (in_2 (List.mem_of_getElem? (i := 116) rfl)) rfl
theorem wq_486 : Cond.code yX5_isTag cX5_isTag 1 (some FieldType.boolean) ∈ gw := mgc (in_2 (List.mem_of_getElem? (i := 117) rfl)) rfl
theorem wn_487 : Cond.methodLinkNest RX4 90 yX3_valuedTags RX5 ∈ nw := mnc (in_2 (List.mem_of_getElem? (i := 118) rfl)) rfl
theorem wq_489 : Cond.instanceMethod yX3_valuedTags ∈ gw := mgc (in_2 (List.mem_of_getElem? (i := 120) rfl)) rfl
theorem wq_490 : Cond.code yX3_valuedTags cX3_valuedTags 4 (some FieldType.long) ∈ gw := mgc (in_2 (List.mem_of_getElem? (i := 121) rfl)) rfl
theorem wq_491 : Cond.methodLink RX3 137 yX3_hasValue ∈ gw := mgc (in_2 (List.mem_of_getElem? (i := 122) rfl)) rfl
theorem wq_493 : Cond.instanceMethod yX3_hasValue ∈ gw := mgc (in_2 (List.mem_of_getElem? (i := 124) rfl)) rfl
theorem wq_494 : Cond.code yX3_hasValue cX3_hasValue 2 (some FieldType.boolean) ∈ gw := mgc (in_2 (List.mem_of_getElem? (i := 125) rfl)) rfl
theorem wq_495 : Cond.methodLink RX3 105 yX3_valuedSize ∈ gw := mgc (in_2 (List.mem_of_getElem? (i := 126) rfl)) rfl
theorem wq_497 : Cond.instanceMethod yX3_valuedSize ∈ gw := mgc (in_2 (List.mem_of_getElem? (i := 128) rfl)) rfl
theorem wq_498 : Cond.code yX3_valuedSize cX3_valuedSize 3 (some FieldType.int) ∈ gw := mgc (in_2 (List.mem_of_getElem? (i := 129) rfl)) rfl
theorem wq_499 : Cond.methodLink RX3 108 yX3_newestOf ∈ gw := mgc (in_2 (List.mem_of_getElem? (i := 130) rfl)) rfl
theorem wq_501 : Cond.instanceMethod yX3_newestOf ∈ gw := mgc (in_2 (List.mem_of_getElem? (i := 132) rfl)) rfl
theorem wq_502 : Cond.code yX3_newestOf cX3_newestOf 2 (some FieldType.int) ∈ gw := mgc (in_2 (List.mem_of_getElem? (i := 133) rfl)) rfl
theorem wq_503 : Cond.methodLink RX4 94 yJ13_bitCount_95d88 ∈ gw := mgc (in_2 (List.mem_of_getElem? (i := 134) rfl)) rfl
theorem wq_504 : Cond.static yJ13_bitCount_95d88 ∈ gw := mgc (in_2 (List.mem_of_getElem? (i := 135) rfl)) rfl
theorem wq_505 : Cond.code yJ13_bitCount_95d88 cJ13_bitCount_95d88 2 (some FieldType.int) ∈ gw := mgc (in_2 (List.mem_of_getElem? (i := 136) rfl)) rfl
theorem wq_506 : Cond.constantLong RJ13 314 (6148914691236517205 : Int64) ∈ gw := mgc (in_2 (List.mem_of_getElem? (i := 137) rfl)) rfl
theorem wq_507 : Cond.constantLong RJ13 316 (3689348814741910323 : Int64) ∈ gw := mgc (in_2 (List.mem_of_getElem? (i := 138) rfl)) rfl
theorem wq_508 : Cond.constantLong RJ13 318 (1085102592571150095 : Int64) ∈ gw := mgc (in_2 (List.mem_of_getElem? (i := 139) rfl)) rfl
theorem wq_509 : Cond.methodLink RX4 100 yX4_outcome ∈ gw := mgc (in_2 (List.mem_of_getElem? (i := 140) rfl)) rfl
theorem wq_511 : Cond.instanceMethod yX4_outcome ∈ gw := mgc (in_2 (List.mem_of_getElem? (i := 142) rfl)) rfl
theorem wq_512 : Cond.code yX4_outcome cX4_outcome 2 (some FieldType.int) ∈ gw := mgc (in_2 (List.mem_of_getElem? (i := 143) rfl)) rfl
theorem wq_513 : Cond.methodLink RL 29 yX5_off ∈ gw := mgc (in_2 (List.mem_of_getElem? (i := 144) rfl)) rfl
theorem wq_514 : Cond.instanceMethod yX5_off ∈ gw := mgc (in_2 (List.mem_of_getElem? (i := 145) rfl)) rfl
theorem wq_515 : Cond.selects RX5 yX5_off yX5_off ∈ gw := mgc (in_2 (List.mem_of_getElem? (i := 146) rfl)) rfl
theorem wq_516 : Cond.code yX5_off cX5_off 1 (some FieldType.boolean) ∈ gw := mgc (in_2 (List.mem_of_getElem? (i := 147) rfl)) rfl
theorem wn_517 : Cond.methodLinkNest RX5 35 yX4_switchOff RX5 ∈ nw := mnc (in_2 (List.mem_of_getElem? (i := 148) rfl)) rfl
theorem wq_518 : Cond.methodLink RL 34 yX5_power ∈ gw := mgc (in_2 (List.mem_of_getElem? (i := 149) rfl)) rfl
theorem wq_519 : Cond.instanceMethod yX5_power ∈ gw := mgc (in_2 (List.mem_of_getElem? (i := 150) rfl)) rfl
theorem wq_520 : Cond.selects RX5 yX5_power yX5_power ∈ gw := mgc (in_2 (List.mem_of_getElem? (i := 151) rfl)) rfl
theorem wq_521 : Cond.code yX5_power cX5_power 3 (some FieldType.boolean) ∈ gw := mgc (in_2 (List.mem_of_getElem? (i := 152) rfl)) rfl
theorem wn_522 : Cond.methodLinkNest RX5 42 yX1_arm RX5 ∈ nw := mnc (in_2 (List.mem_of_getElem? (i := 153) rfl)) rfl
theorem wq_524 : Cond.instanceMethod yX1_arm ∈ gw := mgc (in_2 (List.mem_of_getElem? (i := 155) rfl)) rfl
theorem wq_525 : Cond.code yX1_arm cX1_arm 3 (none : Option FieldType) ∈ gw := mgc (in_2 (List.mem_of_getElem? (i := 156) rfl)) rfl
theorem wq_526 : Cond.methodLink RL 38 yX5_rot ∈ gw := mgc (in_2 (List.mem_of_getElem? (i := 157) rfl)) rfl
theorem wq_527 : Cond.instanceMethod yX5_rot ∈ gw := mgc (in_2 (List.mem_of_getElem? (i := 158) rfl)) rfl
theorem wq_528 : Cond.selects RX5 yX5_rot yX5_rot ∈ gw := mgc (in_2 (List.mem_of_getElem? (i := 159) rfl)) rfl
theorem wq_529 : Cond.code yX5_rot cX5_rot 4 (some FieldType.int) ∈ gw := mgc (in_2 (List.mem_of_getElem? (i := 160) rfl)) rfl
theorem wn_530 : Cond.methodLinkNest RX5 47 yX1_holds RX5 ∈ nw := mnc (in_2 (List.mem_of_getElem? (i := 161) rfl)) rfl
theorem wn_531 : Cond.methodLinkNest RX5 51 yX1_decay RX5 ∈ nw := mnc (in_2 (List.mem_of_getElem? (i := 162) rfl)) rfl
theorem wq_533 : Cond.instanceMethod yX1_decay ∈ gw := mgc (in_2 (List.mem_of_getElem? (i := 164) rfl)) rfl
theorem wq_534 : Cond.code yX1_decay cX1_decay 4 (some FieldType.int) ∈ gw := mgc (in_2 (List.mem_of_getElem? (i := 165) rfl)) rfl
theorem wq_535 : Cond.methodLink RL 43 yX5_set ∈ gw := mgc (in_2 (List.mem_of_getElem? (i := 166) rfl)) rfl
theorem wq_536 : Cond.instanceMethod yX5_set ∈ gw := mgc (in_2 (List.mem_of_getElem? (i := 167) rfl)) rfl
theorem wq_537 : Cond.selects RX5 yX5_set yX5_set ∈ gw := mgc (in_2 (List.mem_of_getElem? (i := 168) rfl)) rfl
theorem wq_538 : Cond.code yX5_set cX5_set 4 (some FieldType.int) ∈ gw := mgc (in_2 (List.mem_of_getElem? (i := 169) rfl)) rfl
theorem wq_539 : Cond.methodLink RX5 55 yX5_isSetting ∈ gw := mgc (in_2 (List.mem_of_getElem? (i := 170) rfl)) rfl
theorem wq_540 : Cond.static yX5_isSetting ∈ gw := mgc (in_2 (List.mem_of_getElem? (i := 171) rfl)) rfl
theorem wq_541 : Cond.code yX5_isSetting cX5_isSetting 2 (some FieldType.boolean) ∈ gw := mgc (in_2 (List.mem_of_getElem? (i := 172) rfl)) rfl
theorem wn_542 : Cond.methodLinkNest RX5 68 yX0_tell RX5 ∈ nw := mnc (in_2 (List.mem_of_getElem? (i := 173) rfl)) rfl
theorem wq_544 : Cond.instanceMethod yX0_tell ∈ gw := mgc (in_2 (List.mem_of_getElem? (i := 175) rfl)) rfl
theorem wq_545 : Cond.code yX0_tell cX0_tell 5 (some FieldType.int) ∈ gw := mgc (in_2 (List.mem_of_getElem? (i := 176) rfl)) rfl
theorem wq_546 : Cond.methodLink RX0 29 yX0_find ∈ gw := mgc (in_2 (List.mem_of_getElem? (i := 177) rfl)) rfl
theorem wq_548 : Cond.instanceMethod yX0_find ∈ gw := mgc (in_2 (List.mem_of_getElem? (i := 179) rfl)) rfl
theorem wq_549 : Cond.code yX0_find cX0_find 3 (some FieldType.int) ∈ gw := mgc (in_2 (List.mem_of_getElem? (i := 180) rfl)) rfl
theorem wn_550 : Cond.methodLinkNest RX5 71 yX4_keep RX5 ∈ nw := mnc (in_2 (List.mem_of_getElem? (i := 181) rfl)) rfl
theorem wq_552 : Cond.instanceMethod yX4_keep ∈ gw := mgc (in_2 (List.mem_of_getElem? (i := 183) rfl)) rfl
theorem wq_553 : Cond.code yX4_keep cX4_keep 4 (some FieldType.int) ∈ gw := mgc (in_2 (List.mem_of_getElem? (i := 184) rfl)) rfl
theorem wq_554 : Cond.methodLink RX4 121 yX4_makeRoom ∈ gw := mgc (in_2 (List.mem_of_getElem? (i := 185) rfl)) rfl
theorem wq_556 : Cond.instanceMethod yX4_makeRoom ∈ gw := mgc (in_2 (List.mem_of_getElem? (i := 187) rfl)) rfl
theorem wq_557 : Cond.code yX4_makeRoom cX4_makeRoom 2 (some FieldType.boolean) ∈ gw := mgc (in_2 (List.mem_of_getElem? (i := 188) rfl)) rfl
theorem wn_558 : Cond.methodLinkNest RX4 171 yX3_freeBytes RX5 ∈ nw := mnc (in_2 (List.mem_of_getElem? (i := 189) rfl)) rfl
theorem wq_560 : Cond.instanceMethod yX3_freeBytes ∈ gw := mgc (in_2 (List.mem_of_getElem? (i := 191) rfl)) rfl
theorem wq_561 : Cond.code yX3_freeBytes cX3_freeBytes 1 (some FieldType.int) ∈ gw := mgc (in_2 (List.mem_of_getElem? (i := 192) rfl)) rfl
theorem wn_562 : Cond.methodLinkNest RX4 174 yX3_freeBehindHandover RX5 ∈ nw := mnc (in_2 (List.mem_of_getElem? (i := 193) rfl)) rfl
theorem wq_564 : Cond.instanceMethod yX3_freeBehindHandover ∈ gw := mgc (in_2 (List.mem_of_getElem? (i := 195) rfl)) rfl
theorem wq_565 : Cond.code yX3_freeBehindHandover cX3_freeBehindHandover 1 (some FieldType.int) ∈ gw := mgc (in_2 (List.mem_of_getElem? (i := 196) rfl)) rfl
theorem wq_566 : Cond.methodLink RX3 101 yX3_valuedBytes ∈ gw := mgc (in_2 (List.mem_of_getElem? (i := 197) rfl)) rfl
theorem wq_568 : Cond.instanceMethod yX3_valuedBytes ∈ gw := mgc (in_2 (List.mem_of_getElem? (i := 199) rfl)) rfl
theorem wq_569 : Cond.code yX3_valuedBytes cX3_valuedBytes 3 (some FieldType.int) ∈ gw := mgc (in_2 (List.mem_of_getElem? (i := 200) rfl)) rfl
theorem wq_570 : Cond.methodLink RX4 177 yX4_handOver ∈ gw := mgc (in_2 (List.mem_of_getElem? (i := 201) rfl)) rfl
theorem wq_572 : Cond.instanceMethod yX4_handOver ∈ gw := mgc (in_2 (List.mem_of_getElem? (i := 203) rfl)) rfl
theorem wq_573 : Cond.code yX4_handOver cX4_handOver 5 (none : Option FieldType) ∈ gw := mgc (in_2 (List.mem_of_getElem? (i := 204) rfl)) rfl
theorem wn_574 : Cond.methodLinkNest RX4 183 yX1_isBlank RX5 ∈ nw := mnc (in_2 (List.mem_of_getElem? (i := 205) rfl)) rfl
theorem wn_575 : Cond.methodLinkNest RX4 186 yX1_erase RX5 ∈ nw := mnc (in_2 (List.mem_of_getElem? (i := 206) rfl)) rfl
theorem wn_576 : Cond.methodLinkNest RX4 189 yX1_numberOf RX5 ∈ nw := mnc (in_2 (List.mem_of_getElem? (i := 207) rfl)) rfl
theorem wq_577 : Cond.constant RX4 192 (65536 : Int32) ∈ gw := mgc (in_2 (List.mem_of_getElem? (i := 208) rfl)) rfl
theorem wn_578 : Cond.methodLinkNest RX4 117 yX3_hasValue RX5 ∈ nw := mnc (in_2 (List.mem_of_getElem? (i := 209) rfl)) rfl
theorem wn_579 : Cond.methodLinkNest RX4 193 yX3_newestOf RX5 ∈ nw := mnc (in_2 (List.mem_of_getElem? (i := 210) rfl)) rfl
theorem wn_580 : Cond.methodLinkNest RX4 196 yX3_valueOf RX5 ∈ nw := mnc (in_2 (List.mem_of_getElem? (i := 211) rfl)) rfl
theorem wq_582 : Cond.instanceMethod yX3_valueOf ∈ gw := mgc (in_2 (List.mem_of_getElem? (i := 213) rfl)) rfl
theorem wq_583 : Cond.code yX3_valueOf cX3_valueOf 2 (some FieldType.long) ∈ gw := mgc (in_2 (List.mem_of_getElem? (i := 214) rfl)) rfl
theorem wq_584 : Cond.constantLong RX3 115 (-4 : Int64) ∈ gw := mgc (in_2 (List.mem_of_getElem? (i := 215) rfl)) rfl
theorem wq_585 : Cond.methodLink RX3 117 yX3_numberAt ∈ gw := mgc (in_2 (List.mem_of_getElem? (i := 216) rfl)) rfl
theorem wq_587 : Cond.instanceMethod yX3_numberAt ∈ gw := mgc (in_2 (List.mem_of_getElem? (i := 218) rfl)) rfl
theorem wq_588 : Cond.code yX3_numberAt cX3_numberAt 6 (some FieldType.long) ∈ gw := mgc (in_2 (List.mem_of_getElem? (i := 219) rfl)) rfl
theorem wq_589 : Cond.constantLong RX3 124 (256 : Int64) ∈ gw := mgc (in_2 (List.mem_of_getElem? (i := 220) rfl)) rfl
theorem wq_590 : Cond.methodLink RX3 121 yX3_clearedBits ∈ gw := mgc (in_2 (List.mem_of_getElem? (i := 221) rfl)) rfl
theorem wq_592 : Cond.instanceMethod yX3_clearedBits ∈ gw := mgc (in_2 (List.mem_of_getElem? (i := 223) rfl)) rfl
theorem wq_593 : Cond.code yX3_clearedBits cX3_clearedBits 4 (some FieldType.int) ∈ gw := mgc (in_2 (List.mem_of_getElem? (i := 224) rfl)) rfl
theorem wq_594 : Cond.methodLink RX3 126 yJ6_bitCount_0f7a4 ∈ gw := mgc (in_2 (List.mem_of_getElem? (i := 225) rfl)) rfl
theorem wq_595 : Cond.static yJ6_bitCount_0f7a4 ∈ gw := mgc (in_2 (List.mem_of_getElem? (i := 226) rfl)) rfl
theorem wq_596 : Cond.code yJ6_bitCount_0f7a4 cJ6_bitCount_0f7a4 1 (some FieldType.int) ∈ gw := mgc (in_2 (List.mem_of_getElem? (i := 227) rfl)) rfl
theorem wq_597 : Cond.constant RJ6 265 (1431655765 : Int32) ∈ gw := mgc (in_2 (List.mem_of_getElem? (i := 228) rfl)) rfl
theorem wq_598 : Cond.constant RJ6 266 (858993459 : Int32) ∈ gw := mgc (in_2 (List.mem_of_getElem? (i := 229) rfl)) rfl
theorem wq_599 : Cond.constant RJ6 267 (252645135 : Int32) ∈ gw := mgc (in_2 (List.mem_of_getElem? (i := 230) rfl)) rfl
theorem wn_600 : Cond.methodLinkNest RX4 199 yX3_newestLength RX5 ∈ nw := mnc (in_2 (List.mem_of_getElem? (i := 231) rfl)) rfl
theorem wq_602 : Cond.instanceMethod yX3_newestLength ∈ gw := mgc (in_2 (List.mem_of_getElem? (i := 233) rfl)) rfl
theorem wq_603 : Cond.code yX3_newestLength cX3_newestLength 3 (some FieldType.int) ∈ gw := mgc (in_2 (List.mem_of_getElem? (i := 234) rfl)) rfl
theorem wn_604 : Cond.methodLinkNest RX4 124 yX2_fillSetting RX5 ∈ nw := mnc (in_2 (List.mem_of_getElem? (i := 235) rfl)) rfl
theorem wq_606 : Cond.instanceMethod yX2_fillSetting ∈ gw := mgc (in_2 (List.mem_of_getElem? (i := 237) rfl)) rfl
theorem wq_607 : Cond.code yX2_fillSetting cX2_fillSetting 5 (none : Option FieldType) ∈ gw := mgc (in_2 (List.mem_of_getElem? (i := 238) rfl)) rfl
theorem wq_608 : Cond.methodLink RX2 15 yX2_start ∈ gw := mgc (in_2 (List.mem_of_getElem? (i := 239) rfl)) rfl
theorem wq_610 : Cond.instanceMethod yX2_start ∈ gw := mgc (in_3 (List.mem_of_getElem? (i := 1) rfl)) rfl
theorem wq_611 : Cond.code yX2_start cX2_start 3 (none : Option FieldType) ∈ gw := mgc (in_3 (List.mem_of_getElem? (i := 2) rfl)) rfl
theorem wq_612 : Cond.methodLink RX2 30 yX2_put ∈ gw := mgc (in_3 (List.mem_of_getElem? (i := 3) rfl)) rfl
theorem wq_614 : Cond.instanceMethod yX2_put ∈ gw := mgc (in_3 (List.mem_of_getElem? (i := 5) rfl)) rfl
theorem wq_615 : Cond.code yX2_put cX2_put 2 (none : Option FieldType) ∈ gw := mgc (in_3 (List.mem_of_getElem? (i := 6) rfl)) rfl
theorem wq_616 : Cond.methodLink RX2 19 yX2_putBytes ∈ gw := mgc (in_3 (List.mem_of_getElem? (i := 7) rfl)) rfl
theorem wq_618 : Cond.instanceMethod yX2_putBytes ∈ gw := mgc (in_3 (List.mem_of_getElem? (i := 9) rfl)) rfl
theorem wq_619 : Cond.code yX2_putBytes cX2_putBytes 4 (none : Option FieldType) ∈ gw := mgc (in_3 (List.mem_of_getElem? (i := 10) rfl)) rfl
theorem wn_620 : Cond.methodLinkNest RX2 26 yX5_checkOf RX5 ∈ nw := mnc (in_3 (List.mem_of_getElem? (i := 11) rfl)) rfl
theorem wn_621 : Cond.methodLinkNest RX4 150 yX2_fillCounter RX5 ∈ nw := mnc (in_3 (List.mem_of_getElem? (i := 12) rfl)) rfl
theorem wq_623 : Cond.instanceMethod yX2_fillCounter ∈ gw := mgc (in_3 (List.mem_of_getElem? (i := 14) rfl)) rfl
theorem wq_624 : Cond.code yX2_fillCounter cX2_fillCounter 3 (none : Option FieldType) ∈ gw := mgc (in_3 (List.mem_of_getElem? (i := 15) rfl)) rfl
theorem wn_625 : Cond.methodLinkNest RX4 131 yX1_writeDraft RX5 ∈ nw := mnc (in_3 (List.mem_of_getElem? (i := 16) rfl)) rfl
theorem wq_627 : Cond.instanceMethod yX1_writeDraft ∈ gw := mgc (in_3 (List.mem_of_getElem? (i := 18) rfl)) rfl
theorem wq_628 : Cond.code yX1_writeDraft cX1_writeDraft 5 (none : Option FieldType) ∈ gw := mgc (in_3 (List.mem_of_getElem? (i := 19) rfl)) rfl
theorem wq_629 : Cond.methodLink RL 47 yX5_drop ∈ gw := mgc (in_3 (List.mem_of_getElem? (i := 20) rfl)) rfl
theorem wq_630 : Cond.instanceMethod yX5_drop ∈ gw := mgc (in_3 (List.mem_of_getElem? (i := 21) rfl)) rfl
theorem wq_631 : Cond.selects RX5 yX5_drop yX5_drop ∈ gw := mgc (in_3 (List.mem_of_getElem? (i := 22) rfl)) rfl
theorem wq_632 : Cond.code yX5_drop cX5_drop 2 (some FieldType.int) ∈ gw := mgc (in_3 (List.mem_of_getElem? (i := 23) rfl)) rfl
theorem wn_633 : Cond.methodLinkNest RX5 74 yX4_wouldHave RX5 ∈ nw := mnc (in_3 (List.mem_of_getElem? (i := 24) rfl)) rfl
theorem wq_635 : Cond.instanceMethod yX4_wouldHave ∈ gw := mgc (in_3 (List.mem_of_getElem? (i := 26) rfl)) rfl
theorem wq_636 : Cond.code yX4_wouldHave cX4_wouldHave 3 (some FieldType.boolean) ∈ gw := mgc (in_3 (List.mem_of_getElem? (i := 27) rfl)) rfl
theorem wn_637 : Cond.methodLinkNest RX4 110 yX0_find RX5 ∈ nw := mnc (in_3 (List.mem_of_getElem? (i := 28) rfl)) rfl
theorem wq_638 : Cond.methodLink RL 52 yX5_bump ∈ gw := mgc (in_3 (List.mem_of_getElem? (i := 29) rfl)) rfl
theorem wq_639 : Cond.instanceMethod yX5_bump ∈ gw := mgc (in_3 (List.mem_of_getElem? (i := 30) rfl)) rfl
theorem wq_640 : Cond.selects RX5 yX5_bump yX5_bump ∈ gw := mgc (in_3 (List.mem_of_getElem? (i := 31) rfl)) rfl
theorem wq_641 : Cond.code yX5_bump cX5_bump 2 (some FieldType.int) ∈ gw := mgc (in_3 (List.mem_of_getElem? (i := 32) rfl)) rfl
theorem wn_642 : Cond.methodLinkNest RX5 78 yX4_countUp RX5 ∈ nw := mnc (in_3 (List.mem_of_getElem? (i := 33) rfl)) rfl
theorem wq_644 : Cond.instanceMethod yX4_countUp ∈ gw := mgc (in_3 (List.mem_of_getElem? (i := 35) rfl)) rfl
theorem wq_645 : Cond.code yX4_countUp cX4_countUp 5 (some FieldType.int) ∈ gw := mgc (in_3 (List.mem_of_getElem? (i := 36) rfl)) rfl
theorem wn_646 : Cond.methodLinkNest RX4 135 yX3_newestValue RX5 ∈ nw := mnc (in_3 (List.mem_of_getElem? (i := 37) rfl)) rfl
theorem wq_648 : Cond.instanceMethod yX3_newestValue ∈ gw := mgc (in_3 (List.mem_of_getElem? (i := 39) rfl)) rfl
theorem wq_649 : Cond.code yX3_newestValue cX3_newestValue 2 (some FieldType.long) ∈ gw := mgc (in_3 (List.mem_of_getElem? (i := 40) rfl)) rfl
theorem wq_650 : Cond.methodLink RX3 111 yX3_valueOf ∈ gw := mgc (in_3 (List.mem_of_getElem? (i := 41) rfl)) rfl
theorem wq_651 : Cond.constant RX4 139 (16777215 : Int32) ∈ gw := mgc (in_3 (List.mem_of_getElem? (i := 42) rfl)) rfl
theorem wn_652 : Cond.methodLinkNest RX4 140 yX3_unspentPlace RX5 ∈ nw := mnc (in_3 (List.mem_of_getElem? (i := 43) rfl)) rfl
theorem wq_654 : Cond.instanceMethod yX3_unspentPlace ∈ gw := mgc (in_3 (List.mem_of_getElem? (i := 45) rfl)) rfl
theorem wq_655 : Cond.code yX3_unspentPlace cX3_unspentPlace 4 (some FieldType.int) ∈ gw := mgc (in_3 (List.mem_of_getElem? (i := 46) rfl)) rfl
theorem wn_656 : Cond.methodLinkNest RX4 143 yX1_peek RX5 ∈ nw := mnc (in_3 (List.mem_of_getElem? (i := 47) rfl)) rfl
theorem wq_657 : Cond.methodLink RX4 147 yX4_highestBit ∈ gw := mgc (in_3 (List.mem_of_getElem? (i := 48) rfl)) rfl
theorem wq_658 : Cond.static yX4_highestBit ∈ gw := mgc (in_3 (List.mem_of_getElem? (i := 49) rfl)) rfl
theorem wq_659 : Cond.code yX4_highestBit cX4_highestBit 2 (some FieldType.int) ∈ gw := mgc (in_3 (List.mem_of_getElem? (i := 50) rfl)) rfl
theorem wq_660 : Cond.methodLink RL 56 yX5_begin ∈ gw := mgc (in_3 (List.mem_of_getElem? (i := 51) rfl)) rfl
theorem wq_661 : Cond.instanceMethod yX5_begin ∈ gw := mgc (in_3 (List.mem_of_getElem? (i := 52) rfl)) rfl
theorem wq_662 : Cond.selects RX5 yX5_begin yX5_begin ∈ gw := mgc (in_3 (List.mem_of_getElem? (i := 53) rfl)) rfl
theorem wq_663 : Cond.code yX5_begin cX5_begin 1 (some FieldType.boolean) ∈ gw := mgc (in_3 (List.mem_of_getElem? (i := 54) rfl)) rfl
theorem wn_664 : Cond.methodLinkNest RX5 82 yX0_start RX5 ∈ nw := mnc (in_3 (List.mem_of_getElem? (i := 55) rfl)) rfl
theorem wq_666 : Cond.instanceMethod yX0_start ∈ gw := mgc (in_3 (List.mem_of_getElem? (i := 57) rfl)) rfl
theorem wq_667 : Cond.code yX0_start cX0_start 1 (none : Option FieldType) ∈ gw := mgc (in_3 (List.mem_of_getElem? (i := 58) rfl)) rfl
theorem wq_668 : Cond.methodLink RL 60 yX5_commit ∈ gw := mgc (in_3 (List.mem_of_getElem? (i := 59) rfl)) rfl
theorem wq_669 : Cond.instanceMethod yX5_commit ∈ gw := mgc (in_3 (List.mem_of_getElem? (i := 60) rfl)) rfl
theorem wq_670 : Cond.selects RX5 yX5_commit yX5_commit ∈ gw := mgc (in_3 (List.mem_of_getElem? (i := 61) rfl)) rfl
theorem wq_671 : Cond.code yX5_commit cX5_commit 1 (some FieldType.int) ∈ gw := mgc (in_3 (List.mem_of_getElem? (i := 62) rfl)) rfl
theorem wn_672 : Cond.methodLinkNest RX5 89 yX0_forget RX5 ∈ nw := mnc (in_3 (List.mem_of_getElem? (i := 63) rfl)) rfl
theorem wn_673 : Cond.methodLinkNest RX5 92 yX4_writeChange RX5 ∈ nw := mnc (in_3 (List.mem_of_getElem? (i := 64) rfl)) rfl
theorem wq_675 : Cond.instanceMethod yX4_writeChange ∈ gw := mgc (in_3 (List.mem_of_getElem? (i := 66) rfl)) rfl
theorem wq_676 : Cond.code yX4_writeChange cX4_writeChange 2 (some FieldType.int) ∈ gw := mgc (in_3 (List.mem_of_getElem? (i := 67) rfl)) rfl
theorem wn_677 : Cond.methodLinkNest RX4 153 yX0_bytesToWrite RX5 ∈ nw := mnc (in_3 (List.mem_of_getElem? (i := 68) rfl)) rfl
theorem wq_679 : Cond.instanceMethod yX0_bytesToWrite ∈ gw := mgc (in_3 (List.mem_of_getElem? (i := 70) rfl)) rfl
theorem wq_680 : Cond.code yX0_bytesToWrite cX0_bytesToWrite 3 (some FieldType.int) ∈ gw := mgc (in_3 (List.mem_of_getElem? (i := 71) rfl)) rfl
theorem wn_681 : Cond.methodLinkNest RX4 168 yX2_fillCommit RX5 ∈ nw := mnc (in_3 (List.mem_of_getElem? (i := 72) rfl)) rfl
theorem wq_683 : Cond.instanceMethod yX2_fillCommit ∈ gw := mgc (in_3 (List.mem_of_getElem? (i := 74) rfl)) rfl
theorem wq_684 : Cond.code yX2_fillCommit cX2_fillCommit 2 (none : Option FieldType) ∈ gw := mgc (in_3 (List.mem_of_getElem? (i := 75) rfl)) rfl
theorem wq_685 : Cond.methodLink RL 64 yX5_abort ∈ gw := mgc (in_3 (List.mem_of_getElem? (i := 76) rfl)) rfl
theorem wq_686 : Cond.instanceMethod yX5_abort ∈ gw := mgc (in_3 (List.mem_of_getElem? (i := 77) rfl)) rfl
theorem wq_687 : Cond.selects RX5 yX5_abort yX5_abort ∈ gw := mgc (in_3 (List.mem_of_getElem? (i := 78) rfl)) rfl
theorem wq_688 : Cond.code yX5_abort cX5_abort 2 (some FieldType.int) ∈ gw := mgc (in_3 (List.mem_of_getElem? (i := 79) rfl)) rfl
theorem wq_689 : Cond.methodLink RL 68 yX5_get ∈ gw := mgc (in_3 (List.mem_of_getElem? (i := 80) rfl)) rfl
theorem wq_690 : Cond.instanceMethod yX5_get ∈ gw := mgc (in_3 (List.mem_of_getElem? (i := 81) rfl)) rfl
theorem wq_691 : Cond.selects RX5 yX5_get yX5_get ∈ gw := mgc (in_3 (List.mem_of_getElem? (i := 82) rfl)) rfl
theorem wq_692 : Cond.code yX5_get cX5_get 2 (some FieldType.long) ∈ gw := mgc (in_3 (List.mem_of_getElem? (i := 83) rfl)) rfl
theorem wq_693 : Cond.methodLink RX5 95 yX5_isTag ∈ gw := mgc (in_3 (List.mem_of_getElem? (i := 84) rfl)) rfl
theorem wq_694 : Cond.constantLong RX5 98 (-1 : Int64) ∈ gw := mgc (in_3 (List.mem_of_getElem? (i := 85) rfl)) rfl
theorem wn_695 : Cond.methodLinkNest RX5 100 yX4_look RX5 ∈ nw := mnc (in_3 (List.mem_of_getElem? (i := 86) rfl)) rfl
theorem wn_696 : Cond.methodLinkNest RX5 104 yX3_newestValue RX5 ∈ nw := mnc (in_3 (List.mem_of_getElem? (i := 87) rfl)) rfl
theorem wq_697 : Cond.methodLink RL 73 yX5_length ∈ gw := mgc (in_3 (List.mem_of_getElem? (i := 88) rfl)) rfl
theorem wq_698 : Cond.instanceMethod yX5_length ∈ gw := mgc (in_3 (List.mem_of_getElem? (i := 89) rfl)) rfl
theorem wq_699 : Cond.selects RX5 yX5_length yX5_length ∈ gw := mgc (in_3 (List.mem_of_getElem? (i := 90) rfl)) rfl
theorem wq_700 : Cond.code yX5_length cX5_length 2 (some FieldType.int) ∈ gw := mgc (in_3 (List.mem_of_getElem? (i := 91) rfl)) rfl
theorem wn_701 : Cond.methodLinkNest RX5 110 yX3_newestLength RX5 ∈ nw := mnc (in_3 (List.mem_of_getElem? (i := 92) rfl)) rfl
theorem wq_702 : Cond.methodLink RL 77 yX5_hand ∈ gw := mgc (in_3 (List.mem_of_getElem? (i := 93) rfl)) rfl
theorem wq_703 : Cond.instanceMethod yX5_hand ∈ gw := mgc (in_3 (List.mem_of_getElem? (i := 94) rfl)) rfl
theorem wq_704 : Cond.selects RX5 yX5_hand yX5_hand ∈ gw := mgc (in_3 (List.mem_of_getElem? (i := 95) rfl)) rfl
theorem wq_705 : Cond.code yX5_hand cX5_hand 1 (some FieldType.int) ∈ gw := mgc (in_3 (List.mem_of_getElem? (i := 96) rfl)) rfl
theorem wn_706 : Cond.methodLinkNest RX5 113 yX4_handOverByHand RX5 ∈ nw := mnc (in_3 (List.mem_of_getElem? (i := 97) rfl)) rfl
theorem wq_708 : Cond.instanceMethod yX4_handOverByHand ∈ gw := mgc (in_3 (List.mem_of_getElem? (i := 99) rfl)) rfl
theorem wq_709 : Cond.code yX4_handOverByHand cX4_handOverByHand 1 (some FieldType.int) ∈ gw := mgc (in_3 (List.mem_of_getElem? (i := 100) rfl)) rfl
theorem wq_710 : Cond.methodLink RL 87 yX5_sector ∈ gw := mgc (in_3 (List.mem_of_getElem? (i := 101) rfl)) rfl
theorem wq_711 : Cond.instanceMethod yX5_sector ∈ gw := mgc (in_3 (List.mem_of_getElem? (i := 102) rfl)) rfl
theorem wq_712 : Cond.selects RX5 yX5_sector yX5_sector ∈ gw := mgc (in_3 (List.mem_of_getElem? (i := 103) rfl)) rfl
theorem wq_713 : Cond.code yX5_sector cX5_sector 4 (some FieldType.int) ∈ gw := mgc (in_3 (List.mem_of_getElem? (i := 104) rfl)) rfl
theorem wn_714 : Cond.methodLinkNest RX5 127 yX1_hasSector RX5 ∈ nw := mnc (in_3 (List.mem_of_getElem? (i := 105) rfl)) rfl
theorem wn_715 : Cond.methodLinkNest RX5 123 yX1_peek RX5 ∈ nw := mnc (in_3 (List.mem_of_getElem? (i := 106) rfl)) rfl
theorem wn_716 : Cond.methodLinkNest RX5 130 yX1_numberOf RX5 ∈ nw := mnc (in_3 (List.mem_of_getElem? (i := 107) rfl)) rfl
theorem wn_717 : Cond.methodLinkNest RX5 133 yX1_erasesOf RX5 ∈ nw := mnc (in_3 (List.mem_of_getElem? (i := 108) rfl)) rfl
theorem wn_718 : Cond.methodLinkNest RX5 136 yX1_isBlank RX5 ∈ nw := mnc (in_3 (List.mem_of_getElem? (i := 109) rfl)) rfl
theorem wq_719 : Cond.methodLink RL 91 yX5_entry ∈ gw := mgc (in_3 (List.mem_of_getElem? (i := 110) rfl)) rfl
theorem wq_720 : Cond.instanceMethod yX5_entry ∈ gw := mgc (in_3 (List.mem_of_getElem? (i := 111) rfl)) rfl
theorem wq_721 : Cond.selects RX5 yX5_entry yX5_entry ∈ gw := mgc (in_3 (List.mem_of_getElem? (i := 112) rfl)) rfl
theorem wq_722 : Cond.code yX5_entry cX5_entry 5 (some FieldType.int) ∈ gw := mgc (in_3 (List.mem_of_getElem? (i := 113) rfl)) rfl
theorem wn_723 : Cond.methodLinkNest RX5 146 yX3_scan RX5 ∈ nw := mnc (in_3 (List.mem_of_getElem? (i := 114) rfl)) rfl
theorem wn_724 : Cond.methodLinkNest RX5 153 yX3_tell RX5 ∈ nw := mnc (in_3 (List.mem_of_getElem? (i := 115) rfl)) rfl
theorem wq_726 : Cond.instanceMethod yX3_tell ∈ gw := mgc (in_3 (List.mem_of_getElem? (i := 117) rfl)) rfl
theorem wq_727 : Cond.code yX3_tell cX3_tell 3 (some FieldType.int) ∈ gw := mgc (in_3 (List.mem_of_getElem? (i := 118) rfl)) rfl
theorem wq_728 : Cond.methodLink RL 95 yX5_space ∈ gw := mgc (in_3 (List.mem_of_getElem? (i := 119) rfl)) rfl
theorem wq_729 : Cond.instanceMethod yX5_space ∈ gw := mgc (in_3 (List.mem_of_getElem? (i := 120) rfl)) rfl
theorem wq_730 : Cond.selects RX5 yX5_space yX5_space ∈ gw := mgc (in_3 (List.mem_of_getElem? (i := 121) rfl)) rfl
theorem wq_731 : Cond.code yX5_space cX5_space 4 (some FieldType.int) ∈ gw := mgc (in_3 (List.mem_of_getElem? (i := 122) rfl)) rfl
theorem wn_732 : Cond.methodLinkNest RX5 161 yX3_valuedBytes RX5 ∈ nw := mnc (in_3 (List.mem_of_getElem? (i := 123) rfl)) rfl
theorem wn_733 : Cond.methodLinkNest RX5 164 yX3_allBytes RX5 ∈ nw := mnc (in_3 (List.mem_of_getElem? (i := 124) rfl)) rfl
theorem wq_735 : Cond.instanceMethod yX3_allBytes ∈ gw := mgc (in_3 (List.mem_of_getElem? (i := 126) rfl)) rfl
theorem wq_736 : Cond.code yX3_allBytes cX3_allBytes 3 (some FieldType.int) ∈ gw := mgc (in_3 (List.mem_of_getElem? (i := 127) rfl)) rfl
theorem wq_737 : Cond.methodLink RL 99 yX5_until ∈ gw := mgc (in_3 (List.mem_of_getElem? (i := 128) rfl)) rfl
theorem wq_738 : Cond.instanceMethod yX5_until ∈ gw := mgc (in_3 (List.mem_of_getElem? (i := 129) rfl)) rfl
theorem wq_739 : Cond.selects RX5 yX5_until yX5_until ∈ gw := mgc (in_3 (List.mem_of_getElem? (i := 130) rfl)) rfl
theorem wq_740 : Cond.code yX5_until cX5_until 2 (some FieldType.int) ∈ gw := mgc (in_3 (List.mem_of_getElem? (i := 131) rfl)) rfl
theorem wn_741 : Cond.methodLinkNest RX5 167 yX3_freeBytes RX5 ∈ nw := mnc (in_3 (List.mem_of_getElem? (i := 132) rfl)) rfl
theorem wq_742 : Cond.methodLink RL 103 yX5_after ∈ gw := mgc (in_3 (List.mem_of_getElem? (i := 133) rfl)) rfl
theorem wq_743 : Cond.instanceMethod yX5_after ∈ gw := mgc (in_3 (List.mem_of_getElem? (i := 134) rfl)) rfl
theorem wq_744 : Cond.selects RX5 yX5_after yX5_after ∈ gw := mgc (in_3 (List.mem_of_getElem? (i := 135) rfl)) rfl
theorem wq_745 : Cond.code yX5_after cX5_after 1 (some FieldType.int) ∈ gw := mgc (in_3 (List.mem_of_getElem? (i := 136) rfl)) rfl
theorem wn_746 : Cond.methodLinkNest RX5 170 yX3_freeBehindHandover RX5 ∈ nw := mnc (in_3 (List.mem_of_getElem? (i := 137) rfl)) rfl
theorem wq_747 : Cond.methodLink RL 107 yX5_costs ∈ gw := mgc (in_3 (List.mem_of_getElem? (i := 138) rfl)) rfl
theorem wq_748 : Cond.instanceMethod yX5_costs ∈ gw := mgc (in_3 (List.mem_of_getElem? (i := 139) rfl)) rfl
theorem wq_749 : Cond.selects RX5 yX5_costs yX5_costs ∈ gw := mgc (in_3 (List.mem_of_getElem? (i := 140) rfl)) rfl
theorem wq_750 : Cond.code yX5_costs cX5_costs 2 (some FieldType.int) ∈ gw := mgc (in_3 (List.mem_of_getElem? (i := 141) rfl)) rfl
theorem wn_751 : Cond.methodLinkNest RX5 173 yX4_costOf RX5 ∈ nw := mnc (in_3 (List.mem_of_getElem? (i := 142) rfl)) rfl
theorem wq_753 : Cond.instanceMethod yX4_costOf ∈ gw := mgc (in_3 (List.mem_of_getElem? (i := 144) rfl)) rfl
theorem wq_754 : Cond.code yX4_costOf cX4_costOf 2 (some FieldType.int) ∈ gw := mgc (in_3 (List.mem_of_getElem? (i := 145) rfl)) rfl
theorem wq_755 : Cond.methodLink RX4 202 yX4_handoverDoings ∈ gw := mgc (in_3 (List.mem_of_getElem? (i := 146) rfl)) rfl
theorem wq_757 : Cond.instanceMethod yX4_handoverDoings ∈ gw := mgc (in_3 (List.mem_of_getElem? (i := 148) rfl)) rfl
theorem wq_758 : Cond.code yX4_handoverDoings cX4_handoverDoings 3 (some FieldType.int) ∈ gw := mgc (in_3 (List.mem_of_getElem? (i := 149) rfl)) rfl
theorem wn_759 : Cond.methodLinkNest RX4 205 yX3_copyWrites RX5 ∈ nw := mnc (in_3 (List.mem_of_getElem? (i := 150) rfl)) rfl
theorem wq_761 : Cond.instanceMethod yX3_copyWrites ∈ gw := mgc (in_3 (List.mem_of_getElem? (i := 152) rfl)) rfl
theorem wq_762 : Cond.code yX3_copyWrites cX3_copyWrites 3 (some FieldType.int) ∈ gw := mgc (in_3 (List.mem_of_getElem? (i := 153) rfl)) rfl
theorem wq_763 : Cond.methodLink RL 111 yX5_torn ∈ gw := mgc (in_3 (List.mem_of_getElem? (i := 154) rfl)) rfl
theorem wq_764 : Cond.instanceMethod yX5_torn ∈ gw := mgc (in_3 (List.mem_of_getElem? (i := 155) rfl)) rfl
theorem wq_765 : Cond.selects RX5 yX5_torn yX5_torn ∈ gw := mgc (in_3 (List.mem_of_getElem? (i := 156) rfl)) rfl
theorem wq_766 : Cond.code yX5_torn cX5_torn 8 (some FieldType.long) ∈ gw := mgc (in_3 (List.mem_of_getElem? (i := 157) rfl)) rfl
theorem wn_767 : Cond.methodLinkNest RX5 176 yX4_copyFrom RX5 ∈ nw := mnc (in_3 (List.mem_of_getElem? (i := 158) rfl)) rfl
theorem wq_769 : Cond.instanceMethod yX4_copyFrom ∈ gw := mgc (in_3 (List.mem_of_getElem? (i := 160) rfl)) rfl
theorem wq_770 : Cond.code yX4_copyFrom cX4_copyFrom 2 (none : Option FieldType) ∈ gw := mgc (in_3 (List.mem_of_getElem? (i := 161) rfl)) rfl
theorem wn_771 : Cond.methodLinkNest RX4 53 yX1_copyFrom RX5 ∈ nw := mnc (in_3 (List.mem_of_getElem? (i := 162) rfl)) rfl
theorem wq_773 : Cond.instanceMethod yX1_copyFrom ∈ gw := mgc (in_3 (List.mem_of_getElem? (i := 164) rfl)) rfl
theorem wq_774 : Cond.code yX1_copyFrom cX1_copyFrom 2 (none : Option FieldType) ∈ gw := mgc (in_3 (List.mem_of_getElem? (i := 165) rfl)) rfl
theorem wq_775 : Cond.methodLink RX1 50 arraycopyName ∈ gw := mgc (in_3 (List.mem_of_getElem? (i := 166) rfl)) rfl
theorem wq_776 : Cond.static arraycopyName ∈ gw := mgc (in_3 (List.mem_of_getElem? (i := 167) rfl)) rfl
theorem wq_777 : Cond.native arraycopyName ∈ gw := mgc (in_3 (List.mem_of_getElem? (i := 168) rfl)) rfl
theorem wq_778 : Cond.methodLink RL 116 yX5_history ∈ gw := mgc (in_3 (List.mem_of_getElem? (i := 169) rfl)) rfl
theorem wq_779 : Cond.instanceMethod yX5_history ∈ gw := mgc (in_3 (List.mem_of_getElem? (i := 170) rfl)) rfl
theorem wq_780 : Cond.selects RX5 yX5_history yX5_history ∈ gw := mgc (in_3 (List.mem_of_getElem? (i := 171) rfl)) rfl
theorem wq_781 : Cond.code yX5_history cX5_history 4 (some FieldType.long) ∈ gw := mgc (in_3 (List.mem_of_getElem? (i := 172) rfl)) rfl
theorem wn_782 : Cond.methodLinkNest RX5 183 yX3_tellingOf RX5 ∈ nw := mnc (in_3 (List.mem_of_getElem? (i := 173) rfl)) rfl
theorem wq_784 : Cond.instanceMethod yX3_tellingOf ∈ gw := mgc (in_3 (List.mem_of_getElem? (i := 175) rfl)) rfl
theorem wq_785 : Cond.code yX3_tellingOf cX3_tellingOf 4 (some FieldType.int) ∈ gw := mgc (in_3 (List.mem_of_getElem? (i := 176) rfl)) rfl
theorem wq_786 : Cond.methodLink RX3 131 yX3_tells ∈ gw := mgc (in_3 (List.mem_of_getElem? (i := 177) rfl)) rfl
theorem wq_788 : Cond.instanceMethod yX3_tells ∈ gw := mgc (in_3 (List.mem_of_getElem? (i := 179) rfl)) rfl
theorem wq_789 : Cond.code yX3_tells cX3_tells 3 (some FieldType.boolean) ∈ gw := mgc (in_3 (List.mem_of_getElem? (i := 180) rfl)) rfl
theorem wn_790 : Cond.methodLinkNest RX5 186 yX3_earlierValue RX5 ∈ nw := mnc (in_3 (List.mem_of_getElem? (i := 181) rfl)) rfl
theorem wq_792 : Cond.instanceMethod yX3_earlierValue ∈ gw := mgc (in_3 (List.mem_of_getElem? (i := 183) rfl)) rfl
theorem wq_793 : Cond.code yX3_earlierValue cX3_earlierValue 5 (some FieldType.long) ∈ gw := mgc (in_3 (List.mem_of_getElem? (i := 184) rfl)) rfl
theorem wq_794 : Cond.constantLong RX3 135 (-5 : Int64) ∈ gw := mgc (in_3 (List.mem_of_getElem? (i := 185) rfl)) rfl
theorem wq_795 : Cond.methodLink RL 121 yX5_wears ∈ gw := mgc (in_3 (List.mem_of_getElem? (i := 186) rfl)) rfl
theorem wq_796 : Cond.instanceMethod yX5_wears ∈ gw := mgc (in_3 (List.mem_of_getElem? (i := 187) rfl)) rfl
theorem wq_797 : Cond.selects RX5 yX5_wears yX5_wears ∈ gw := mgc (in_3 (List.mem_of_getElem? (i := 188) rfl)) rfl
theorem wq_798 : Cond.code yX5_wears cX5_wears 3 (some FieldType.int) ∈ gw := mgc (in_3 (List.mem_of_getElem? (i := 189) rfl)) rfl
theorem wn_799 : Cond.methodLinkNest RX5 190 yX4_wearOut RX5 ∈ nw := mnc (in_3 (List.mem_of_getElem? (i := 190) rfl)) rfl
theorem wq_801 : Cond.instanceMethod yX4_wearOut ∈ gw := mgc (in_3 (List.mem_of_getElem? (i := 192) rfl)) rfl
theorem wq_802 : Cond.code yX4_wearOut cX4_wearOut 4 (none : Option FieldType) ∈ gw := mgc (in_3 (List.mem_of_getElem? (i := 193) rfl)) rfl
theorem wn_803 : Cond.methodLinkNest RX4 208 yX1_hasSector RX5 ∈ nw := mnc (in_3 (List.mem_of_getElem? (i := 194) rfl)) rfl
theorem wn_804 : Cond.methodLinkNest RX5 194 yX1_mostErases RX5 ∈ nw := mnc (in_3 (List.mem_of_getElem? (i := 195) rfl)) rfl
theorem wq_806 : Cond.instanceMethod yX1_mostErases ∈ gw := mgc (in_3 (List.mem_of_getElem? (i := 197) rfl)) rfl
theorem wq_807 : Cond.code yX1_mostErases cX1_mostErases 3 (some FieldType.int) ∈ gw := mgc (in_3 (List.mem_of_getElem? (i := 198) rfl)) rfl
theorem wq_808 : Cond.methodLink RX1 107 Lib.Math.max.name ∈ gw := mgc (in_3 (List.mem_of_getElem? (i := 199) rfl)) rfl
theorem wq_809 : Cond.static Lib.Math.max.name ∈ gw := mgc (in_3 (List.mem_of_getElem? (i := 200) rfl)) rfl
theorem wq_810 : Cond.code Lib.Math.max.name cJ9_max_7cf53 2 (some FieldType.int) ∈ gw := mgc (in_3 (List.mem_of_getElem? (i := 201) rfl)) rfl
theorem wn_811 : Cond.methodLinkNest RX5 197 yX1_fewestErases RX5 ∈ nw := mnc (in_3 (List.mem_of_getElem? (i := 202) rfl)) rfl
theorem wq_813 : Cond.instanceMethod yX1_fewestErases ∈ gw := mgc (in_3 (List.mem_of_getElem? (i := 204) rfl)) rfl
theorem wq_814 : Cond.code yX1_fewestErases cX1_fewestErases 1 (some FieldType.int) ∈ gw := mgc (in_3 (List.mem_of_getElem? (i := 205) rfl)) rfl
theorem wq_815 : Cond.methodLink RX1 112 yX1_leastErased ∈ gw := mgc (in_3 (List.mem_of_getElem? (i := 206) rfl)) rfl
theorem wq_816 : Cond.methodLink RL 125 yX5_wear ∈ gw := mgc (in_3 (List.mem_of_getElem? (i := 207) rfl)) rfl
theorem wq_817 : Cond.instanceMethod yX5_wear ∈ gw := mgc (in_3 (List.mem_of_getElem? (i := 208) rfl)) rfl
theorem wq_818 : Cond.selects RX5 yX5_wear yX5_wear ∈ gw := mgc (in_3 (List.mem_of_getElem? (i := 209) rfl)) rfl
theorem wq_819 : Cond.code yX5_wear cX5_wear 3 (some FieldType.int) ∈ gw := mgc (in_3 (List.mem_of_getElem? (i := 210) rfl)) rfl
theorem wn_820 : Cond.methodLinkNest RX5 200 yX1_allErases RX5 ∈ nw := mnc (in_3 (List.mem_of_getElem? (i := 211) rfl)) rfl
theorem wq_822 : Cond.instanceMethod yX1_allErases ∈ gw := mgc (in_3 (List.mem_of_getElem? (i := 213) rfl)) rfl
theorem wq_823 : Cond.code yX1_allErases cX1_allErases 3 (some FieldType.int) ∈ gw := mgc (in_3 (List.mem_of_getElem? (i := 214) rfl)) rfl
theorem wq_824 : Cond.methodLink RX5 206 yX5_unevenness ∈ gw := mgc (in_3 (List.mem_of_getElem? (i := 215) rfl)) rfl
theorem wq_825 : Cond.static yX5_unevenness ∈ gw := mgc (in_3 (List.mem_of_getElem? (i := 216) rfl)) rfl
theorem wq_826 : Cond.code yX5_unevenness cX5_unevenness 3 (some FieldType.int) ∈ gw := mgc (in_3 (List.mem_of_getElem? (i := 217) rfl)) rfl
theorem wq_827 : Cond.methodLink RX5 229 yX5_bitsOf ∈ gw := mgc (in_3 (List.mem_of_getElem? (i := 218) rfl)) rfl
theorem wq_828 : Cond.static yX5_bitsOf ∈ gw := mgc (in_3 (List.mem_of_getElem? (i := 219) rfl)) rfl
theorem wq_829 : Cond.code yX5_bitsOf cX5_bitsOf 4 (some FieldType.int) ∈ gw := mgc (in_3 (List.mem_of_getElem? (i := 220) rfl)) rfl
theorem wq_830 : Cond.constantFloat RX5 233 (1258291200 : UInt32) ∈ gw := mgc (in_3 (List.mem_of_getElem? (i := 221) rfl)) rfl
theorem wq_831 : Cond.methodLink RL 129 yX5_tags ∈ gw := mgc (in_3 (List.mem_of_getElem? (i := 222) rfl)) rfl
theorem wq_832 : Cond.instanceMethod yX5_tags ∈ gw := mgc (in_3 (List.mem_of_getElem? (i := 223) rfl)) rfl
theorem wq_833 : Cond.selects RX5 yX5_tags yX5_tags ∈ gw := mgc (in_3 (List.mem_of_getElem? (i := 224) rfl)) rfl
theorem wq_834 : Cond.code yX5_tags cX5_tags 1 (some FieldType.long) ∈ gw := mgc (in_3 (List.mem_of_getElem? (i := 225) rfl)) rfl
theorem wn_835 : Cond.methodLinkNest RX5 210 yX3_valuedTags RX5 ∈ nw := mnc (in_3 (List.mem_of_getElem? (i := 226) rfl)) rfl
theorem wq_836 : Cond.methodLink RL 134 yX5_count ∈ gw := mgc (in_3 (List.mem_of_getElem? (i := 227) rfl)) rfl
theorem wq_837 : Cond.instanceMethod yX5_count ∈ gw := mgc (in_3 (List.mem_of_getElem? (i := 228) rfl)) rfl
theorem wq_838 : Cond.selects RX5 yX5_count yX5_count ∈ gw := mgc (in_3 (List.mem_of_getElem? (i := 229) rfl)) rfl
theorem wq_839 : Cond.code yX5_count cX5_count 2 (some FieldType.int) ∈ gw := mgc (in_3 (List.mem_of_getElem? (i := 230) rfl)) rfl
theorem wq_840 : Cond.methodLink RL 81 yL_at ∈ gw := mgc (in_3 (List.mem_of_getElem? (i := 231) rfl)) rfl
theorem wq_841 : Cond.static yL_at ∈ gw := mgc (in_3 (List.mem_of_getElem? (i := 232) rfl)) rfl
theorem wq_843 : Cond.classLink RL 13 "java/util/NoSuchElementException" ∈ gw := mgc (in_3 (List.mem_of_getElem? (i := 234) rfl)) rfl
theorem wq_844 : Cond.methodLink RL 7 yX5_at ∈ gw := mgc (in_3 (List.mem_of_getElem? (i := 235) rfl)) rfl
theorem wq_845 : Cond.instanceMethod yX5_at ∈ gw := mgc (in_3 (List.mem_of_getElem? (i := 236) rfl)) rfl
theorem wq_846 : Cond.selects RX5 yX5_at yX5_at ∈ gw := mgc (in_3 (List.mem_of_getElem? (i := 237) rfl)) rfl
theorem wq_847 : Cond.code yX5_at cX5_at 3 (some FieldType.int) ∈ gw := mgc (in_3 (List.mem_of_getElem? (i := 238) rfl)) rfl
theorem wq_848 : Cond.classLink RX5 116 "java/util/NoSuchElementException" ∈ gw := mgc (in_3 (List.mem_of_getElem? (i := 239) rfl)) rfl
theorem wq_849 : Cond.instantiable "java/util/NoSuchElementException" 6 ∈ gw := mgc (in_4 (List.mem_of_getElem? (i := 0) rfl)) rfl
theorem wq_857 : Cond.selects "java/util/NoSuchElementException" ⟨"java/lang/Throwable", "fillInStackTrace", "(I)Ljava/lang/Throwable;"⟩ ⟨"java/lang/Throwable", "fillInStackTrace", "(I)Ljava/lang/Throwable;"⟩ ∈ gw := mgc (in_4 (List.mem_of_getElem? (i := 8) rfl)) rfl
theorem wq_858 : Cond.selects "java/util/NoSuchElementException" ⟨"java/lang/Throwable", "fillInStackTrace", "()Ljava/lang/Throwable;"⟩ ⟨"java/lang/Throwable", "fillInStackTrace", "()Ljava/lang/Throwable;"⟩ ∈ gw := mgc (in_4 (List.mem_of_getElem? (i := 9) rfl)) rfl
theorem wq_859 : Cond.lays "java/util/NoSuchElementException" "java/lang/Throwable" "cause" "Ljava/lang/Throwable;" ∈ gw := mgc (in_4 (List.mem_of_getElem? (i := 10) rfl)) rfl
theorem wq_860 : Cond.lays "java/lang/Throwable" "java/lang/Throwable" "cause" "Ljava/lang/Throwable;" ∈ gw := mgc (in_4 (List.mem_of_getElem? (i := 11) rfl)) rfl
theorem wq_861 : Cond.lays "java/util/NoSuchElementException" "java/lang/Throwable" "stackTrace" "[Ljava/lang/StackTraceElement;" ∈ gw := mgc (in_4 (List.mem_of_getElem? (i := 12) rfl)) rfl
theorem wq_862 : Cond.lays "java/lang/Throwable" "java/lang/Throwable" "stackTrace" "[Ljava/lang/StackTraceElement;" ∈ gw := mgc (in_4 (List.mem_of_getElem? (i := 13) rfl)) rfl
theorem wq_863 : Cond.lays "java/util/NoSuchElementException" "java/lang/Throwable" "suppressedExceptions" "Ljava/util/List;" ∈ gw := mgc (in_4 (List.mem_of_getElem? (i := 14) rfl)) rfl
theorem wq_864 : Cond.lays "java/lang/Throwable" "java/lang/Throwable" "suppressedExceptions" "Ljava/util/List;" ∈ gw := mgc (in_4 (List.mem_of_getElem? (i := 15) rfl)) rfl
theorem wq_865 : Cond.lays "java/util/NoSuchElementException" "java/lang/Throwable" "detailMessage" "Ljava/lang/String;" ∈ gw := mgc (in_4 (List.mem_of_getElem? (i := 16) rfl)) rfl
theorem wq_866 : Cond.lays "java/lang/Throwable" "java/lang/Throwable" "detailMessage" "Ljava/lang/String;" ∈ gw := mgc (in_4 (List.mem_of_getElem? (i := 17) rfl)) rfl
theorem wq_867 : Cond.lays "java/util/NoSuchElementException" "java/lang/Throwable" "backtrace" "Ljava/lang/Object;" ∈ gw := mgc (in_4 (List.mem_of_getElem? (i := 18) rfl)) rfl
theorem wq_868 : Cond.lays "java/lang/Throwable" "java/lang/Throwable" "backtrace" "Ljava/lang/Object;" ∈ gw := mgc (in_4 (List.mem_of_getElem? (i := 19) rfl)) rfl
theorem wq_869 : Cond.fieldLink "java/lang/Throwable" 198 "java/lang/Throwable" "backtrace" "Ljava/lang/Object;" ∈ gw := mgc (in_4 (List.mem_of_getElem? (i := 20) rfl)) rfl
theorem wq_871 : Cond.instanceMethod ⟨"java/lang/Throwable", "<init>", "()V"⟩ ∈ gw := mgc (in_4 (List.mem_of_getElem? (i := 22) rfl)) rfl
theorem wq_872 : Cond.code ⟨"java/lang/Throwable", "<init>", "()V"⟩ prog_20_method_1_code 1 (none : Option FieldType) ∈ gw := mgc (in_4 (List.mem_of_getElem? (i := 23) rfl)) rfl
theorem wq_873 : Cond.methodLink "java/lang/Throwable" 1 objectInit ∈ gw := mgc (in_4 (List.mem_of_getElem? (i := 24) rfl)) rfl
theorem wq_874 : Cond.fieldLink "java/lang/Throwable" 13 "java/lang/Throwable" "UNASSIGNED_STACK" "[Ljava/lang/StackTraceElement;" ∈ gw := mgc (in_4 (List.mem_of_getElem? (i := 25) rfl)) rfl
theorem wq_876 : Cond.fieldLink "java/lang/Throwable" 20 "java/lang/Throwable" "SUPPRESSED_SENTINEL" "Ljava/util/List;" ∈ gw := mgc (in_4 (List.mem_of_getElem? (i := 27) rfl)) rfl
theorem wq_878 : Cond.methodLink "java/lang/Throwable" 27 ⟨"java/lang/Throwable", "fillInStackTrace", "()Ljava/lang/Throwable;"⟩ ∈ gw := mgc (in_4 (List.mem_of_getElem? (i := 29) rfl)) rfl
theorem wq_879 : Cond.instanceMethod ⟨"java/lang/Throwable", "fillInStackTrace", "()Ljava/lang/Throwable;"⟩ ∈ gw := mgc (in_4 (List.mem_of_getElem? (i := 30) rfl)) rfl
theorem wq_882 : Cond.methodLink "java/lang/Throwable" 202 ⟨"java/lang/Throwable", "fillInStackTrace", "(I)Ljava/lang/Throwable;"⟩ ∈ gw := mgc (in_4 (List.mem_of_getElem? (i := 33) rfl)) rfl
theorem wq_884 : Cond.instanceMethod ⟨"java/lang/Throwable", "fillInStackTrace", "(I)Ljava/lang/Throwable;"⟩ ∈ gw := mgc (in_4 (List.mem_of_getElem? (i := 35) rfl)) rfl
theorem wq_885 : Cond.instantiable "java/lang/Throwable" 6 ∈ gw := mgc (in_4 (List.mem_of_getElem? (i := 36) rfl)) rfl
theorem wq_886 : Cond.native ⟨"java/lang/Throwable", "fillInStackTrace", "(I)Ljava/lang/Throwable;"⟩ ∈ gw := mgc (in_4 (List.mem_of_getElem? (i := 37) rfl)) rfl
theorem wq_888 : Cond.methodLink RX5 120 ⟨"java/util/NoSuchElementException", "<init>", "(Ljava/lang/String;)V"⟩ ∈ gw := mgc (in_4 (List.mem_of_getElem? (i := 39) rfl)) rfl
theorem wq_889 : Cond.instanceMethod ⟨"java/util/NoSuchElementException", "<init>", "(Ljava/lang/String;)V"⟩ ∈ gw := mgc (in_4 (List.mem_of_getElem? (i := 40) rfl)) rfl
theorem wq_890 : Cond.code ⟨"java/util/NoSuchElementException", "<init>", "(Ljava/lang/String;)V"⟩ prog_24_method_4_code 2 (none : Option FieldType) ∈ gw := mgc (in_4 (List.mem_of_getElem? (i := 41) rfl)) rfl
theorem wq_891 : Cond.methodLink "java/util/NoSuchElementException" 13 ⟨"java/lang/RuntimeException", "<init>", "(Ljava/lang/String;)V"⟩ ∈ gw := mgc (in_4 (List.mem_of_getElem? (i := 42) rfl)) rfl
theorem wq_892 : Cond.instanceMethod ⟨"java/lang/RuntimeException", "<init>", "(Ljava/lang/String;)V"⟩ ∈ gw := mgc (in_4 (List.mem_of_getElem? (i := 43) rfl)) rfl
theorem wq_893 : Cond.code ⟨"java/lang/RuntimeException", "<init>", "(Ljava/lang/String;)V"⟩ prog_17_method_2_code 2 (none : Option FieldType) ∈ gw := mgc (in_4 (List.mem_of_getElem? (i := 44) rfl)) rfl
theorem wq_894 : Cond.methodLink "java/lang/RuntimeException" 7 ⟨"java/lang/Exception", "<init>", "(Ljava/lang/String;)V"⟩ ∈ gw := mgc (in_4 (List.mem_of_getElem? (i := 45) rfl)) rfl
theorem wq_895 : Cond.instanceMethod ⟨"java/lang/Exception", "<init>", "(Ljava/lang/String;)V"⟩ ∈ gw := mgc (in_4 (List.mem_of_getElem? (i := 46) rfl)) rfl
theorem wq_896 : Cond.code ⟨"java/lang/Exception", "<init>", "(Ljava/lang/String;)V"⟩ prog_11_method_2_code 2 (none : Option FieldType) ∈ gw := mgc (in_4 (List.mem_of_getElem? (i := 47) rfl)) rfl
theorem wq_897 : Cond.methodLink "java/lang/Exception" 7 ⟨"java/lang/Throwable", "<init>", "(Ljava/lang/String;)V"⟩ ∈ gw := mgc (in_4 (List.mem_of_getElem? (i := 48) rfl)) rfl
theorem wq_898 : Cond.instanceMethod ⟨"java/lang/Throwable", "<init>", "(Ljava/lang/String;)V"⟩ ∈ gw := mgc (in_4 (List.mem_of_getElem? (i := 49) rfl)) rfl
theorem wq_899 : Cond.code ⟨"java/lang/Throwable", "<init>", "(Ljava/lang/String;)V"⟩ prog_20_method_2_code 2 (none : Option FieldType) ∈ gw := mgc (in_4 (List.mem_of_getElem? (i := 50) rfl)) rfl
theorem wq_900 : Cond.fieldLink "java/lang/Throwable" 198 "java/lang/Throwable" "backtrace" "Ljava/lang/Object;" ∈ gw := mgc (in_4 (List.mem_of_getElem? (i := 51) rfl)) rfl
theorem wq_901 : Cond.fieldLink "java/lang/Throwable" 31 "java/lang/Throwable" "detailMessage" "Ljava/lang/String;" ∈ gw := mgc (in_4 (List.mem_of_getElem? (i := 52) rfl)) rfl
theorem wq_902 : Cond.fieldLink "java/lang/Throwable" 7 "java/lang/Throwable" "cause" "Ljava/lang/Throwable;" ∈ gw := mgc (in_4 (List.mem_of_getElem? (i := 53) rfl)) rfl
theorem wq_903 : Cond.fieldLink "java/lang/Throwable" 17 "java/lang/Throwable" "stackTrace" "[Ljava/lang/StackTraceElement;" ∈ gw := mgc (in_4 (List.mem_of_getElem? (i := 54) rfl)) rfl
theorem wq_904 : Cond.fieldLink "java/lang/Throwable" 24 "java/lang/Throwable" "suppressedExceptions" "Ljava/util/List;" ∈ gw := mgc (in_4 (List.mem_of_getElem? (i := 55) rfl)) rfl
theorem wq_909 : Cond.lays "java/util/NoSuchElementException" "java/lang/Throwable" "depth" "I" ∈ gw := mgc (in_4 (List.mem_of_getElem? (i := 60) rfl)) rfl
theorem wq_913 : Cond.arrayClass Jvm.ClassFile.FieldType.byte ∈ gw := mgc (in_4 (List.mem_of_getElem? (i := 64) rfl)) rfl
theorem wq_914 : Cond.classLink RL 16 RX6 ∈ gw := mgc (in_4 (List.mem_of_getElem? (i := 65) rfl)) rfl
theorem wq_915 : Cond.instantiable RX6 15 ∈ gw := mgc (in_4 (List.mem_of_getElem? (i := 66) rfl)) rfl
theorem wq_916 : Cond.methodLink RL 18 yX6_init ∈ gw := mgc (in_4 (List.mem_of_getElem? (i := 67) rfl)) rfl
theorem wq_917 : Cond.instanceMethod yX6_init ∈ gw := mgc (in_4 (List.mem_of_getElem? (i := 68) rfl)) rfl
theorem wq_918 : Cond.code yX6_init cX6_init 1 (none : Option FieldType) ∈ gw := mgc (in_4 (List.mem_of_getElem? (i := 69) rfl)) rfl
theorem wq_919 : Cond.methodLink RX6 1 objectInit ∈ gw := mgc (in_4 (List.mem_of_getElem? (i := 70) rfl)) rfl
theorem wq_920 : Cond.methodLink RX6 31 yX6_makes ∈ gw := mgc (in_4 (List.mem_of_getElem? (i := 71) rfl)) rfl
theorem wq_922 : Cond.instanceMethod yX6_makes ∈ gw := mgc (in_4 (List.mem_of_getElem? (i := 73) rfl)) rfl
theorem wq_923 : Cond.code yX6_makes cX6_makes 4 (none : Option FieldType) ∈ gw := mgc (in_4 (List.mem_of_getElem? (i := 74) rfl)) rfl
theorem wq_924 : Cond.fieldLink RX6 7 "SettingStoreModel" "x" "[I" ∈ gw := mgc (in_4 (List.mem_of_getElem? (i := 75) rfl)) rfl
theorem wq_925 : Cond.fieldLink RX6 13 "SettingStoreModel" "kept" "[I" ∈ gw := mgc (in_4 (List.mem_of_getElem? (i := 76) rfl)) rfl
theorem wq_926 : Cond.fieldLink RX6 35 "SettingStoreModel" "thrown" "I" ∈ gw := mgc (in_4 (List.mem_of_getElem? (i := 77) rfl)) rfl
theorem wq_927 : Cond.fieldLink RX6 43 "SettingStoreModel" "isGone" "Z" ∈ gw := mgc (in_4 (List.mem_of_getElem? (i := 78) rfl)) rfl
theorem wq_928 : Cond.fieldLink RX6 55 "SettingStoreModel" "entries" "I" ∈ gw := mgc (in_4 (List.mem_of_getElem? (i := 79) rfl)) rfl
theorem wq_929 : Cond.fieldLink RX6 82 "SettingStoreModel" "free" "I" ∈ gw := mgc (in_4 (List.mem_of_getElem? (i := 80) rfl)) rfl
theorem wq_930 : Cond.fieldLink RX6 58 "SettingStoreModel" "lost" "I" ∈ gw := mgc (in_4 (List.mem_of_getElem? (i := 81) rfl)) rfl
theorem wq_931 : Cond.fieldLink RX6 16 "SettingStoreModel" "place" "[I" ∈ gw := mgc (in_4 (List.mem_of_getElem? (i := 82) rfl)) rfl
theorem wq_932 : Cond.fieldLink RX6 19 "SettingStoreModel" "sort" "[I" ∈ gw := mgc (in_4 (List.mem_of_getElem? (i := 83) rfl)) rfl
theorem wq_933 : Cond.fieldLink RX6 22 "SettingStoreModel" "size" "[I" ∈ gw := mgc (in_4 (List.mem_of_getElem? (i := 84) rfl)) rfl
theorem wq_934 : Cond.fieldLink RX6 25 "SettingStoreModel" "state" "[I" ∈ gw := mgc (in_4 (List.mem_of_getElem? (i := 85) rfl)) rfl
theorem wq_935 : Cond.fieldLink RX6 28 "SettingStoreModel" "newest" "[I" ∈ gw := mgc (in_4 (List.mem_of_getElem? (i := 86) rfl)) rfl
theorem wq_936 : Cond.fieldLink RX6 151 "SettingStoreModel" "toSector" "I" ∈ gw := mgc (in_4 (List.mem_of_getElem? (i := 87) rfl)) rfl
theorem wq_937 : Cond.fieldLink RX6 154 "SettingStoreModel" "toPlace" "I" ∈ gw := mgc (in_4 (List.mem_of_getElem? (i := 88) rfl)) rfl
theorem wq_938 : Cond.fieldLink RX6 157 "SettingStoreModel" "sum" "I" ∈ gw := mgc (in_4 (List.mem_of_getElem? (i := 89) rfl)) rfl
theorem wq_939 : Cond.laysFinal RX6 "SettingStoreModel" "x" "[I" ∈ gw := mgc (in_4 (List.mem_of_getElem? (i := 90) rfl)) rfl
theorem wq_941 : Cond.laysFinal RX6 "SettingStoreModel" "kept" "[I" ∈ gw := mgc (in_4 (List.mem_of_getElem? (i := 92) rfl)) rfl
theorem wq_943 : Cond.lays RX6 "SettingStoreModel" "thrown" "I" ∈ gw := mgc (in_4 (List.mem_of_getElem? (i := 94) rfl)) rfl
theorem wq_945 : Cond.lays RX6 "SettingStoreModel" "isGone" "Z" ∈ gw := mgc (in_4 (List.mem_of_getElem? (i := 96) rfl)) rfl
theorem wq_947 : Cond.lays RX6 "SettingStoreModel" "entries" "I" ∈ gw := mgc (in_4 (List.mem_of_getElem? (i := 98) rfl)) rfl
theorem wq_949 : Cond.lays RX6 "SettingStoreModel" "free" "I" ∈ gw := mgc (in_4 (List.mem_of_getElem? (i := 100) rfl)) rfl
theorem wq_951 : Cond.lays RX6 "SettingStoreModel" "lost" "I" ∈ gw := mgc (in_4 (List.mem_of_getElem? (i := 102) rfl)) rfl
theorem wq_953 : Cond.laysFinal RX6 "SettingStoreModel" "place" "[I" ∈ gw := mgc (in_4 (List.mem_of_getElem? (i := 104) rfl)) rfl
theorem wq_955 : Cond.laysFinal RX6 "SettingStoreModel" "sort" "[I" ∈ gw := mgc (in_4 (List.mem_of_getElem? (i := 106) rfl)) rfl
theorem wq_957 : Cond.laysFinal RX6 "SettingStoreModel" "size" "[I" ∈ gw := mgc (in_4 (List.mem_of_getElem? (i := 108) rfl)) rfl
theorem wq_959 : Cond.laysFinal RX6 "SettingStoreModel" "state" "[I" ∈ gw := mgc (in_4 (List.mem_of_getElem? (i := 110) rfl)) rfl
theorem wq_961 : Cond.laysFinal RX6 "SettingStoreModel" "newest" "[I" ∈ gw := mgc (in_4 (List.mem_of_getElem? (i := 112) rfl)) rfl
theorem wq_963 : Cond.lays RX6 "SettingStoreModel" "toSector" "I" ∈ gw := mgc (in_4 (List.mem_of_getElem? (i := 114) rfl)) rfl
theorem wq_965 : Cond.lays RX6 "SettingStoreModel" "toPlace" "I" ∈ gw := mgc (in_4 (List.mem_of_getElem? (i := 116) rfl)) rfl
theorem wq_967 : Cond.lays RX6 "SettingStoreModel" "sum" "I" ∈ gw := mgc (in_4 (List.mem_of_getElem? (i := 118) rfl)) rfl
theorem wq_970 : Cond.methodLink RL 23 yX6_chip ∈ gw := mgc (in_4 (List.mem_of_getElem? (i := 121) rfl)) rfl
theorem wq_971 : Cond.instanceMethod yX6_chip ∈ gw := mgc (in_4 (List.mem_of_getElem? (i := 122) rfl)) rfl
theorem wq_972 : Cond.selects RX6 yX6_chip yX6_chip ∈ gw := mgc (in_4 (List.mem_of_getElem? (i := 123) rfl)) rfl
theorem wq_973 : Cond.code yX6_chip cX6_chip 3 (some FieldType.boolean) ∈ gw := mgc (in_4 (List.mem_of_getElem? (i := 124) rfl)) rfl
theorem wq_974 : Cond.methodLink RX6 39 yX6_within ∈ gw := mgc (in_4 (List.mem_of_getElem? (i := 125) rfl)) rfl
theorem wq_975 : Cond.static yX6_within ∈ gw := mgc (in_4 (List.mem_of_getElem? (i := 126) rfl)) rfl
theorem wq_976 : Cond.code yX6_within cX6_within 3 (some FieldType.boolean) ∈ gw := mgc (in_4 (List.mem_of_getElem? (i := 127) rfl)) rfl
theorem wq_977 : Cond.methodLink RL 28 yX6_on ∈ gw := mgc (in_4 (List.mem_of_getElem? (i := 128) rfl)) rfl
theorem wq_978 : Cond.instanceMethod yX6_on ∈ gw := mgc (in_4 (List.mem_of_getElem? (i := 129) rfl)) rfl
theorem wq_979 : Cond.selects RX6 yX6_on yX6_on ∈ gw := mgc (in_4 (List.mem_of_getElem? (i := 130) rfl)) rfl
theorem wq_980 : Cond.code yX6_on cX6_on 1 (some FieldType.int) ∈ gw := mgc (in_4 (List.mem_of_getElem? (i := 131) rfl)) rfl
theorem wq_981 : Cond.methodLink RX6 132 yX6_isOn ∈ gw := mgc (in_4 (List.mem_of_getElem? (i := 132) rfl)) rfl
theorem wq_983 : Cond.instanceMethod yX6_isOn ∈ gw := mgc (in_4 (List.mem_of_getElem? (i := 134) rfl)) rfl
theorem wq_984 : Cond.code yX6_isOn cX6_isOn 1 (some FieldType.boolean) ∈ gw := mgc (in_4 (List.mem_of_getElem? (i := 135) rfl)) rfl
theorem wq_985 : Cond.methodLink RX6 135 yX6_begins ∈ gw := mgc (in_4 (List.mem_of_getElem? (i := 136) rfl)) rfl
theorem wq_987 : Cond.instanceMethod yX6_begins ∈ gw := mgc (in_4 (List.mem_of_getElem? (i := 138) rfl)) rfl
theorem wq_988 : Cond.code yX6_begins cX6_begins 1 (none : Option FieldType) ∈ gw := mgc (in_4 (List.mem_of_getElem? (i := 139) rfl)) rfl
theorem wq_989 : Cond.methodLink RX6 138 yX6_switchesOn ∈ gw := mgc (in_4 (List.mem_of_getElem? (i := 140) rfl)) rfl
theorem wq_991 : Cond.instanceMethod yX6_switchesOn ∈ gw := mgc (in_4 (List.mem_of_getElem? (i := 142) rfl)) rfl
theorem wq_992 : Cond.code yX6_switchesOn cX6_switchesOn 2 (none : Option FieldType) ∈ gw := mgc (in_4 (List.mem_of_getElem? (i := 143) rfl)) rfl
theorem wq_993 : Cond.methodLink RX6 119 yX6_found ∈ gw := mgc (in_4 (List.mem_of_getElem? (i := 144) rfl)) rfl
theorem wq_995 : Cond.instanceMethod yX6_found ∈ gw := mgc (in_4 (List.mem_of_getElem? (i := 146) rfl)) rfl
theorem wq_996 : Cond.code yX6_found cX6_found 3 (some FieldType.int) ∈ gw := mgc (in_4 (List.mem_of_getElem? (i := 147) rfl)) rfl
theorem wq_997 : Cond.methodLink RX6 51 yX6_byteAt ∈ gw := mgc (in_4 (List.mem_of_getElem? (i := 148) rfl)) rfl
theorem wq_999 : Cond.instanceMethod yX6_byteAt ∈ gw := mgc (in_4 (List.mem_of_getElem? (i := 150) rfl)) rfl
theorem wq_1000 : Cond.code yX6_byteAt cX6_byteAt 3 (some FieldType.int) ∈ gw := mgc (in_4 (List.mem_of_getElem? (i := 151) rfl)) rfl
theorem wq_1001 : Cond.methodLink RX6 79 yX6_check ∈ gw := mgc (in_4 (List.mem_of_getElem? (i := 152) rfl)) rfl
theorem wq_1002 : Cond.static yX6_check ∈ gw := mgc (in_4 (List.mem_of_getElem? (i := 153) rfl)) rfl
theorem wq_1003 : Cond.code yX6_check cX6_check 1 (some FieldType.int) ∈ gw := mgc (in_4 (List.mem_of_getElem? (i := 154) rfl)) rfl
theorem wq_1004 : Cond.methodLink RX6 116 yX6_numberOf ∈ gw := mgc (in_4 (List.mem_of_getElem? (i := 155) rfl)) rfl
theorem wq_1006 : Cond.instanceMethod yX6_numberOf ∈ gw := mgc (in_4 (List.mem_of_getElem? (i := 157) rfl)) rfl
theorem wq_1007 : Cond.code yX6_numberOf cX6_numberOf 2 (some FieldType.int) ∈ gw := mgc (in_4 (List.mem_of_getElem? (i := 158) rfl)) rfl
theorem wq_1008 : Cond.methodLink RX6 123 yX6_erasesOthers ∈ gw := mgc (in_4 (List.mem_of_getElem? (i := 159) rfl)) rfl
theorem wq_1010 : Cond.instanceMethod yX6_erasesOthers ∈ gw := mgc (in_4 (List.mem_of_getElem? (i := 161) rfl)) rfl
theorem wq_1011 : Cond.code yX6_erasesOthers cX6_erasesOthers 3 (none : Option FieldType) ∈ gw := mgc (in_4 (List.mem_of_getElem? (i := 162) rfl)) rfl
theorem wq_1012 : Cond.methodLink RX6 61 yX6_isBlank ∈ gw := mgc (in_4 (List.mem_of_getElem? (i := 163) rfl)) rfl
theorem wq_1014 : Cond.instanceMethod yX6_isBlank ∈ gw := mgc (in_4 (List.mem_of_getElem? (i := 165) rfl)) rfl
theorem wq_1015 : Cond.code yX6_isBlank cX6_isBlank 4 (some FieldType.boolean) ∈ gw := mgc (in_4 (List.mem_of_getElem? (i := 166) rfl)) rfl
theorem wq_1016 : Cond.methodLink RX6 113 yX6_erases ∈ gw := mgc (in_4 (List.mem_of_getElem? (i := 167) rfl)) rfl
theorem wq_1018 : Cond.instanceMethod yX6_erases ∈ gw := mgc (in_4 (List.mem_of_getElem? (i := 169) rfl)) rfl
theorem wq_1019 : Cond.code yX6_erases cX6_erases 4 (none : Option FieldType) ∈ gw := mgc (in_4 (List.mem_of_getElem? (i := 170) rfl)) rfl
theorem wq_1020 : Cond.methodLink RX6 47 yX6_goes ∈ gw := mgc (in_4 (List.mem_of_getElem? (i := 171) rfl)) rfl
theorem wq_1022 : Cond.instanceMethod yX6_goes ∈ gw := mgc (in_4 (List.mem_of_getElem? (i := 173) rfl)) rfl
theorem wq_1023 : Cond.code yX6_goes cX6_goes 1 (some FieldType.boolean) ∈ gw := mgc (in_4 (List.mem_of_getElem? (i := 174) rfl)) rfl
theorem wq_1024 : Cond.methodLink RX6 126 yX6_leastErased ∈ gw := mgc (in_4 (List.mem_of_getElem? (i := 175) rfl)) rfl
theorem wq_1026 : Cond.instanceMethod yX6_leastErased ∈ gw := mgc (in_4 (List.mem_of_getElem? (i := 177) rfl)) rfl
theorem wq_1027 : Cond.code yX6_leastErased cX6_leastErased 4 (some FieldType.int) ∈ gw := mgc (in_4 (List.mem_of_getElem? (i := 178) rfl)) rfl
theorem wq_1028 : Cond.methodLink RX6 129 yX6_makesReady ∈ gw := mgc (in_4 (List.mem_of_getElem? (i := 179) rfl)) rfl
theorem wq_1030 : Cond.instanceMethod yX6_makesReady ∈ gw := mgc (in_4 (List.mem_of_getElem? (i := 181) rfl)) rfl
theorem wq_1031 : Cond.code yX6_makesReady cX6_makesReady 5 (none : Option FieldType) ∈ gw := mgc (in_4 (List.mem_of_getElem? (i := 182) rfl)) rfl
theorem wq_1032 : Cond.methodLink RX6 109 yX6_writes ∈ gw := mgc (in_4 (List.mem_of_getElem? (i := 183) rfl)) rfl
theorem wq_1034 : Cond.instanceMethod yX6_writes ∈ gw := mgc (in_4 (List.mem_of_getElem? (i := 185) rfl)) rfl
theorem wq_1035 : Cond.code yX6_writes cX6_writes 5 (none : Option FieldType) ∈ gw := mgc (in_4 (List.mem_of_getElem? (i := 186) rfl)) rfl
theorem wq_1036 : Cond.methodLink RX6 141 yX6_reads ∈ gw := mgc (in_4 (List.mem_of_getElem? (i := 187) rfl)) rfl
theorem wq_1038 : Cond.instanceMethod yX6_reads ∈ gw := mgc (in_4 (List.mem_of_getElem? (i := 189) rfl)) rfl
theorem wq_1039 : Cond.code yX6_reads cX6_reads 6 (none : Option FieldType) ∈ gw := mgc (in_4 (List.mem_of_getElem? (i := 190) rfl)) rfl
theorem wq_1040 : Cond.methodLink RX6 65 yX6_sortAt ∈ gw := mgc (in_4 (List.mem_of_getElem? (i := 191) rfl)) rfl
theorem wq_1042 : Cond.instanceMethod yX6_sortAt ∈ gw := mgc (in_4 (List.mem_of_getElem? (i := 193) rfl)) rfl
theorem wq_1043 : Cond.code yX6_sortAt cX6_sortAt 5 (some FieldType.int) ∈ gw := mgc (in_4 (List.mem_of_getElem? (i := 194) rfl)) rfl
theorem wq_1044 : Cond.methodLink RX6 68 yX6_sizeBy ∈ gw := mgc (in_4 (List.mem_of_getElem? (i := 195) rfl)) rfl
theorem wq_1046 : Cond.instanceMethod yX6_sizeBy ∈ gw := mgc (in_4 (List.mem_of_getElem? (i := 197) rfl)) rfl
theorem wq_1047 : Cond.code yX6_sizeBy cX6_sizeBy 3 (some FieldType.int) ∈ gw := mgc (in_4 (List.mem_of_getElem? (i := 198) rfl)) rfl
theorem wq_1048 : Cond.methodLink RX6 71 yX6_checked ∈ gw := mgc (in_4 (List.mem_of_getElem? (i := 199) rfl)) rfl
theorem wq_1050 : Cond.instanceMethod yX6_checked ∈ gw := mgc (in_4 (List.mem_of_getElem? (i := 201) rfl)) rfl
theorem wq_1051 : Cond.code yX6_checked cX6_checked 2 (some FieldType.int) ∈ gw := mgc (in_4 (List.mem_of_getElem? (i := 202) rfl)) rfl
theorem wq_1052 : Cond.methodLink RX6 75 yX6_sumOf ∈ gw := mgc (in_4 (List.mem_of_getElem? (i := 203) rfl)) rfl
theorem wq_1054 : Cond.instanceMethod yX6_sumOf ∈ gw := mgc (in_4 (List.mem_of_getElem? (i := 205) rfl)) rfl
theorem wq_1055 : Cond.code yX6_sumOf cX6_sumOf 6 (some FieldType.int) ∈ gw := mgc (in_4 (List.mem_of_getElem? (i := 206) rfl)) rfl
theorem wq_1056 : Cond.methodLink RX6 85 yX6_commits ∈ gw := mgc (in_4 (List.mem_of_getElem? (i := 207) rfl)) rfl
theorem wq_1058 : Cond.instanceMethod yX6_commits ∈ gw := mgc (in_4 (List.mem_of_getElem? (i := 209) rfl)) rfl
theorem wq_1059 : Cond.code yX6_commits cX6_commits 6 (none : Option FieldType) ∈ gw := mgc (in_4 (List.mem_of_getElem? (i := 210) rfl)) rfl
theorem wq_1060 : Cond.methodLink RX6 144 yX6_valued ∈ gw := mgc (in_4 (List.mem_of_getElem? (i := 211) rfl)) rfl
theorem wq_1062 : Cond.instanceMethod yX6_valued ∈ gw := mgc (in_4 (List.mem_of_getElem? (i := 213) rfl)) rfl
theorem wq_1063 : Cond.code yX6_valued cX6_valued 4 (some FieldType.int) ∈ gw := mgc (in_4 (List.mem_of_getElem? (i := 214) rfl)) rfl
theorem wq_1064 : Cond.methodLink RX6 106 yX6_hasValue ∈ gw := mgc (in_4 (List.mem_of_getElem? (i := 215) rfl)) rfl
theorem wq_1066 : Cond.instanceMethod yX6_hasValue ∈ gw := mgc (in_4 (List.mem_of_getElem? (i := 217) rfl)) rfl
theorem wq_1067 : Cond.code yX6_hasValue cX6_hasValue 3 (some FieldType.boolean) ∈ gw := mgc (in_4 (List.mem_of_getElem? (i := 218) rfl)) rfl
theorem wq_1068 : Cond.methodLink RX6 103 yX6_lengthOf ∈ gw := mgc (in_4 (List.mem_of_getElem? (i := 219) rfl)) rfl
theorem wq_1070 : Cond.instanceMethod yX6_lengthOf ∈ gw := mgc (in_4 (List.mem_of_getElem? (i := 221) rfl)) rfl
theorem wq_1071 : Cond.code yX6_lengthOf cX6_lengthOf 3 (some FieldType.int) ∈ gw := mgc (in_4 (List.mem_of_getElem? (i := 222) rfl)) rfl
theorem wq_1072 : Cond.methodLink RL 33 yX6_off ∈ gw := mgc (in_4 (List.mem_of_getElem? (i := 223) rfl)) rfl
theorem wq_1073 : Cond.instanceMethod yX6_off ∈ gw := mgc (in_4 (List.mem_of_getElem? (i := 224) rfl)) rfl
theorem wq_1074 : Cond.selects RX6 yX6_off yX6_off ∈ gw := mgc (in_4 (List.mem_of_getElem? (i := 225) rfl)) rfl
theorem wq_1075 : Cond.code yX6_off cX6_off 1 (some FieldType.boolean) ∈ gw := mgc (in_4 (List.mem_of_getElem? (i := 226) rfl)) rfl
theorem wq_1076 : Cond.methodLink RL 37 yX6_power ∈ gw := mgc (in_4 (List.mem_of_getElem? (i := 227) rfl)) rfl
theorem wq_1077 : Cond.instanceMethod yX6_power ∈ gw := mgc (in_4 (List.mem_of_getElem? (i := 228) rfl)) rfl
theorem wq_1078 : Cond.selects RX6 yX6_power yX6_power ∈ gw := mgc (in_4 (List.mem_of_getElem? (i := 229) rfl)) rfl
theorem wq_1079 : Cond.code yX6_power cX6_power 3 (some FieldType.boolean) ∈ gw := mgc (in_4 (List.mem_of_getElem? (i := 230) rfl)) rfl
theorem wq_1080 : Cond.methodLink RL 42 yX6_rot ∈ gw := mgc (in_4 (List.mem_of_getElem? (i := 231) rfl)) rfl
theorem wq_1081 : Cond.instanceMethod yX6_rot ∈ gw := mgc (in_4 (List.mem_of_getElem? (i := 232) rfl)) rfl
theorem wq_1082 : Cond.selects RX6 yX6_rot yX6_rot ∈ gw := mgc (in_4 (List.mem_of_getElem? (i := 233) rfl)) rfl
theorem wq_1083 : Cond.code yX6_rot cX6_rot 4 (some FieldType.int) ∈ gw := mgc (in_4 (List.mem_of_getElem? (i := 234) rfl)) rfl
theorem wq_1084 : Cond.methodLink RX6 147 yX6_isSector ∈ gw := mgc (in_4 (List.mem_of_getElem? (i := 235) rfl)) rfl
theorem wq_1086 : Cond.instanceMethod yX6_isSector ∈ gw := mgc (in_4 (List.mem_of_getElem? (i := 237) rfl)) rfl
theorem wq_1087 : Cond.code yX6_isSector cX6_isSector 2 (some FieldType.boolean) ∈ gw := mgc (in_4 (List.mem_of_getElem? (i := 238) rfl)) rfl
theorem wq_1088 : Cond.methodLink RL 46 yX6_set ∈ gw := mgc (in_4 (List.mem_of_getElem? (i := 239) rfl)) rfl
theorem wq_1089 : Cond.instanceMethod yX6_set ∈ gw := mgc (in_5 (List.mem_of_getElem? (i := 0) rfl)) rfl
theorem wq_1090 : Cond.selects RX6 yX6_set yX6_set ∈ gw := mgc (in_5 (List.mem_of_getElem? (i := 1) rfl)) rfl
theorem wq_1091 : Cond.code yX6_set cX6_set 4 (some FieldType.int) ∈ gw := mgc (in_5 (List.mem_of_getElem? (i := 2) rfl)) rfl
theorem wq_1092 : Cond.methodLink RX6 202 yX6_isSetting ∈ gw := mgc (in_5 (List.mem_of_getElem? (i := 3) rfl)) rfl
theorem wq_1094 : Cond.instanceMethod yX6_isSetting ∈ gw := mgc (in_5 (List.mem_of_getElem? (i := 5) rfl)) rfl
theorem wq_1095 : Cond.code yX6_isSetting cX6_isSetting 3 (some FieldType.boolean) ∈ gw := mgc (in_5 (List.mem_of_getElem? (i := 6) rfl)) rfl
theorem wq_1096 : Cond.methodLink RX6 205 yX6_sets ∈ gw := mgc (in_5 (List.mem_of_getElem? (i := 7) rfl)) rfl
theorem wq_1098 : Cond.instanceMethod yX6_sets ∈ gw := mgc (in_5 (List.mem_of_getElem? (i := 9) rfl)) rfl
theorem wq_1099 : Cond.code yX6_sets cX6_sets 4 (some FieldType.int) ∈ gw := mgc (in_5 (List.mem_of_getElem? (i := 10) rfl)) rfl
theorem wq_1100 : Cond.methodLink RX6 193 yX6_tells ∈ gw := mgc (in_5 (List.mem_of_getElem? (i := 11) rfl)) rfl
theorem wq_1102 : Cond.instanceMethod yX6_tells ∈ gw := mgc (in_5 (List.mem_of_getElem? (i := 13) rfl)) rfl
theorem wq_1103 : Cond.code yX6_tells cX6_tells 5 (some FieldType.int) ∈ gw := mgc (in_5 (List.mem_of_getElem? (i := 14) rfl)) rfl
theorem wq_1104 : Cond.methodLink RX6 190 yX6_inChange ∈ gw := mgc (in_5 (List.mem_of_getElem? (i := 15) rfl)) rfl
theorem wq_1106 : Cond.instanceMethod yX6_inChange ∈ gw := mgc (in_5 (List.mem_of_getElem? (i := 17) rfl)) rfl
theorem wq_1107 : Cond.code yX6_inChange cX6_inChange 3 (some FieldType.int) ∈ gw := mgc (in_5 (List.mem_of_getElem? (i := 18) rfl)) rfl
theorem wq_1108 : Cond.methodLink RX6 196 yX6_makesRoom ∈ gw := mgc (in_5 (List.mem_of_getElem? (i := 19) rfl)) rfl
theorem wq_1110 : Cond.instanceMethod yX6_makesRoom ∈ gw := mgc (in_5 (List.mem_of_getElem? (i := 21) rfl)) rfl
theorem wq_1111 : Cond.code yX6_makesRoom cX6_makesRoom 2 (some FieldType.boolean) ∈ gw := mgc (in_5 (List.mem_of_getElem? (i := 22) rfl)) rfl
theorem wq_1112 : Cond.methodLink RX6 181 yX6_freeNow ∈ gw := mgc (in_5 (List.mem_of_getElem? (i := 23) rfl)) rfl
theorem wq_1114 : Cond.instanceMethod yX6_freeNow ∈ gw := mgc (in_5 (List.mem_of_getElem? (i := 25) rfl)) rfl
theorem wq_1115 : Cond.code yX6_freeNow cX6_freeNow 1 (some FieldType.int) ∈ gw := mgc (in_5 (List.mem_of_getElem? (i := 26) rfl)) rfl
theorem wq_1116 : Cond.methodLink RX6 184 yX6_freeThen ∈ gw := mgc (in_5 (List.mem_of_getElem? (i := 27) rfl)) rfl
theorem wq_1118 : Cond.instanceMethod yX6_freeThen ∈ gw := mgc (in_5 (List.mem_of_getElem? (i := 29) rfl)) rfl
theorem wq_1119 : Cond.code yX6_freeThen cX6_freeThen 1 (some FieldType.int) ∈ gw := mgc (in_5 (List.mem_of_getElem? (i := 30) rfl)) rfl
theorem wq_1120 : Cond.methodLink RX6 178 yX6_sizeNext ∈ gw := mgc (in_5 (List.mem_of_getElem? (i := 31) rfl)) rfl
theorem wq_1122 : Cond.instanceMethod yX6_sizeNext ∈ gw := mgc (in_5 (List.mem_of_getElem? (i := 33) rfl)) rfl
theorem wq_1123 : Cond.code yX6_sizeNext cX6_sizeNext 4 (some FieldType.int) ∈ gw := mgc (in_5 (List.mem_of_getElem? (i := 34) rfl)) rfl
theorem wq_1124 : Cond.methodLink RX6 187 yX6_handsOver ∈ gw := mgc (in_5 (List.mem_of_getElem? (i := 35) rfl)) rfl
theorem wq_1126 : Cond.instanceMethod yX6_handsOver ∈ gw := mgc (in_5 (List.mem_of_getElem? (i := 37) rfl)) rfl
theorem wq_1127 : Cond.code yX6_handsOver cX6_handsOver 5 (none : Option FieldType) ∈ gw := mgc (in_5 (List.mem_of_getElem? (i := 38) rfl)) rfl
theorem wq_1128 : Cond.constant RX6 166 (65536 : Int32) ∈ gw := mgc (in_5 (List.mem_of_getElem? (i := 39) rfl)) rfl
theorem wq_1129 : Cond.methodLink RX6 167 yX6_valueOf ∈ gw := mgc (in_5 (List.mem_of_getElem? (i := 40) rfl)) rfl
theorem wq_1131 : Cond.instanceMethod yX6_valueOf ∈ gw := mgc (in_5 (List.mem_of_getElem? (i := 42) rfl)) rfl
theorem wq_1132 : Cond.code yX6_valueOf cX6_valueOf 4 (some FieldType.long) ∈ gw := mgc (in_5 (List.mem_of_getElem? (i := 43) rfl)) rfl
theorem wq_1133 : Cond.methodLink RX6 94 yX6_number ∈ gw := mgc (in_5 (List.mem_of_getElem? (i := 44) rfl)) rfl
theorem wq_1135 : Cond.instanceMethod yX6_number ∈ gw := mgc (in_5 (List.mem_of_getElem? (i := 46) rfl)) rfl
theorem wq_1136 : Cond.code yX6_number cX6_number 7 (some FieldType.long) ∈ gw := mgc (in_5 (List.mem_of_getElem? (i := 47) rfl)) rfl
theorem wq_1137 : Cond.methodLink RX6 98 yX6_zeros ∈ gw := mgc (in_5 (List.mem_of_getElem? (i := 48) rfl)) rfl
theorem wq_1139 : Cond.instanceMethod yX6_zeros ∈ gw := mgc (in_5 (List.mem_of_getElem? (i := 50) rfl)) rfl
theorem wq_1140 : Cond.code yX6_zeros cX6_zeros 5 (some FieldType.int) ∈ gw := mgc (in_5 (List.mem_of_getElem? (i := 51) rfl)) rfl
theorem wq_1141 : Cond.methodLink RX6 89 yJ6_bitCount_0f7a4 ∈ gw := mgc (in_5 (List.mem_of_getElem? (i := 52) rfl)) rfl
theorem wq_1142 : Cond.constantLong RX6 101 (-4 : Int64) ∈ gw := mgc (in_5 (List.mem_of_getElem? (i := 53) rfl)) rfl
theorem wq_1143 : Cond.methodLink RX6 171 yX6_laysCounter ∈ gw := mgc (in_5 (List.mem_of_getElem? (i := 54) rfl)) rfl
theorem wq_1145 : Cond.instanceMethod yX6_laysCounter ∈ gw := mgc (in_5 (List.mem_of_getElem? (i := 56) rfl)) rfl
theorem wq_1146 : Cond.code yX6_laysCounter cX6_laysCounter 3 (none : Option FieldType) ∈ gw := mgc (in_5 (List.mem_of_getElem? (i := 57) rfl)) rfl
theorem wq_1147 : Cond.methodLink RX6 160 yX6_lays ∈ gw := mgc (in_5 (List.mem_of_getElem? (i := 58) rfl)) rfl
theorem wq_1149 : Cond.instanceMethod yX6_lays ∈ gw := mgc (in_5 (List.mem_of_getElem? (i := 60) rfl)) rfl
theorem wq_1150 : Cond.code yX6_lays cX6_lays 2 (none : Option FieldType) ∈ gw := mgc (in_5 (List.mem_of_getElem? (i := 61) rfl)) rfl
theorem wq_1151 : Cond.methodLink RX6 163 yX6_laysCheck ∈ gw := mgc (in_5 (List.mem_of_getElem? (i := 62) rfl)) rfl
theorem wq_1153 : Cond.instanceMethod yX6_laysCheck ∈ gw := mgc (in_5 (List.mem_of_getElem? (i := 64) rfl)) rfl
theorem wq_1154 : Cond.code yX6_laysCheck cX6_laysCheck 1 (none : Option FieldType) ∈ gw := mgc (in_5 (List.mem_of_getElem? (i := 65) rfl)) rfl
theorem wq_1155 : Cond.methodLink RX6 174 yX6_laysSetting ∈ gw := mgc (in_5 (List.mem_of_getElem? (i := 66) rfl)) rfl
theorem wq_1157 : Cond.instanceMethod yX6_laysSetting ∈ gw := mgc (in_5 (List.mem_of_getElem? (i := 68) rfl)) rfl
theorem wq_1158 : Cond.code yX6_laysSetting cX6_laysSetting 7 (none : Option FieldType) ∈ gw := mgc (in_5 (List.mem_of_getElem? (i := 69) rfl)) rfl
theorem wq_1159 : Cond.methodLink RX6 199 yX6_told ∈ gw := mgc (in_5 (List.mem_of_getElem? (i := 70) rfl)) rfl
theorem wq_1161 : Cond.instanceMethod yX6_told ∈ gw := mgc (in_5 (List.mem_of_getElem? (i := 72) rfl)) rfl
theorem wq_1162 : Cond.code yX6_told cX6_told 1 (some FieldType.int) ∈ gw := mgc (in_5 (List.mem_of_getElem? (i := 73) rfl)) rfl
theorem wq_1163 : Cond.methodLink RL 51 yX6_drop ∈ gw := mgc (in_5 (List.mem_of_getElem? (i := 74) rfl)) rfl
theorem wq_1164 : Cond.instanceMethod yX6_drop ∈ gw := mgc (in_5 (List.mem_of_getElem? (i := 75) rfl)) rfl
theorem wq_1165 : Cond.selects RX6 yX6_drop yX6_drop ∈ gw := mgc (in_5 (List.mem_of_getElem? (i := 76) rfl)) rfl
theorem wq_1166 : Cond.code yX6_drop cX6_drop 4 (some FieldType.int) ∈ gw := mgc (in_5 (List.mem_of_getElem? (i := 77) rfl)) rfl
theorem wq_1167 : Cond.methodLink RL 55 yX6_bump ∈ gw := mgc (in_5 (List.mem_of_getElem? (i := 78) rfl)) rfl
theorem wq_1168 : Cond.instanceMethod yX6_bump ∈ gw := mgc (in_5 (List.mem_of_getElem? (i := 79) rfl)) rfl
theorem wq_1169 : Cond.selects RX6 yX6_bump yX6_bump ∈ gw := mgc (in_5 (List.mem_of_getElem? (i := 80) rfl)) rfl
theorem wq_1170 : Cond.code yX6_bump cX6_bump 4 (some FieldType.int) ∈ gw := mgc (in_5 (List.mem_of_getElem? (i := 81) rfl)) rfl
theorem wq_1171 : Cond.constant RX6 211 (16777215 : Int32) ∈ gw := mgc (in_5 (List.mem_of_getElem? (i := 82) rfl)) rfl
theorem wq_1172 : Cond.methodLink RX6 212 yX6_goesUp ∈ gw := mgc (in_5 (List.mem_of_getElem? (i := 83) rfl)) rfl
theorem wq_1174 : Cond.instanceMethod yX6_goesUp ∈ gw := mgc (in_5 (List.mem_of_getElem? (i := 85) rfl)) rfl
theorem wq_1175 : Cond.code yX6_goesUp cX6_goesUp 5 (some FieldType.boolean) ∈ gw := mgc (in_5 (List.mem_of_getElem? (i := 86) rfl)) rfl
theorem wq_1176 : Cond.methodLink RX6 208 yJ6_highestOneBit_0f7a4 ∈ gw := mgc (in_5 (List.mem_of_getElem? (i := 87) rfl)) rfl
theorem wq_1177 : Cond.static yJ6_highestOneBit_0f7a4 ∈ gw := mgc (in_5 (List.mem_of_getElem? (i := 88) rfl)) rfl
theorem wq_1178 : Cond.code yJ6_highestOneBit_0f7a4 cJ6_highestOneBit_0f7a4 1 (some FieldType.int) ∈ gw := mgc (in_5 (List.mem_of_getElem? (i := 89) rfl)) rfl
theorem wq_1179 : Cond.constant RJ6 127 (-2147483648 : Int32) ∈ gw := mgc (in_5 (List.mem_of_getElem? (i := 90) rfl)) rfl
theorem wq_1180 : Cond.methodLink RJ6 51 yJ6_numberOfLeadingZeros_0f7a4 ∈ gw := mgc (in_5 (List.mem_of_getElem? (i := 91) rfl)) rfl
theorem wq_1181 : Cond.static yJ6_numberOfLeadingZeros_0f7a4 ∈ gw := mgc (in_5 (List.mem_of_getElem? (i := 92) rfl)) rfl
theorem wq_1182 : Cond.code yJ6_numberOfLeadingZeros_0f7a4 cJ6_numberOfLeadingZeros_0f7a4 2 (some FieldType.int) ∈ gw := mgc (in_5 (List.mem_of_getElem? (i := 93) rfl)) rfl
theorem wq_1183 : Cond.constant RJ6 264 (65536 : Int32) ∈ gw := mgc (in_5 (List.mem_of_getElem? (i := 94) rfl)) rfl
theorem wq_1184 : Cond.methodLink RL 59 yX6_begin ∈ gw := mgc (in_5 (List.mem_of_getElem? (i := 95) rfl)) rfl
theorem wq_1185 : Cond.instanceMethod yX6_begin ∈ gw := mgc (in_5 (List.mem_of_getElem? (i := 96) rfl)) rfl
theorem wq_1186 : Cond.selects RX6 yX6_begin yX6_begin ∈ gw := mgc (in_5 (List.mem_of_getElem? (i := 97) rfl)) rfl
theorem wq_1187 : Cond.code yX6_begin cX6_begin 1 (some FieldType.boolean) ∈ gw := mgc (in_5 (List.mem_of_getElem? (i := 98) rfl)) rfl
theorem wq_1188 : Cond.methodLink RL 63 yX6_commit ∈ gw := mgc (in_5 (List.mem_of_getElem? (i := 99) rfl)) rfl
theorem wq_1189 : Cond.instanceMethod yX6_commit ∈ gw := mgc (in_5 (List.mem_of_getElem? (i := 100) rfl)) rfl
theorem wq_1190 : Cond.selects RX6 yX6_commit yX6_commit ∈ gw := mgc (in_5 (List.mem_of_getElem? (i := 101) rfl)) rfl
theorem wq_1191 : Cond.code yX6_commit cX6_commit 3 (some FieldType.int) ∈ gw := mgc (in_5 (List.mem_of_getElem? (i := 102) rfl)) rfl
theorem wq_1192 : Cond.methodLink RL 67 yX6_abort ∈ gw := mgc (in_5 (List.mem_of_getElem? (i := 103) rfl)) rfl
theorem wq_1193 : Cond.instanceMethod yX6_abort ∈ gw := mgc (in_5 (List.mem_of_getElem? (i := 104) rfl)) rfl
theorem wq_1194 : Cond.selects RX6 yX6_abort yX6_abort ∈ gw := mgc (in_5 (List.mem_of_getElem? (i := 105) rfl)) rfl
theorem wq_1195 : Cond.code yX6_abort cX6_abort 1 (some FieldType.int) ∈ gw := mgc (in_5 (List.mem_of_getElem? (i := 106) rfl)) rfl
theorem wq_1196 : Cond.methodLink RL 72 yX6_get ∈ gw := mgc (in_5 (List.mem_of_getElem? (i := 107) rfl)) rfl
theorem wq_1197 : Cond.instanceMethod yX6_get ∈ gw := mgc (in_5 (List.mem_of_getElem? (i := 108) rfl)) rfl
theorem wq_1198 : Cond.selects RX6 yX6_get yX6_get ∈ gw := mgc (in_5 (List.mem_of_getElem? (i := 109) rfl)) rfl
theorem wq_1199 : Cond.code yX6_get cX6_get 2 (some FieldType.long) ∈ gw := mgc (in_5 (List.mem_of_getElem? (i := 110) rfl)) rfl
theorem wq_1200 : Cond.methodLink RX6 215 yX6_isTag ∈ gw := mgc (in_5 (List.mem_of_getElem? (i := 111) rfl)) rfl
theorem wq_1202 : Cond.instanceMethod yX6_isTag ∈ gw := mgc (in_5 (List.mem_of_getElem? (i := 113) rfl)) rfl
theorem wq_1203 : Cond.code yX6_isTag cX6_isTag 2 (some FieldType.boolean) ∈ gw := mgc (in_5 (List.mem_of_getElem? (i := 114) rfl)) rfl
theorem wq_1204 : Cond.methodLink RX6 218 yX6_valueNow ∈ gw := mgc (in_5 (List.mem_of_getElem? (i := 115) rfl)) rfl
theorem wq_1206 : Cond.instanceMethod yX6_valueNow ∈ gw := mgc (in_5 (List.mem_of_getElem? (i := 117) rfl)) rfl
theorem wq_1207 : Cond.code yX6_valueNow cX6_valueNow 2 (some FieldType.long) ∈ gw := mgc (in_5 (List.mem_of_getElem? (i := 118) rfl)) rfl
theorem wq_1208 : Cond.constantLong RX6 222 (-1 : Int64) ∈ gw := mgc (in_5 (List.mem_of_getElem? (i := 119) rfl)) rfl
theorem wq_1209 : Cond.methodLink RL 76 yX6_length ∈ gw := mgc (in_5 (List.mem_of_getElem? (i := 120) rfl)) rfl
theorem wq_1210 : Cond.instanceMethod yX6_length ∈ gw := mgc (in_5 (List.mem_of_getElem? (i := 121) rfl)) rfl
theorem wq_1211 : Cond.selects RX6 yX6_length yX6_length ∈ gw := mgc (in_5 (List.mem_of_getElem? (i := 122) rfl)) rfl
theorem wq_1212 : Cond.code yX6_length cX6_length 2 (some FieldType.int) ∈ gw := mgc (in_5 (List.mem_of_getElem? (i := 123) rfl)) rfl
theorem wq_1213 : Cond.methodLink RL 80 yX6_hand ∈ gw := mgc (in_5 (List.mem_of_getElem? (i := 124) rfl)) rfl
theorem wq_1214 : Cond.instanceMethod yX6_hand ∈ gw := mgc (in_5 (List.mem_of_getElem? (i := 125) rfl)) rfl
theorem wq_1215 : Cond.selects RX6 yX6_hand yX6_hand ∈ gw := mgc (in_5 (List.mem_of_getElem? (i := 126) rfl)) rfl
theorem wq_1216 : Cond.code yX6_hand cX6_hand 1 (some FieldType.int) ∈ gw := mgc (in_5 (List.mem_of_getElem? (i := 127) rfl)) rfl
theorem wq_1217 : Cond.methodLink RL 86 yX6_at ∈ gw := mgc (in_5 (List.mem_of_getElem? (i := 128) rfl)) rfl
theorem wq_1218 : Cond.instanceMethod yX6_at ∈ gw := mgc (in_5 (List.mem_of_getElem? (i := 129) rfl)) rfl
theorem wq_1219 : Cond.selects RX6 yX6_at yX6_at ∈ gw := mgc (in_5 (List.mem_of_getElem? (i := 130) rfl)) rfl
theorem wq_1220 : Cond.code yX6_at cX6_at 3 (some FieldType.int) ∈ gw := mgc (in_5 (List.mem_of_getElem? (i := 131) rfl)) rfl
theorem wq_1221 : Cond.methodLink RL 90 yX6_sector ∈ gw := mgc (in_5 (List.mem_of_getElem? (i := 132) rfl)) rfl
theorem wq_1222 : Cond.instanceMethod yX6_sector ∈ gw := mgc (in_5 (List.mem_of_getElem? (i := 133) rfl)) rfl
theorem wq_1223 : Cond.selects RX6 yX6_sector yX6_sector ∈ gw := mgc (in_5 (List.mem_of_getElem? (i := 134) rfl)) rfl
theorem wq_1224 : Cond.code yX6_sector cX6_sector 3 (some FieldType.int) ∈ gw := mgc (in_5 (List.mem_of_getElem? (i := 135) rfl)) rfl
theorem wq_1225 : Cond.methodLink RL 94 yX6_entry ∈ gw := mgc (in_5 (List.mem_of_getElem? (i := 136) rfl)) rfl
theorem wq_1226 : Cond.instanceMethod yX6_entry ∈ gw := mgc (in_5 (List.mem_of_getElem? (i := 137) rfl)) rfl
theorem wq_1227 : Cond.selects RX6 yX6_entry yX6_entry ∈ gw := mgc (in_5 (List.mem_of_getElem? (i := 138) rfl)) rfl
theorem wq_1228 : Cond.code yX6_entry cX6_entry 4 (some FieldType.int) ∈ gw := mgc (in_5 (List.mem_of_getElem? (i := 139) rfl)) rfl
theorem wq_1229 : Cond.methodLink RL 98 yX6_space ∈ gw := mgc (in_5 (List.mem_of_getElem? (i := 140) rfl)) rfl
theorem wq_1230 : Cond.instanceMethod yX6_space ∈ gw := mgc (in_5 (List.mem_of_getElem? (i := 141) rfl)) rfl
theorem wq_1231 : Cond.selects RX6 yX6_space yX6_space ∈ gw := mgc (in_5 (List.mem_of_getElem? (i := 142) rfl)) rfl
theorem wq_1232 : Cond.code yX6_space cX6_space 6 (some FieldType.int) ∈ gw := mgc (in_5 (List.mem_of_getElem? (i := 143) rfl)) rfl
theorem wq_1233 : Cond.methodLink RL 102 yX6_until ∈ gw := mgc (in_5 (List.mem_of_getElem? (i := 144) rfl)) rfl
theorem wq_1234 : Cond.instanceMethod yX6_until ∈ gw := mgc (in_5 (List.mem_of_getElem? (i := 145) rfl)) rfl
theorem wq_1235 : Cond.selects RX6 yX6_until yX6_until ∈ gw := mgc (in_5 (List.mem_of_getElem? (i := 146) rfl)) rfl
theorem wq_1236 : Cond.code yX6_until cX6_until 2 (some FieldType.int) ∈ gw := mgc (in_5 (List.mem_of_getElem? (i := 147) rfl)) rfl
theorem wq_1237 : Cond.methodLink RL 106 yX6_after ∈ gw := mgc (in_5 (List.mem_of_getElem? (i := 148) rfl)) rfl
theorem wq_1238 : Cond.instanceMethod yX6_after ∈ gw := mgc (in_5 (List.mem_of_getElem? (i := 149) rfl)) rfl
theorem wq_1239 : Cond.selects RX6 yX6_after yX6_after ∈ gw := mgc (in_5 (List.mem_of_getElem? (i := 150) rfl)) rfl
theorem wq_1240 : Cond.code yX6_after cX6_after 1 (some FieldType.int) ∈ gw := mgc (in_5 (List.mem_of_getElem? (i := 151) rfl)) rfl
theorem wq_1241 : Cond.methodLink RL 110 yX6_costs ∈ gw := mgc (in_5 (List.mem_of_getElem? (i := 152) rfl)) rfl
theorem wq_1242 : Cond.instanceMethod yX6_costs ∈ gw := mgc (in_5 (List.mem_of_getElem? (i := 153) rfl)) rfl
theorem wq_1243 : Cond.selects RX6 yX6_costs yX6_costs ∈ gw := mgc (in_5 (List.mem_of_getElem? (i := 154) rfl)) rfl
theorem wq_1244 : Cond.code yX6_costs cX6_costs 2 (some FieldType.int) ∈ gw := mgc (in_5 (List.mem_of_getElem? (i := 155) rfl)) rfl
theorem wq_1245 : Cond.methodLink RX6 230 yX6_wouldCost ∈ gw := mgc (in_5 (List.mem_of_getElem? (i := 156) rfl)) rfl
theorem wq_1247 : Cond.instanceMethod yX6_wouldCost ∈ gw := mgc (in_5 (List.mem_of_getElem? (i := 158) rfl)) rfl
theorem wq_1248 : Cond.code yX6_wouldCost cX6_wouldCost 3 (some FieldType.int) ∈ gw := mgc (in_5 (List.mem_of_getElem? (i := 159) rfl)) rfl
theorem wq_1249 : Cond.methodLink RX6 224 yX6_putsAside ∈ gw := mgc (in_5 (List.mem_of_getElem? (i := 160) rfl)) rfl
theorem wq_1251 : Cond.instanceMethod yX6_putsAside ∈ gw := mgc (in_5 (List.mem_of_getElem? (i := 162) rfl)) rfl
theorem wq_1252 : Cond.code yX6_putsAside cX6_putsAside 2 (none : Option FieldType) ∈ gw := mgc (in_5 (List.mem_of_getElem? (i := 163) rfl)) rfl
theorem wq_1253 : Cond.methodLink RX6 227 yX6_putsBack ∈ gw := mgc (in_5 (List.mem_of_getElem? (i := 164) rfl)) rfl
theorem wq_1255 : Cond.instanceMethod yX6_putsBack ∈ gw := mgc (in_5 (List.mem_of_getElem? (i := 166) rfl)) rfl
theorem wq_1256 : Cond.code yX6_putsBack cX6_putsBack 2 (none : Option FieldType) ∈ gw := mgc (in_5 (List.mem_of_getElem? (i := 167) rfl)) rfl
theorem wq_1257 : Cond.methodLink RL 115 yX6_torn ∈ gw := mgc (in_5 (List.mem_of_getElem? (i := 168) rfl)) rfl
theorem wq_1258 : Cond.instanceMethod yX6_torn ∈ gw := mgc (in_5 (List.mem_of_getElem? (i := 169) rfl)) rfl
theorem wq_1259 : Cond.selects RX6 yX6_torn yX6_torn ∈ gw := mgc (in_5 (List.mem_of_getElem? (i := 170) rfl)) rfl
theorem wq_1260 : Cond.code yX6_torn cX6_torn 11 (some FieldType.long) ∈ gw := mgc (in_5 (List.mem_of_getElem? (i := 171) rfl)) rfl
theorem wq_1261 : Cond.methodLink RL 120 yX6_history ∈ gw := mgc (in_5 (List.mem_of_getElem? (i := 172) rfl)) rfl
theorem wq_1262 : Cond.instanceMethod yX6_history ∈ gw := mgc (in_5 (List.mem_of_getElem? (i := 173) rfl)) rfl
theorem wq_1263 : Cond.selects RX6 yX6_history yX6_history ∈ gw := mgc (in_5 (List.mem_of_getElem? (i := 174) rfl)) rfl
theorem wq_1264 : Cond.code yX6_history cX6_history 6 (some FieldType.long) ∈ gw := mgc (in_5 (List.mem_of_getElem? (i := 175) rfl)) rfl
theorem wq_1265 : Cond.methodLink RX6 233 yX6_isOf ∈ gw := mgc (in_5 (List.mem_of_getElem? (i := 176) rfl)) rfl
theorem wq_1267 : Cond.instanceMethod yX6_isOf ∈ gw := mgc (in_5 (List.mem_of_getElem? (i := 178) rfl)) rfl
theorem wq_1268 : Cond.code yX6_isOf cX6_isOf 4 (some FieldType.boolean) ∈ gw := mgc (in_5 (List.mem_of_getElem? (i := 179) rfl)) rfl
theorem wq_1269 : Cond.constantLong RX6 236 (-5 : Int64) ∈ gw := mgc (in_5 (List.mem_of_getElem? (i := 180) rfl)) rfl
theorem wq_1270 : Cond.methodLink RL 124 yX6_wears ∈ gw := mgc (in_5 (List.mem_of_getElem? (i := 181) rfl)) rfl
theorem wq_1271 : Cond.instanceMethod yX6_wears ∈ gw := mgc (in_5 (List.mem_of_getElem? (i := 182) rfl)) rfl
theorem wq_1272 : Cond.selects RX6 yX6_wears yX6_wears ∈ gw := mgc (in_5 (List.mem_of_getElem? (i := 183) rfl)) rfl
theorem wq_1273 : Cond.code yX6_wears cX6_wears 7 (some FieldType.int) ∈ gw := mgc (in_5 (List.mem_of_getElem? (i := 184) rfl)) rfl
theorem wq_1274 : Cond.methodLink RX6 238 yX6_extreme ∈ gw := mgc (in_5 (List.mem_of_getElem? (i := 185) rfl)) rfl
theorem wq_1276 : Cond.instanceMethod yX6_extreme ∈ gw := mgc (in_5 (List.mem_of_getElem? (i := 187) rfl)) rfl
theorem wq_1277 : Cond.code yX6_extreme cX6_extreme 4 (some FieldType.int) ∈ gw := mgc (in_5 (List.mem_of_getElem? (i := 188) rfl)) rfl
theorem wq_1278 : Cond.methodLink RL 128 yX6_wear ∈ gw := mgc (in_5 (List.mem_of_getElem? (i := 189) rfl)) rfl
theorem wq_1279 : Cond.instanceMethod yX6_wear ∈ gw := mgc (in_5 (List.mem_of_getElem? (i := 190) rfl)) rfl
theorem wq_1280 : Cond.selects RX6 yX6_wear yX6_wear ∈ gw := mgc (in_5 (List.mem_of_getElem? (i := 191) rfl)) rfl
theorem wq_1281 : Cond.code yX6_wear cX6_wear 2 (some FieldType.int) ∈ gw := mgc (in_5 (List.mem_of_getElem? (i := 192) rfl)) rfl
theorem wq_1282 : Cond.methodLink RX6 242 yX6_erasesOfAll ∈ gw := mgc (in_5 (List.mem_of_getElem? (i := 193) rfl)) rfl
theorem wq_1284 : Cond.instanceMethod yX6_erasesOfAll ∈ gw := mgc (in_5 (List.mem_of_getElem? (i := 195) rfl)) rfl
theorem wq_1285 : Cond.code yX6_erasesOfAll cX6_erasesOfAll 3 (some FieldType.int) ∈ gw := mgc (in_5 (List.mem_of_getElem? (i := 196) rfl)) rfl
theorem wq_1286 : Cond.methodLink RX6 245 yJxf58ca_floatToIntBits_5c35a ∈ gw := mgc (in_5 (List.mem_of_getElem? (i := 197) rfl)) rfl
theorem wq_1287 : Cond.static yJxf58ca_floatToIntBits_5c35a ∈ gw := mgc (in_5 (List.mem_of_getElem? (i := 198) rfl)) rfl
theorem wq_1288 : Cond.code yJxf58ca_floatToIntBits_5c35a cJxf58ca_floatToIntBits_5c35a 1 (some FieldType.int) ∈ gw := mgc (in_5 (List.mem_of_getElem? (i := 199) rfl)) rfl
theorem wq_1289 : Cond.methodLink RJxf58ca 59 yJxf58ca_isNaN_12338 ∈ gw := mgc (in_5 (List.mem_of_getElem? (i := 200) rfl)) rfl
theorem wq_1290 : Cond.static yJxf58ca_isNaN_12338 ∈ gw := mgc (in_5 (List.mem_of_getElem? (i := 201) rfl)) rfl
theorem wq_1291 : Cond.code yJxf58ca_isNaN_12338 cJxf58ca_isNaN_12338 1 (some FieldType.boolean) ∈ gw := mgc (in_5 (List.mem_of_getElem? (i := 202) rfl)) rfl
theorem wq_1292 : Cond.methodLink RJxf58ca 74 ⟨RJxf58ca, "floatToRawIntBits", "(F)I"⟩ ∈ gw := mgc (in_5 (List.mem_of_getElem? (i := 203) rfl)) rfl
theorem wq_1293 : Cond.static ⟨RJxf58ca, "floatToRawIntBits", "(F)I"⟩ ∈ gw := mgc (in_5 (List.mem_of_getElem? (i := 204) rfl)) rfl
theorem wq_1294 : Cond.native ⟨RJxf58ca, "floatToRawIntBits", "(F)I"⟩ ∈ gw := mgc (in_5 (List.mem_of_getElem? (i := 205) rfl)) rfl
theorem wq_1295 : Cond.constant RJxf58ca 77 (2143289344 : Int32) ∈ gw := mgc (in_5 (List.mem_of_getElem? (i := 206) rfl)) rfl
theorem wq_1296 : Cond.methodLink RL 133 yX6_tags ∈ gw := mgc (in_5 (List.mem_of_getElem? (i := 207) rfl)) rfl
theorem wq_1297 : Cond.instanceMethod yX6_tags ∈ gw := mgc (in_5 (List.mem_of_getElem? (i := 208) rfl)) rfl
theorem wq_1298 : Cond.selects RX6 yX6_tags yX6_tags ∈ gw := mgc (in_5 (List.mem_of_getElem? (i := 209) rfl)) rfl
theorem wq_1299 : Cond.code yX6_tags cX6_tags 4 (some FieldType.long) ∈ gw := mgc (in_5 (List.mem_of_getElem? (i := 210) rfl)) rfl
theorem wq_1300 : Cond.methodLink RL 137 yX6_count ∈ gw := mgc (in_5 (List.mem_of_getElem? (i := 211) rfl)) rfl
theorem wq_1301 : Cond.instanceMethod yX6_count ∈ gw := mgc (in_5 (List.mem_of_getElem? (i := 212) rfl)) rfl
theorem wq_1302 : Cond.selects RX6 yX6_count yX6_count ∈ gw := mgc (in_5 (List.mem_of_getElem? (i := 213) rfl)) rfl
theorem wq_1303 : Cond.code yX6_count cX6_count 2 (some FieldType.int) ∈ gw := mgc (in_5 (List.mem_of_getElem? (i := 214) rfl)) rfl
theorem wq_1304 : Cond.arrayClass Jvm.ClassFile.FieldType.long ∈ gw := mgc (in_5 (List.mem_of_getElem? (i := 215) rfl)) rfl
