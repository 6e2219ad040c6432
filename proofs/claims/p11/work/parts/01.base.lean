/-! printed texts: the tables words (PART A of the skeleton), names -/
/-- a private method of a class that the tables say can be made, by its rows of tables_1 -/
def lw_okq (q : MethodName × Nat) : Prop := (q.1.cls ≠ "java/lang/invoke/MethodHandle" ∧ q.1.cls ≠ "java/lang/invoke/VarHandle") ∧ Cond.instantiable q.1.cls q.2 ∈ tables_1 ∧ Cond.privateMethod q.1 ∈ tables_1 ∧ Cond.instanceMethod q.1 ∈ tables_1
theorem lw_p0 : lw_okq (⟨"SettingStore$Chip", "renew", "(II)V"⟩, 10) := ⟨⟨by decide +kernel, by decide +kernel⟩, List.mem_of_getElem? (i := 34) (by decide +kernel), List.mem_of_getElem? (i := 174) (by decide +kernel), List.mem_of_getElem? (i := 175) (by decide +kernel)⟩
theorem lw_p1 : lw_okq (⟨"SettingStore$Store", "renew", "(II)V"⟩, 7) := ⟨⟨by decide +kernel, by decide +kernel⟩, List.mem_of_getElem? (i := 28) (by decide +kernel), List.mem_of_getElem? (i := 222) (by decide +kernel), List.mem_of_getElem? (i := 223) (by decide +kernel)⟩
theorem lw_p2 : lw_okq (⟨"SettingStore$Store", "switchOff", "()V"⟩, 7) := ⟨⟨by decide +kernel, by decide +kernel⟩, List.mem_of_getElem? (i := 28) (by decide +kernel), List.mem_of_getElem? (i := 226) (by decide +kernel), List.mem_of_getElem? (i := 227) (by decide +kernel)⟩
theorem lw_p3 : lw_okq (⟨"SettingStore$Change", "forget", "()V"⟩, 5) := ⟨⟨by decide +kernel, by decide +kernel⟩, List.mem_of_getElem? (i := 126) (by decide +kernel), List.mem_of_getElem? (i := 230) (by decide +kernel), List.mem_of_getElem? (i := 231) (by decide +kernel)⟩
theorem lw_p4 : lw_okq (⟨"SettingStore$Store", "isOn", "()Z"⟩, 7) := ⟨⟨by decide +kernel, by decide +kernel⟩, List.mem_of_getElem? (i := 28) (by decide +kernel), List.mem_of_getElem? (i := 238) (by decide +kernel), List.mem_of_getElem? (i := 239) (by decide +kernel)⟩
theorem lw_p5 : lw_okq (⟨"SettingStore$Store", "switchOn", "()I"⟩, 7) := ⟨⟨by decide +kernel, by decide +kernel⟩, List.mem_of_getElem? (i := 28) (by decide +kernel), List.mem_of_getElem? (i := 242) (by decide +kernel), List.mem_of_getElem? (i := 243) (by decide +kernel)⟩
theorem lw_p6 : lw_okq (⟨"SettingStore$Chip", "greatestActive", "()I"⟩, 10) := ⟨⟨by decide +kernel, by decide +kernel⟩, List.mem_of_getElem? (i := 34) (by decide +kernel), List.mem_of_getElem? (i := 246) (by decide +kernel), List.mem_of_getElem? (i := 247) (by decide +kernel)⟩
theorem lw_p7 : lw_okq (⟨"SettingStore$Chip", "isActive", "(I)Z"⟩, 10) := ⟨⟨by decide +kernel, by decide +kernel⟩, List.mem_of_getElem? (i := 34) (by decide +kernel), List.mem_of_getElem? (i := 250) (by decide +kernel), List.mem_of_getElem? (i := 251) (by decide +kernel)⟩
theorem lw_p8 : lw_okq (⟨"SettingStore$Chip", "peek", "(II)I"⟩, 10) := ⟨⟨by decide +kernel, by decide +kernel⟩, List.mem_of_getElem? (i := 34) (by decide +kernel), List.mem_of_getElem? (i := 254) (by decide +kernel), List.mem_of_getElem? (i := 255) (by decide +kernel)⟩
theorem lw_p9 : lw_okq (⟨"SettingStore$Chip", "holds", "(II)Z"⟩, 10) := ⟨⟨by decide +kernel, by decide +kernel⟩, List.mem_of_getElem? (i := 34) (by decide +kernel), List.mem_of_getElem? (i := 258) (by decide +kernel), List.mem_of_getElem? (i := 259) (by decide +kernel)⟩
theorem lw_p10 : lw_okq (⟨"SettingStore$Chip", "numberOf", "(I)I"⟩, 10) := ⟨⟨by decide +kernel, by decide +kernel⟩, List.mem_of_getElem? (i := 34) (by decide +kernel), List.mem_of_getElem? (i := 265) (by decide +kernel), List.mem_of_getElem? (i := 266) (by decide +kernel)⟩
theorem lw_p11 : lw_okq (⟨"SettingStore$Chip", "eraseAllBut", "(I)V"⟩, 10) := ⟨⟨by decide +kernel, by decide +kernel⟩, List.mem_of_getElem? (i := 34) (by decide +kernel), List.mem_of_getElem? (i := 269) (by decide +kernel), List.mem_of_getElem? (i := 270) (by decide +kernel)⟩
theorem lw_p12 : lw_okq (⟨"SettingStore$Chip", "isBlank", "(I)Z"⟩, 10) := ⟨⟨by decide +kernel, by decide +kernel⟩, List.mem_of_getElem? (i := 34) (by decide +kernel), List.mem_of_getElem? (i := 273) (by decide +kernel), List.mem_of_getElem? (i := 274) (by decide +kernel)⟩
theorem lw_p13 : lw_okq (⟨"SettingStore$Chip", "usedEnd", "(I)I"⟩, 10) := ⟨⟨by decide +kernel, by decide +kernel⟩, List.mem_of_getElem? (i := 34) (by decide +kernel), List.mem_of_getElem? (i := 277) (by decide +kernel), List.mem_of_getElem? (i := 278) (by decide +kernel)⟩
theorem lw_p14 : lw_okq (⟨"SettingStore$Chip", "hasSector", "(I)Z"⟩, 10) := ⟨⟨by decide +kernel, by decide +kernel⟩, List.mem_of_getElem? (i := 34) (by decide +kernel), List.mem_of_getElem? (i := 281) (by decide +kernel), List.mem_of_getElem? (i := 282) (by decide +kernel)⟩
theorem lw_p15 : lw_okq (⟨"SettingStore$Chip", "erase", "(I)V"⟩, 10) := ⟨⟨by decide +kernel, by decide +kernel⟩, List.mem_of_getElem? (i := 34) (by decide +kernel), List.mem_of_getElem? (i := 285) (by decide +kernel), List.mem_of_getElem? (i := 286) (by decide +kernel)⟩
def lw_privs_1 : List (MethodName × Nat) := [(⟨"SettingStore$Chip", "renew", "(II)V"⟩, 10), (⟨"SettingStore$Store", "renew", "(II)V"⟩, 7), (⟨"SettingStore$Store", "switchOff", "()V"⟩, 7), (⟨"SettingStore$Change", "forget", "()V"⟩, 5), (⟨"SettingStore$Store", "isOn", "()Z"⟩, 7), (⟨"SettingStore$Store", "switchOn", "()I"⟩, 7), (⟨"SettingStore$Chip", "greatestActive", "()I"⟩, 10), (⟨"SettingStore$Chip", "isActive", "(I)Z"⟩, 10), (⟨"SettingStore$Chip", "peek", "(II)I"⟩, 10), (⟨"SettingStore$Chip", "holds", "(II)Z"⟩, 10), (⟨"SettingStore$Chip", "numberOf", "(I)I"⟩, 10), (⟨"SettingStore$Chip", "eraseAllBut", "(I)V"⟩, 10), (⟨"SettingStore$Chip", "isBlank", "(I)Z"⟩, 10), (⟨"SettingStore$Chip", "usedEnd", "(I)I"⟩, 10), (⟨"SettingStore$Chip", "hasSector", "(I)Z"⟩, 10), (⟨"SettingStore$Chip", "erase", "(I)V"⟩, 10)]
theorem lw_r1 : ∀ q ∈ lw_privs_1, lw_okq q := List.forall_mem_cons.mpr ⟨lw_p0, List.forall_mem_cons.mpr ⟨lw_p1, List.forall_mem_cons.mpr ⟨lw_p2, List.forall_mem_cons.mpr ⟨lw_p3, List.forall_mem_cons.mpr ⟨lw_p4, List.forall_mem_cons.mpr ⟨lw_p5, List.forall_mem_cons.mpr ⟨lw_p6, List.forall_mem_cons.mpr ⟨lw_p7, List.forall_mem_cons.mpr ⟨lw_p8, List.forall_mem_cons.mpr ⟨lw_p9, List.forall_mem_cons.mpr ⟨lw_p10, List.forall_mem_cons.mpr ⟨lw_p11, List.forall_mem_cons.mpr ⟨lw_p12, List.forall_mem_cons.mpr ⟨lw_p13, List.forall_mem_cons.mpr ⟨lw_p14, List.forall_mem_cons.mpr ⟨lw_p15, fun _ h => absurd h List.not_mem_nil⟩⟩⟩⟩⟩⟩⟩⟩⟩⟩⟩⟩⟩⟩⟩⟩
theorem lw_p16 : lw_okq (⟨"SettingStore$Chip", "endures", "()Z"⟩, 10) := ⟨⟨by decide +kernel, by decide +kernel⟩, List.mem_of_getElem? (i := 34) (by decide +kernel), List.mem_of_getElem? (i := 289) (by decide +kernel), List.mem_of_getElem? (i := 290) (by decide +kernel)⟩
theorem lw_p17 : lw_okq (⟨"SettingStore$Chip", "leastErased", "(I)I"⟩, 10) := ⟨⟨by decide +kernel, by decide +kernel⟩, List.mem_of_getElem? (i := 34) (by decide +kernel), List.mem_of_getElem? (i := 293) (by decide +kernel), List.mem_of_getElem? (i := 294) (by decide +kernel)⟩
theorem lw_p18 : lw_okq (⟨"SettingStore$Chip", "erasesOf", "(I)I"⟩, 10) := ⟨⟨by decide +kernel, by decide +kernel⟩, List.mem_of_getElem? (i := 34) (by decide +kernel), List.mem_of_getElem? (i := 297) (by decide +kernel), List.mem_of_getElem? (i := 298) (by decide +kernel)⟩
theorem lw_p19 : lw_okq (⟨"SettingStore$Chip", "makeReady", "(II)V"⟩, 10) := ⟨⟨by decide +kernel, by decide +kernel⟩, List.mem_of_getElem? (i := 34) (by decide +kernel), List.mem_of_getElem? (i := 301) (by decide +kernel), List.mem_of_getElem? (i := 302) (by decide +kernel)⟩
theorem lw_p20 : lw_okq (⟨"SettingStore$Chip", "write", "(III)V"⟩, 10) := ⟨⟨by decide +kernel, by decide +kernel⟩, List.mem_of_getElem? (i := 34) (by decide +kernel), List.mem_of_getElem? (i := 305) (by decide +kernel), List.mem_of_getElem? (i := 306) (by decide +kernel)⟩
theorem lw_p21 : lw_okq (⟨"SettingStore$Store", "look", "()LSettingStore$Reading;"⟩, 7) := ⟨⟨by decide +kernel, by decide +kernel⟩, List.mem_of_getElem? (i := 28) (by decide +kernel), List.mem_of_getElem? (i := 310) (by decide +kernel), List.mem_of_getElem? (i := 311) (by decide +kernel)⟩
theorem lw_p22 : lw_okq (⟨"SettingStore$Reading", "scan", "(LSettingStore$Chip;I)V"⟩, 11) := ⟨⟨by decide +kernel, by decide +kernel⟩, List.mem_of_getElem? (i := 82) (by decide +kernel), List.mem_of_getElem? (i := 314) (by decide +kernel), List.mem_of_getElem? (i := 315) (by decide +kernel)⟩
theorem lw_p23 : lw_okq (⟨"SettingStore$Chip", "copySector", "(I[I)V"⟩, 10) := ⟨⟨by decide +kernel, by decide +kernel⟩, List.mem_of_getElem? (i := 34) (by decide +kernel), List.mem_of_getElem? (i := 318) (by decide +kernel), List.mem_of_getElem? (i := 319) (by decide +kernel)⟩
theorem lw_p24 : lw_okq (⟨"SettingStore$Reading", "takeEntry", "(I)I"⟩, 11) := ⟨⟨by decide +kernel, by decide +kernel⟩, List.mem_of_getElem? (i := 82) (by decide +kernel), List.mem_of_getElem? (i := 323) (by decide +kernel), List.mem_of_getElem? (i := 324) (by decide +kernel)⟩
theorem lw_p25 : lw_okq (⟨"SettingStore$Reading", "byteAt", "(I)I"⟩, 11) := ⟨⟨by decide +kernel, by decide +kernel⟩, List.mem_of_getElem? (i := 82) (by decide +kernel), List.mem_of_getElem? (i := 327) (by decide +kernel), List.mem_of_getElem? (i := 328) (by decide +kernel)⟩
theorem lw_p26 : lw_okq (⟨"SettingStore$Reading", "firstMark", "(III)I"⟩, 11) := ⟨⟨by decide +kernel, by decide +kernel⟩, List.mem_of_getElem? (i := 82) (by decide +kernel), List.mem_of_getElem? (i := 338) (by decide +kernel), List.mem_of_getElem? (i := 339) (by decide +kernel)⟩
theorem lw_p27 : lw_okq (⟨"SettingStore$Reading", "settleParts", "(I)V"⟩, 11) := ⟨⟨by decide +kernel, by decide +kernel⟩, List.mem_of_getElem? (i := 82) (by decide +kernel), List.mem_of_getElem? (i := 343) (by decide +kernel), List.mem_of_getElem? (i := 344) (by decide +kernel)⟩
theorem lw_p28 : lw_okq (⟨"SettingStore$Reading", "has", "(I)Z"⟩, 11) := ⟨⟨by decide +kernel, by decide +kernel⟩, List.mem_of_getElem? (i := 82) (by decide +kernel), List.mem_of_getElem? (i := 347) (by decide +kernel), List.mem_of_getElem? (i := 348) (by decide +kernel)⟩
theorem lw_p29 : lw_okq (⟨"SettingStore$Reading", "markNewest", "()V"⟩, 11) := ⟨⟨by decide +kernel, by decide +kernel⟩, List.mem_of_getElem? (i := 82) (by decide +kernel), List.mem_of_getElem? (i := 351) (by decide +kernel), List.mem_of_getElem? (i := 352) (by decide +kernel)⟩
theorem lw_p30 : lw_okq (⟨"SettingStore$Reading", "valuedTags", "()J"⟩, 11) := ⟨⟨by decide +kernel, by decide +kernel⟩, List.mem_of_getElem? (i := 82) (by decide +kernel), List.mem_of_getElem? (i := 359) (by decide +kernel), List.mem_of_getElem? (i := 360) (by decide +kernel)⟩
theorem lw_p31 : lw_okq (⟨"SettingStore$Reading", "hasValue", "(I)Z"⟩, 11) := ⟨⟨by decide +kernel, by decide +kernel⟩, List.mem_of_getElem? (i := 82) (by decide +kernel), List.mem_of_getElem? (i := 363) (by decide +kernel), List.mem_of_getElem? (i := 364) (by decide +kernel)⟩
def lw_privs_2 : List (MethodName × Nat) := [(⟨"SettingStore$Chip", "endures", "()Z"⟩, 10), (⟨"SettingStore$Chip", "leastErased", "(I)I"⟩, 10), (⟨"SettingStore$Chip", "erasesOf", "(I)I"⟩, 10), (⟨"SettingStore$Chip", "makeReady", "(II)V"⟩, 10), (⟨"SettingStore$Chip", "write", "(III)V"⟩, 10), (⟨"SettingStore$Store", "look", "()LSettingStore$Reading;"⟩, 7), (⟨"SettingStore$Reading", "scan", "(LSettingStore$Chip;I)V"⟩, 11), (⟨"SettingStore$Chip", "copySector", "(I[I)V"⟩, 10), (⟨"SettingStore$Reading", "takeEntry", "(I)I"⟩, 11), (⟨"SettingStore$Reading", "byteAt", "(I)I"⟩, 11), (⟨"SettingStore$Reading", "firstMark", "(III)I"⟩, 11), (⟨"SettingStore$Reading", "settleParts", "(I)V"⟩, 11), (⟨"SettingStore$Reading", "has", "(I)Z"⟩, 11), (⟨"SettingStore$Reading", "markNewest", "()V"⟩, 11), (⟨"SettingStore$Reading", "valuedTags", "()J"⟩, 11), (⟨"SettingStore$Reading", "hasValue", "(I)Z"⟩, 11)]
theorem lw_r2 : ∀ q ∈ lw_privs_2, lw_okq q := List.forall_mem_cons.mpr ⟨lw_p16, List.forall_mem_cons.mpr ⟨lw_p17, List.forall_mem_cons.mpr ⟨lw_p18, List.forall_mem_cons.mpr ⟨lw_p19, List.forall_mem_cons.mpr ⟨lw_p20, List.forall_mem_cons.mpr ⟨lw_p21, List.forall_mem_cons.mpr ⟨lw_p22, List.forall_mem_cons.mpr ⟨lw_p23, List.forall_mem_cons.mpr ⟨lw_p24, List.forall_mem_cons.mpr ⟨lw_p25, List.forall_mem_cons.mpr ⟨lw_p26, List.forall_mem_cons.mpr ⟨lw_p27, List.forall_mem_cons.mpr ⟨lw_p28, List.forall_mem_cons.mpr ⟨lw_p29, List.forall_mem_cons.mpr ⟨lw_p30, List.forall_mem_cons.mpr ⟨lw_p31, fun _ h => absurd h List.not_mem_nil⟩⟩⟩⟩⟩⟩⟩⟩⟩⟩⟩⟩⟩⟩⟩⟩
theorem lw_p32 : lw_okq (⟨"SettingStore$Reading", "valuedSize", "(I)I"⟩, 11) := ⟨⟨by decide +kernel, by decide +kernel⟩, List.mem_of_getElem? (i := 82) (by decide +kernel), List.mem_of_getElem? (i := 367) (by decide +kernel), List.mem_of_getElem? (i := 368) (by decide +kernel)⟩
theorem lw_p33 : lw_okq (⟨"SettingStore$Reading", "newestOf", "(I)I"⟩, 11) := ⟨⟨by decide +kernel, by decide +kernel⟩, List.mem_of_getElem? (i := 82) (by decide +kernel), List.mem_of_getElem? (i := 371) (by decide +kernel), List.mem_of_getElem? (i := 372) (by decide +kernel)⟩
theorem lw_p34 : lw_okq (⟨"SettingStore$Store", "outcome", "(I)I"⟩, 7) := ⟨⟨by decide +kernel, by decide +kernel⟩, List.mem_of_getElem? (i := 28) (by decide +kernel), List.mem_of_getElem? (i := 381) (by decide +kernel), List.mem_of_getElem? (i := 382) (by decide +kernel)⟩
theorem lw_p35 : lw_okq (⟨"SettingStore$Chip", "arm", "(II)V"⟩, 10) := ⟨⟨by decide +kernel, by decide +kernel⟩, List.mem_of_getElem? (i := 34) (by decide +kernel), List.mem_of_getElem? (i := 394) (by decide +kernel), List.mem_of_getElem? (i := 395) (by decide +kernel)⟩
theorem lw_p36 : lw_okq (⟨"SettingStore$Chip", "decay", "(III)I"⟩, 10) := ⟨⟨by decide +kernel, by decide +kernel⟩, List.mem_of_getElem? (i := 34) (by decide +kernel), List.mem_of_getElem? (i := 403) (by decide +kernel), List.mem_of_getElem? (i := 404) (by decide +kernel)⟩
theorem lw_p37 : lw_okq (⟨"SettingStore$Change", "tell", "(III)I"⟩, 5) := ⟨⟨by decide +kernel, by decide +kernel⟩, List.mem_of_getElem? (i := 126) (by decide +kernel), List.mem_of_getElem? (i := 414) (by decide +kernel), List.mem_of_getElem? (i := 415) (by decide +kernel)⟩
theorem lw_p38 : lw_okq (⟨"SettingStore$Change", "find", "(I)I"⟩, 5) := ⟨⟨by decide +kernel, by decide +kernel⟩, List.mem_of_getElem? (i := 126) (by decide +kernel), List.mem_of_getElem? (i := 418) (by decide +kernel), List.mem_of_getElem? (i := 419) (by decide +kernel)⟩
theorem lw_p39 : lw_okq (⟨"SettingStore$Store", "keep", "(III)I"⟩, 7) := ⟨⟨by decide +kernel, by decide +kernel⟩, List.mem_of_getElem? (i := 28) (by decide +kernel), List.mem_of_getElem? (i := 422) (by decide +kernel), List.mem_of_getElem? (i := 423) (by decide +kernel)⟩
theorem lw_p40 : lw_okq (⟨"SettingStore$Store", "makeRoom", "(I)Z"⟩, 7) := ⟨⟨by decide +kernel, by decide +kernel⟩, List.mem_of_getElem? (i := 28) (by decide +kernel), List.mem_of_getElem? (i := 426) (by decide +kernel), List.mem_of_getElem? (i := 427) (by decide +kernel)⟩
theorem lw_p41 : lw_okq (⟨"SettingStore$Reading", "freeBytes", "()I"⟩, 11) := ⟨⟨by decide +kernel, by decide +kernel⟩, List.mem_of_getElem? (i := 82) (by decide +kernel), List.mem_of_getElem? (i := 430) (by decide +kernel), List.mem_of_getElem? (i := 431) (by decide +kernel)⟩
theorem lw_p42 : lw_okq (⟨"SettingStore$Reading", "freeBehindHandover", "()I"⟩, 11) := ⟨⟨by decide +kernel, by decide +kernel⟩, List.mem_of_getElem? (i := 82) (by decide +kernel), List.mem_of_getElem? (i := 434) (by decide +kernel), List.mem_of_getElem? (i := 435) (by decide +kernel)⟩
theorem lw_p43 : lw_okq (⟨"SettingStore$Reading", "valuedBytes", "()I"⟩, 11) := ⟨⟨by decide +kernel, by decide +kernel⟩, List.mem_of_getElem? (i := 82) (by decide +kernel), List.mem_of_getElem? (i := 438) (by decide +kernel), List.mem_of_getElem? (i := 439) (by decide +kernel)⟩
theorem lw_p44 : lw_okq (⟨"SettingStore$Store", "handOver", "()V"⟩, 7) := ⟨⟨by decide +kernel, by decide +kernel⟩, List.mem_of_getElem? (i := 28) (by decide +kernel), List.mem_of_getElem? (i := 442) (by decide +kernel), List.mem_of_getElem? (i := 443) (by decide +kernel)⟩
theorem lw_p45 : lw_okq (⟨"SettingStore$Reading", "valueOf", "(I)J"⟩, 11) := ⟨⟨by decide +kernel, by decide +kernel⟩, List.mem_of_getElem? (i := 82) (by decide +kernel), List.mem_of_getElem? (i := 452) (by decide +kernel), List.mem_of_getElem? (i := 453) (by decide +kernel)⟩
theorem lw_p46 : lw_okq (⟨"SettingStore$Reading", "numberAt", "(II)J"⟩, 11) := ⟨⟨by decide +kernel, by decide +kernel⟩, List.mem_of_getElem? (i := 82) (by decide +kernel), List.mem_of_getElem? (i := 457) (by decide +kernel), List.mem_of_getElem? (i := 458) (by decide +kernel)⟩
theorem lw_p47 : lw_okq (⟨"SettingStore$Reading", "clearedBits", "(I)I"⟩, 11) := ⟨⟨by decide +kernel, by decide +kernel⟩, List.mem_of_getElem? (i := 82) (by decide +kernel), List.mem_of_getElem? (i := 462) (by decide +kernel), List.mem_of_getElem? (i := 463) (by decide +kernel)⟩
def lw_privs_3 : List (MethodName × Nat) := [(⟨"SettingStore$Reading", "valuedSize", "(I)I"⟩, 11), (⟨"SettingStore$Reading", "newestOf", "(I)I"⟩, 11), (⟨"SettingStore$Store", "outcome", "(I)I"⟩, 7), (⟨"SettingStore$Chip", "arm", "(II)V"⟩, 10), (⟨"SettingStore$Chip", "decay", "(III)I"⟩, 10), (⟨"SettingStore$Change", "tell", "(III)I"⟩, 5), (⟨"SettingStore$Change", "find", "(I)I"⟩, 5), (⟨"SettingStore$Store", "keep", "(III)I"⟩, 7), (⟨"SettingStore$Store", "makeRoom", "(I)Z"⟩, 7), (⟨"SettingStore$Reading", "freeBytes", "()I"⟩, 11), (⟨"SettingStore$Reading", "freeBehindHandover", "()I"⟩, 11), (⟨"SettingStore$Reading", "valuedBytes", "()I"⟩, 11), (⟨"SettingStore$Store", "handOver", "()V"⟩, 7), (⟨"SettingStore$Reading", "valueOf", "(I)J"⟩, 11), (⟨"SettingStore$Reading", "numberAt", "(II)J"⟩, 11), (⟨"SettingStore$Reading", "clearedBits", "(I)I"⟩, 11)]
theorem lw_r3 : ∀ q ∈ lw_privs_3, lw_okq q := List.forall_mem_cons.mpr ⟨lw_p32, List.forall_mem_cons.mpr ⟨lw_p33, List.forall_mem_cons.mpr ⟨lw_p34, List.forall_mem_cons.mpr ⟨lw_p35, List.forall_mem_cons.mpr ⟨lw_p36, List.forall_mem_cons.mpr ⟨lw_p37, List.forall_mem_cons.mpr ⟨lw_p38, List.forall_mem_cons.mpr ⟨lw_p39, List.forall_mem_cons.mpr ⟨lw_p40, List.forall_mem_cons.mpr ⟨lw_p41, List.forall_mem_cons.mpr ⟨lw_p42, List.forall_mem_cons.mpr ⟨lw_p43, List.forall_mem_cons.mpr ⟨lw_p44, List.forall_mem_cons.mpr ⟨lw_p45, List.forall_mem_cons.mpr ⟨lw_p46, List.forall_mem_cons.mpr ⟨lw_p47, fun _ h => absurd h List.not_mem_nil⟩⟩⟩⟩⟩⟩⟩⟩⟩⟩⟩⟩⟩⟩⟩⟩
theorem lw_p48 : lw_okq (⟨"SettingStore$Reading", "newestLength", "(I)I"⟩, 11) := ⟨⟨by decide +kernel, by decide +kernel⟩, List.mem_of_getElem? (i := 82) (by decide +kernel), List.mem_of_getElem? (i := 472) (by decide +kernel), List.mem_of_getElem? (i := 473) (by decide +kernel)⟩
theorem lw_p49 : lw_okq (⟨"SettingStore$Draft", "fillSetting", "(IIII)V"⟩, 3) := ⟨⟨by decide +kernel, by decide +kernel⟩, List.mem_of_getElem? (i := 155) (by decide +kernel), List.mem_of_getElem? (i := 476) (by decide +kernel), List.mem_of_getElem? (i := 477) (by decide +kernel)⟩
theorem lw_p50 : lw_okq (⟨"SettingStore$Draft", "start", "(II)V"⟩, 3) := ⟨⟨by decide +kernel, by decide +kernel⟩, List.mem_of_getElem? (i := 155) (by decide +kernel), List.mem_of_getElem? (i := 480) (by decide +kernel), List.mem_of_getElem? (i := 481) (by decide +kernel)⟩
theorem lw_p51 : lw_okq (⟨"SettingStore$Draft", "put", "(I)V"⟩, 3) := ⟨⟨by decide +kernel, by decide +kernel⟩, List.mem_of_getElem? (i := 155) (by decide +kernel), List.mem_of_getElem? (i := 484) (by decide +kernel), List.mem_of_getElem? (i := 485) (by decide +kernel)⟩
theorem lw_p52 : lw_okq (⟨"SettingStore$Draft", "putBytes", "(II)V"⟩, 3) := ⟨⟨by decide +kernel, by decide +kernel⟩, List.mem_of_getElem? (i := 155) (by decide +kernel), List.mem_of_getElem? (i := 488) (by decide +kernel), List.mem_of_getElem? (i := 489) (by decide +kernel)⟩
theorem lw_p53 : lw_okq (⟨"SettingStore$Draft", "fillCounter", "(II)V"⟩, 3) := ⟨⟨by decide +kernel, by decide +kernel⟩, List.mem_of_getElem? (i := 155) (by decide +kernel), List.mem_of_getElem? (i := 493) (by decide +kernel), List.mem_of_getElem? (i := 494) (by decide +kernel)⟩
theorem lw_p54 : lw_okq (⟨"SettingStore$Chip", "writeDraft", "(IILSettingStore$Draft;)V"⟩, 10) := ⟨⟨by decide +kernel, by decide +kernel⟩, List.mem_of_getElem? (i := 34) (by decide +kernel), List.mem_of_getElem? (i := 497) (by decide +kernel), List.mem_of_getElem? (i := 498) (by decide +kernel)⟩
theorem lw_p55 : lw_okq (⟨"SettingStore$Store", "wouldHave", "(I)Z"⟩, 7) := ⟨⟨by decide +kernel, by decide +kernel⟩, List.mem_of_getElem? (i := 28) (by decide +kernel), List.mem_of_getElem? (i := 505) (by decide +kernel), List.mem_of_getElem? (i := 506) (by decide +kernel)⟩
theorem lw_p56 : lw_okq (⟨"SettingStore$Store", "countUp", "(I)I"⟩, 7) := ⟨⟨by decide +kernel, by decide +kernel⟩, List.mem_of_getElem? (i := 28) (by decide +kernel), List.mem_of_getElem? (i := 514) (by decide +kernel), List.mem_of_getElem? (i := 515) (by decide +kernel)⟩
theorem lw_p57 : lw_okq (⟨"SettingStore$Reading", "newestValue", "(I)J"⟩, 11) := ⟨⟨by decide +kernel, by decide +kernel⟩, List.mem_of_getElem? (i := 82) (by decide +kernel), List.mem_of_getElem? (i := 518) (by decide +kernel), List.mem_of_getElem? (i := 519) (by decide +kernel)⟩
theorem lw_p58 : lw_okq (⟨"SettingStore$Reading", "unspentPlace", "(I)I"⟩, 11) := ⟨⟨by decide +kernel, by decide +kernel⟩, List.mem_of_getElem? (i := 82) (by decide +kernel), List.mem_of_getElem? (i := 524) (by decide +kernel), List.mem_of_getElem? (i := 525) (by decide +kernel)⟩
theorem lw_p59 : lw_okq (⟨"SettingStore$Change", "start", "()V"⟩, 5) := ⟨⟨by decide +kernel, by decide +kernel⟩, List.mem_of_getElem? (i := 126) (by decide +kernel), List.mem_of_getElem? (i := 536) (by decide +kernel), List.mem_of_getElem? (i := 537) (by decide +kernel)⟩
theorem lw_p60 : lw_okq (⟨"SettingStore$Store", "writeChange", "()I"⟩, 7) := ⟨⟨by decide +kernel, by decide +kernel⟩, List.mem_of_getElem? (i := 28) (by decide +kernel), List.mem_of_getElem? (i := 545) (by decide +kernel), List.mem_of_getElem? (i := 546) (by decide +kernel)⟩
theorem lw_p61 : lw_okq (⟨"SettingStore$Change", "bytesToWrite", "()I"⟩, 5) := ⟨⟨by decide +kernel, by decide +kernel⟩, List.mem_of_getElem? (i := 126) (by decide +kernel), List.mem_of_getElem? (i := 549) (by decide +kernel), List.mem_of_getElem? (i := 550) (by decide +kernel)⟩
theorem lw_p62 : lw_okq (⟨"SettingStore$Draft", "fillCommit", "(I)V"⟩, 3) := ⟨⟨by decide +kernel, by decide +kernel⟩, List.mem_of_getElem? (i := 155) (by decide +kernel), List.mem_of_getElem? (i := 553) (by decide +kernel), List.mem_of_getElem? (i := 554) (by decide +kernel)⟩
theorem lw_p63 : lw_okq (⟨"SettingStore$Store", "handOverByHand", "()I"⟩, 7) := ⟨⟨by decide +kernel, by decide +kernel⟩, List.mem_of_getElem? (i := 28) (by decide +kernel), List.mem_of_getElem? (i := 578) (by decide +kernel), List.mem_of_getElem? (i := 579) (by decide +kernel)⟩
def lw_privs_4 : List (MethodName × Nat) := [(⟨"SettingStore$Reading", "newestLength", "(I)I"⟩, 11), (⟨"SettingStore$Draft", "fillSetting", "(IIII)V"⟩, 3), (⟨"SettingStore$Draft", "start", "(II)V"⟩, 3), (⟨"SettingStore$Draft", "put", "(I)V"⟩, 3), (⟨"SettingStore$Draft", "putBytes", "(II)V"⟩, 3), (⟨"SettingStore$Draft", "fillCounter", "(II)V"⟩, 3), (⟨"SettingStore$Chip", "writeDraft", "(IILSettingStore$Draft;)V"⟩, 10), (⟨"SettingStore$Store", "wouldHave", "(I)Z"⟩, 7), (⟨"SettingStore$Store", "countUp", "(I)I"⟩, 7), (⟨"SettingStore$Reading", "newestValue", "(I)J"⟩, 11), (⟨"SettingStore$Reading", "unspentPlace", "(I)I"⟩, 11), (⟨"SettingStore$Change", "start", "()V"⟩, 5), (⟨"SettingStore$Store", "writeChange", "()I"⟩, 7), (⟨"SettingStore$Change", "bytesToWrite", "()I"⟩, 5), (⟨"SettingStore$Draft", "fillCommit", "(I)V"⟩, 3), (⟨"SettingStore$Store", "handOverByHand", "()I"⟩, 7)]
theorem lw_r4 : ∀ q ∈ lw_privs_4, lw_okq q := List.forall_mem_cons.mpr ⟨lw_p48, List.forall_mem_cons.mpr ⟨lw_p49, List.forall_mem_cons.mpr ⟨lw_p50, List.forall_mem_cons.mpr ⟨lw_p51, List.forall_mem_cons.mpr ⟨lw_p52, List.forall_mem_cons.mpr ⟨lw_p53, List.forall_mem_cons.mpr ⟨lw_p54, List.forall_mem_cons.mpr ⟨lw_p55, List.forall_mem_cons.mpr ⟨lw_p56, List.forall_mem_cons.mpr ⟨lw_p57, List.forall_mem_cons.mpr ⟨lw_p58, List.forall_mem_cons.mpr ⟨lw_p59, List.forall_mem_cons.mpr ⟨lw_p60, List.forall_mem_cons.mpr ⟨lw_p61, List.forall_mem_cons.mpr ⟨lw_p62, List.forall_mem_cons.mpr ⟨lw_p63, fun _ h => absurd h List.not_mem_nil⟩⟩⟩⟩⟩⟩⟩⟩⟩⟩⟩⟩⟩⟩⟩⟩
theorem lw_p64 : lw_okq (⟨"SettingStore$Reading", "tell", "(II)I"⟩, 11) := ⟨⟨by decide +kernel, by decide +kernel⟩, List.mem_of_getElem? (i := 82) (by decide +kernel), List.mem_of_getElem? (i := 596) (by decide +kernel), List.mem_of_getElem? (i := 597) (by decide +kernel)⟩
theorem lw_p65 : lw_okq (⟨"SettingStore$Reading", "allBytes", "()I"⟩, 11) := ⟨⟨by decide +kernel, by decide +kernel⟩, List.mem_of_getElem? (i := 82) (by decide +kernel), List.mem_of_getElem? (i := 605) (by decide +kernel), List.mem_of_getElem? (i := 606) (by decide +kernel)⟩
theorem lw_p66 : lw_okq (⟨"SettingStore$Store", "costOf", "(I)I"⟩, 7) := ⟨⟨by decide +kernel, by decide +kernel⟩, List.mem_of_getElem? (i := 28) (by decide +kernel), List.mem_of_getElem? (i := 623) (by decide +kernel), List.mem_of_getElem? (i := 624) (by decide +kernel)⟩
theorem lw_p67 : lw_okq (⟨"SettingStore$Store", "handoverDoings", "()I"⟩, 7) := ⟨⟨by decide +kernel, by decide +kernel⟩, List.mem_of_getElem? (i := 28) (by decide +kernel), List.mem_of_getElem? (i := 627) (by decide +kernel), List.mem_of_getElem? (i := 628) (by decide +kernel)⟩
theorem lw_p68 : lw_okq (⟨"SettingStore$Reading", "copyWrites", "()I"⟩, 11) := ⟨⟨by decide +kernel, by decide +kernel⟩, List.mem_of_getElem? (i := 82) (by decide +kernel), List.mem_of_getElem? (i := 631) (by decide +kernel), List.mem_of_getElem? (i := 632) (by decide +kernel)⟩
theorem lw_p69 : lw_okq (⟨"SettingStore$Store", "copyFrom", "(LSettingStore$Store;)V"⟩, 7) := ⟨⟨by decide +kernel, by decide +kernel⟩, List.mem_of_getElem? (i := 28) (by decide +kernel), List.mem_of_getElem? (i := 639) (by decide +kernel), List.mem_of_getElem? (i := 640) (by decide +kernel)⟩
theorem lw_p70 : lw_okq (⟨"SettingStore$Chip", "copyFrom", "(LSettingStore$Chip;)V"⟩, 10) := ⟨⟨by decide +kernel, by decide +kernel⟩, List.mem_of_getElem? (i := 34) (by decide +kernel), List.mem_of_getElem? (i := 643) (by decide +kernel), List.mem_of_getElem? (i := 644) (by decide +kernel)⟩
theorem lw_p71 : lw_okq (⟨"SettingStore$Reading", "tellingOf", "(I)I"⟩, 11) := ⟨⟨by decide +kernel, by decide +kernel⟩, List.mem_of_getElem? (i := 82) (by decide +kernel), List.mem_of_getElem? (i := 654) (by decide +kernel), List.mem_of_getElem? (i := 655) (by decide +kernel)⟩
theorem lw_p72 : lw_okq (⟨"SettingStore$Reading", "tells", "(II)Z"⟩, 11) := ⟨⟨by decide +kernel, by decide +kernel⟩, List.mem_of_getElem? (i := 82) (by decide +kernel), List.mem_of_getElem? (i := 658) (by decide +kernel), List.mem_of_getElem? (i := 659) (by decide +kernel)⟩
theorem lw_p73 : lw_okq (⟨"SettingStore$Reading", "earlierValue", "(II)J"⟩, 11) := ⟨⟨by decide +kernel, by decide +kernel⟩, List.mem_of_getElem? (i := 82) (by decide +kernel), List.mem_of_getElem? (i := 662) (by decide +kernel), List.mem_of_getElem? (i := 663) (by decide +kernel)⟩
theorem lw_p74 : lw_okq (⟨"SettingStore$Store", "wearOut", "(I)V"⟩, 7) := ⟨⟨by decide +kernel, by decide +kernel⟩, List.mem_of_getElem? (i := 28) (by decide +kernel), List.mem_of_getElem? (i := 671) (by decide +kernel), List.mem_of_getElem? (i := 672) (by decide +kernel)⟩
theorem lw_p75 : lw_okq (⟨"SettingStore$Chip", "mostErases", "()I"⟩, 10) := ⟨⟨by decide +kernel, by decide +kernel⟩, List.mem_of_getElem? (i := 34) (by decide +kernel), List.mem_of_getElem? (i := 676) (by decide +kernel), List.mem_of_getElem? (i := 677) (by decide +kernel)⟩
theorem lw_p76 : lw_okq (⟨"SettingStore$Chip", "fewestErases", "()I"⟩, 10) := ⟨⟨by decide +kernel, by decide +kernel⟩, List.mem_of_getElem? (i := 34) (by decide +kernel), List.mem_of_getElem? (i := 683) (by decide +kernel), List.mem_of_getElem? (i := 684) (by decide +kernel)⟩
theorem lw_p77 : lw_okq (⟨"SettingStore$Chip", "allErases", "()I"⟩, 10) := ⟨⟨by decide +kernel, by decide +kernel⟩, List.mem_of_getElem? (i := 34) (by decide +kernel), List.mem_of_getElem? (i := 692) (by decide +kernel), List.mem_of_getElem? (i := 693) (by decide +kernel)⟩
theorem lw_p78 : lw_okq (⟨"java/lang/Throwable", "fillInStackTrace", "(I)Ljava/lang/Throwable;"⟩, 6) := ⟨⟨by decide +kernel, by decide +kernel⟩, List.mem_of_getElem? (i := 756) (by decide +kernel), List.mem_of_getElem? (i := 754) (by decide +kernel), List.mem_of_getElem? (i := 755) (by decide +kernel)⟩
theorem lw_p79 : lw_okq (⟨"SettingStoreModel", "makes", "(II)V"⟩, 15) := ⟨⟨by decide +kernel, by decide +kernel⟩, List.mem_of_getElem? (i := 786) (by decide +kernel), List.mem_of_getElem? (i := 792) (by decide +kernel), List.mem_of_getElem? (i := 793) (by decide +kernel)⟩
def lw_privs_5 : List (MethodName × Nat) := [(⟨"SettingStore$Reading", "tell", "(II)I"⟩, 11), (⟨"SettingStore$Reading", "allBytes", "()I"⟩, 11), (⟨"SettingStore$Store", "costOf", "(I)I"⟩, 7), (⟨"SettingStore$Store", "handoverDoings", "()I"⟩, 7), (⟨"SettingStore$Reading", "copyWrites", "()I"⟩, 11), (⟨"SettingStore$Store", "copyFrom", "(LSettingStore$Store;)V"⟩, 7), (⟨"SettingStore$Chip", "copyFrom", "(LSettingStore$Chip;)V"⟩, 10), (⟨"SettingStore$Reading", "tellingOf", "(I)I"⟩, 11), (⟨"SettingStore$Reading", "tells", "(II)Z"⟩, 11), (⟨"SettingStore$Reading", "earlierValue", "(II)J"⟩, 11), (⟨"SettingStore$Store", "wearOut", "(I)V"⟩, 7), (⟨"SettingStore$Chip", "mostErases", "()I"⟩, 10), (⟨"SettingStore$Chip", "fewestErases", "()I"⟩, 10), (⟨"SettingStore$Chip", "allErases", "()I"⟩, 10), (⟨"java/lang/Throwable", "fillInStackTrace", "(I)Ljava/lang/Throwable;"⟩, 6), (⟨"SettingStoreModel", "makes", "(II)V"⟩, 15)]
theorem lw_r5 : ∀ q ∈ lw_privs_5, lw_okq q := List.forall_mem_cons.mpr ⟨lw_p64, List.forall_mem_cons.mpr ⟨lw_p65, List.forall_mem_cons.mpr ⟨lw_p66, List.forall_mem_cons.mpr ⟨lw_p67, List.forall_mem_cons.mpr ⟨lw_p68, List.forall_mem_cons.mpr ⟨lw_p69, List.forall_mem_cons.mpr ⟨lw_p70, List.forall_mem_cons.mpr ⟨lw_p71, List.forall_mem_cons.mpr ⟨lw_p72, List.forall_mem_cons.mpr ⟨lw_p73, List.forall_mem_cons.mpr ⟨lw_p74, List.forall_mem_cons.mpr ⟨lw_p75, List.forall_mem_cons.mpr ⟨lw_p76, List.forall_mem_cons.mpr ⟨lw_p77, List.forall_mem_cons.mpr ⟨lw_p78, List.forall_mem_cons.mpr ⟨lw_p79, fun _ h => absurd h List.not_mem_nil⟩⟩⟩⟩⟩⟩⟩⟩⟩⟩⟩⟩⟩⟩⟩⟩
theorem lw_p80 : lw_okq (⟨"SettingStoreModel", "isOn", "()Z"⟩, 15) := ⟨⟨by decide +kernel, by decide +kernel⟩, List.mem_of_getElem? (i := 786) (by decide +kernel), List.mem_of_getElem? (i := 853) (by decide +kernel), List.mem_of_getElem? (i := 854) (by decide +kernel)⟩
theorem lw_p81 : lw_okq (⟨"SettingStoreModel", "begins", "()V"⟩, 15) := ⟨⟨by decide +kernel, by decide +kernel⟩, List.mem_of_getElem? (i := 786) (by decide +kernel), List.mem_of_getElem? (i := 857) (by decide +kernel), List.mem_of_getElem? (i := 858) (by decide +kernel)⟩
theorem lw_p82 : lw_okq (⟨"SettingStoreModel", "switchesOn", "()V"⟩, 15) := ⟨⟨by decide +kernel, by decide +kernel⟩, List.mem_of_getElem? (i := 786) (by decide +kernel), List.mem_of_getElem? (i := 861) (by decide +kernel), List.mem_of_getElem? (i := 862) (by decide +kernel)⟩
theorem lw_p83 : lw_okq (⟨"SettingStoreModel", "found", "()I"⟩, 15) := ⟨⟨by decide +kernel, by decide +kernel⟩, List.mem_of_getElem? (i := 786) (by decide +kernel), List.mem_of_getElem? (i := 865) (by decide +kernel), List.mem_of_getElem? (i := 866) (by decide +kernel)⟩
theorem lw_p84 : lw_okq (⟨"SettingStoreModel", "byteAt", "(II)I"⟩, 15) := ⟨⟨by decide +kernel, by decide +kernel⟩, List.mem_of_getElem? (i := 786) (by decide +kernel), List.mem_of_getElem? (i := 869) (by decide +kernel), List.mem_of_getElem? (i := 870) (by decide +kernel)⟩
theorem lw_p85 : lw_okq (⟨"SettingStoreModel", "numberOf", "(I)I"⟩, 15) := ⟨⟨by decide +kernel, by decide +kernel⟩, List.mem_of_getElem? (i := 786) (by decide +kernel), List.mem_of_getElem? (i := 876) (by decide +kernel), List.mem_of_getElem? (i := 877) (by decide +kernel)⟩
theorem lw_p86 : lw_okq (⟨"SettingStoreModel", "erasesOthers", "(I)V"⟩, 15) := ⟨⟨by decide +kernel, by decide +kernel⟩, List.mem_of_getElem? (i := 786) (by decide +kernel), List.mem_of_getElem? (i := 880) (by decide +kernel), List.mem_of_getElem? (i := 881) (by decide +kernel)⟩
theorem lw_p87 : lw_okq (⟨"SettingStoreModel", "isBlank", "(II)Z"⟩, 15) := ⟨⟨by decide +kernel, by decide +kernel⟩, List.mem_of_getElem? (i := 786) (by decide +kernel), List.mem_of_getElem? (i := 884) (by decide +kernel), List.mem_of_getElem? (i := 885) (by decide +kernel)⟩
theorem lw_p88 : lw_okq (⟨"SettingStoreModel", "erases", "(I)V"⟩, 15) := ⟨⟨by decide +kernel, by decide +kernel⟩, List.mem_of_getElem? (i := 786) (by decide +kernel), List.mem_of_getElem? (i := 888) (by decide +kernel), List.mem_of_getElem? (i := 889) (by decide +kernel)⟩
theorem lw_p89 : lw_okq (⟨"SettingStoreModel", "goes", "()Z"⟩, 15) := ⟨⟨by decide +kernel, by decide +kernel⟩, List.mem_of_getElem? (i := 786) (by decide +kernel), List.mem_of_getElem? (i := 892) (by decide +kernel), List.mem_of_getElem? (i := 893) (by decide +kernel)⟩
theorem lw_p90 : lw_okq (⟨"SettingStoreModel", "leastErased", "(I)I"⟩, 15) := ⟨⟨by decide +kernel, by decide +kernel⟩, List.mem_of_getElem? (i := 786) (by decide +kernel), List.mem_of_getElem? (i := 896) (by decide +kernel), List.mem_of_getElem? (i := 897) (by decide +kernel)⟩
theorem lw_p91 : lw_okq (⟨"SettingStoreModel", "makesReady", "(II)V"⟩, 15) := ⟨⟨by decide +kernel, by decide +kernel⟩, List.mem_of_getElem? (i := 786) (by decide +kernel), List.mem_of_getElem? (i := 900) (by decide +kernel), List.mem_of_getElem? (i := 901) (by decide +kernel)⟩
theorem lw_p92 : lw_okq (⟨"SettingStoreModel", "writes", "(III)V"⟩, 15) := ⟨⟨by decide +kernel, by decide +kernel⟩, List.mem_of_getElem? (i := 786) (by decide +kernel), List.mem_of_getElem? (i := 904) (by decide +kernel), List.mem_of_getElem? (i := 905) (by decide +kernel)⟩
theorem lw_p93 : lw_okq (⟨"SettingStoreModel", "reads", "(I)V"⟩, 15) := ⟨⟨by decide +kernel, by decide +kernel⟩, List.mem_of_getElem? (i := 786) (by decide +kernel), List.mem_of_getElem? (i := 908) (by decide +kernel), List.mem_of_getElem? (i := 909) (by decide +kernel)⟩
theorem lw_p94 : lw_okq (⟨"SettingStoreModel", "sortAt", "(II)I"⟩, 15) := ⟨⟨by decide +kernel, by decide +kernel⟩, List.mem_of_getElem? (i := 786) (by decide +kernel), List.mem_of_getElem? (i := 912) (by decide +kernel), List.mem_of_getElem? (i := 913) (by decide +kernel)⟩
theorem lw_p95 : lw_okq (⟨"SettingStoreModel", "sizeBy", "(II)I"⟩, 15) := ⟨⟨by decide +kernel, by decide +kernel⟩, List.mem_of_getElem? (i := 786) (by decide +kernel), List.mem_of_getElem? (i := 916) (by decide +kernel), List.mem_of_getElem? (i := 917) (by decide +kernel)⟩
def lw_privs_6 : List (MethodName × Nat) := [(⟨"SettingStoreModel", "isOn", "()Z"⟩, 15), (⟨"SettingStoreModel", "begins", "()V"⟩, 15), (⟨"SettingStoreModel", "switchesOn", "()V"⟩, 15), (⟨"SettingStoreModel", "found", "()I"⟩, 15), (⟨"SettingStoreModel", "byteAt", "(II)I"⟩, 15), (⟨"SettingStoreModel", "numberOf", "(I)I"⟩, 15), (⟨"SettingStoreModel", "erasesOthers", "(I)V"⟩, 15), (⟨"SettingStoreModel", "isBlank", "(II)Z"⟩, 15), (⟨"SettingStoreModel", "erases", "(I)V"⟩, 15), (⟨"SettingStoreModel", "goes", "()Z"⟩, 15), (⟨"SettingStoreModel", "leastErased", "(I)I"⟩, 15), (⟨"SettingStoreModel", "makesReady", "(II)V"⟩, 15), (⟨"SettingStoreModel", "writes", "(III)V"⟩, 15), (⟨"SettingStoreModel", "reads", "(I)V"⟩, 15), (⟨"SettingStoreModel", "sortAt", "(II)I"⟩, 15), (⟨"SettingStoreModel", "sizeBy", "(II)I"⟩, 15)]
theorem lw_r6 : ∀ q ∈ lw_privs_6, lw_okq q := List.forall_mem_cons.mpr ⟨lw_p80, List.forall_mem_cons.mpr ⟨lw_p81, List.forall_mem_cons.mpr ⟨lw_p82, List.forall_mem_cons.mpr ⟨lw_p83, List.forall_mem_cons.mpr ⟨lw_p84, List.forall_mem_cons.mpr ⟨lw_p85, List.forall_mem_cons.mpr ⟨lw_p86, List.forall_mem_cons.mpr ⟨lw_p87, List.forall_mem_cons.mpr ⟨lw_p88, List.forall_mem_cons.mpr ⟨lw_p89, List.forall_mem_cons.mpr ⟨lw_p90, List.forall_mem_cons.mpr ⟨lw_p91, List.forall_mem_cons.mpr ⟨lw_p92, List.forall_mem_cons.mpr ⟨lw_p93, List.forall_mem_cons.mpr ⟨lw_p94, List.forall_mem_cons.mpr ⟨lw_p95, fun _ h => absurd h List.not_mem_nil⟩⟩⟩⟩⟩⟩⟩⟩⟩⟩⟩⟩⟩⟩⟩⟩
theorem lw_p96 : lw_okq (⟨"SettingStoreModel", "checked", "(I)I"⟩, 15) := ⟨⟨by decide +kernel, by decide +kernel⟩, List.mem_of_getElem? (i := 786) (by decide +kernel), List.mem_of_getElem? (i := 920) (by decide +kernel), List.mem_of_getElem? (i := 921) (by decide +kernel)⟩
theorem lw_p97 : lw_okq (⟨"SettingStoreModel", "sumOf", "(III)I"⟩, 15) := ⟨⟨by decide +kernel, by decide +kernel⟩, List.mem_of_getElem? (i := 786) (by decide +kernel), List.mem_of_getElem? (i := 924) (by decide +kernel), List.mem_of_getElem? (i := 925) (by decide +kernel)⟩
theorem lw_p98 : lw_okq (⟨"SettingStoreModel", "commits", "(I)V"⟩, 15) := ⟨⟨by decide +kernel, by decide +kernel⟩, List.mem_of_getElem? (i := 786) (by decide +kernel), List.mem_of_getElem? (i := 928) (by decide +kernel), List.mem_of_getElem? (i := 929) (by decide +kernel)⟩
theorem lw_p99 : lw_okq (⟨"SettingStoreModel", "valued", "(I)I"⟩, 15) := ⟨⟨by decide +kernel, by decide +kernel⟩, List.mem_of_getElem? (i := 786) (by decide +kernel), List.mem_of_getElem? (i := 932) (by decide +kernel), List.mem_of_getElem? (i := 933) (by decide +kernel)⟩
theorem lw_p100 : lw_okq (⟨"SettingStoreModel", "hasValue", "(II)Z"⟩, 15) := ⟨⟨by decide +kernel, by decide +kernel⟩, List.mem_of_getElem? (i := 786) (by decide +kernel), List.mem_of_getElem? (i := 936) (by decide +kernel), List.mem_of_getElem? (i := 937) (by decide +kernel)⟩
theorem lw_p101 : lw_okq (⟨"SettingStoreModel", "lengthOf", "(II)I"⟩, 15) := ⟨⟨by decide +kernel, by decide +kernel⟩, List.mem_of_getElem? (i := 786) (by decide +kernel), List.mem_of_getElem? (i := 940) (by decide +kernel), List.mem_of_getElem? (i := 941) (by decide +kernel)⟩
theorem lw_p102 : lw_okq (⟨"SettingStoreModel", "isSector", "(I)Z"⟩, 15) := ⟨⟨by decide +kernel, by decide +kernel⟩, List.mem_of_getElem? (i := 786) (by decide +kernel), List.mem_of_getElem? (i := 956) (by decide +kernel), List.mem_of_getElem? (i := 957) (by decide +kernel)⟩
theorem lw_p103 : lw_okq (⟨"SettingStoreModel", "isSetting", "(II)Z"⟩, 15) := ⟨⟨by decide +kernel, by decide +kernel⟩, List.mem_of_getElem? (i := 786) (by decide +kernel), List.mem_of_getElem? (i := 964) (by decide +kernel), List.mem_of_getElem? (i := 965) (by decide +kernel)⟩
theorem lw_p104 : lw_okq (⟨"SettingStoreModel", "sets", "(III)I"⟩, 15) := ⟨⟨by decide +kernel, by decide +kernel⟩, List.mem_of_getElem? (i := 786) (by decide +kernel), List.mem_of_getElem? (i := 968) (by decide +kernel), List.mem_of_getElem? (i := 969) (by decide +kernel)⟩
theorem lw_p105 : lw_okq (⟨"SettingStoreModel", "tells", "(III)I"⟩, 15) := ⟨⟨by decide +kernel, by decide +kernel⟩, List.mem_of_getElem? (i := 786) (by decide +kernel), List.mem_of_getElem? (i := 972) (by decide +kernel), List.mem_of_getElem? (i := 973) (by decide +kernel)⟩
theorem lw_p106 : lw_okq (⟨"SettingStoreModel", "inChange", "(I)I"⟩, 15) := ⟨⟨by decide +kernel, by decide +kernel⟩, List.mem_of_getElem? (i := 786) (by decide +kernel), List.mem_of_getElem? (i := 976) (by decide +kernel), List.mem_of_getElem? (i := 977) (by decide +kernel)⟩
theorem lw_p107 : lw_okq (⟨"SettingStoreModel", "makesRoom", "(I)Z"⟩, 15) := ⟨⟨by decide +kernel, by decide +kernel⟩, List.mem_of_getElem? (i := 786) (by decide +kernel), List.mem_of_getElem? (i := 980) (by decide +kernel), List.mem_of_getElem? (i := 981) (by decide +kernel)⟩
theorem lw_p108 : lw_okq (⟨"SettingStoreModel", "freeNow", "()I"⟩, 15) := ⟨⟨by decide +kernel, by decide +kernel⟩, List.mem_of_getElem? (i := 786) (by decide +kernel), List.mem_of_getElem? (i := 984) (by decide +kernel), List.mem_of_getElem? (i := 985) (by decide +kernel)⟩
theorem lw_p109 : lw_okq (⟨"SettingStoreModel", "freeThen", "()I"⟩, 15) := ⟨⟨by decide +kernel, by decide +kernel⟩, List.mem_of_getElem? (i := 786) (by decide +kernel), List.mem_of_getElem? (i := 988) (by decide +kernel), List.mem_of_getElem? (i := 989) (by decide +kernel)⟩
theorem lw_p110 : lw_okq (⟨"SettingStoreModel", "sizeNext", "(I)I"⟩, 15) := ⟨⟨by decide +kernel, by decide +kernel⟩, List.mem_of_getElem? (i := 786) (by decide +kernel), List.mem_of_getElem? (i := 992) (by decide +kernel), List.mem_of_getElem? (i := 993) (by decide +kernel)⟩
theorem lw_p111 : lw_okq (⟨"SettingStoreModel", "handsOver", "()V"⟩, 15) := ⟨⟨by decide +kernel, by decide +kernel⟩, List.mem_of_getElem? (i := 786) (by decide +kernel), List.mem_of_getElem? (i := 996) (by decide +kernel), List.mem_of_getElem? (i := 997) (by decide +kernel)⟩
def lw_privs_7 : List (MethodName × Nat) := [(⟨"SettingStoreModel", "checked", "(I)I"⟩, 15), (⟨"SettingStoreModel", "sumOf", "(III)I"⟩, 15), (⟨"SettingStoreModel", "commits", "(I)V"⟩, 15), (⟨"SettingStoreModel", "valued", "(I)I"⟩, 15), (⟨"SettingStoreModel", "hasValue", "(II)Z"⟩, 15), (⟨"SettingStoreModel", "lengthOf", "(II)I"⟩, 15), (⟨"SettingStoreModel", "isSector", "(I)Z"⟩, 15), (⟨"SettingStoreModel", "isSetting", "(II)Z"⟩, 15), (⟨"SettingStoreModel", "sets", "(III)I"⟩, 15), (⟨"SettingStoreModel", "tells", "(III)I"⟩, 15), (⟨"SettingStoreModel", "inChange", "(I)I"⟩, 15), (⟨"SettingStoreModel", "makesRoom", "(I)Z"⟩, 15), (⟨"SettingStoreModel", "freeNow", "()I"⟩, 15), (⟨"SettingStoreModel", "freeThen", "()I"⟩, 15), (⟨"SettingStoreModel", "sizeNext", "(I)I"⟩, 15), (⟨"SettingStoreModel", "handsOver", "()V"⟩, 15)]
theorem lw_r7 : ∀ q ∈ lw_privs_7, lw_okq q := List.forall_mem_cons.mpr ⟨lw_p96, List.forall_mem_cons.mpr ⟨lw_p97, List.forall_mem_cons.mpr ⟨lw_p98, List.forall_mem_cons.mpr ⟨lw_p99, List.forall_mem_cons.mpr ⟨lw_p100, List.forall_mem_cons.mpr ⟨lw_p101, List.forall_mem_cons.mpr ⟨lw_p102, List.forall_mem_cons.mpr ⟨lw_p103, List.forall_mem_cons.mpr ⟨lw_p104, List.forall_mem_cons.mpr ⟨lw_p105, List.forall_mem_cons.mpr ⟨lw_p106, List.forall_mem_cons.mpr ⟨lw_p107, List.forall_mem_cons.mpr ⟨lw_p108, List.forall_mem_cons.mpr ⟨lw_p109, List.forall_mem_cons.mpr ⟨lw_p110, List.forall_mem_cons.mpr ⟨lw_p111, fun _ h => absurd h List.not_mem_nil⟩⟩⟩⟩⟩⟩⟩⟩⟩⟩⟩⟩⟩⟩⟩⟩
theorem lw_p112 : lw_okq (⟨"SettingStoreModel", "valueOf", "(II)J"⟩, 15) := ⟨⟨by decide +kernel, by decide +kernel⟩, List.mem_of_getElem? (i := 786) (by decide +kernel), List.mem_of_getElem? (i := 1001) (by decide +kernel), List.mem_of_getElem? (i := 1002) (by decide +kernel)⟩
theorem lw_p113 : lw_okq (⟨"SettingStoreModel", "number", "(III)J"⟩, 15) := ⟨⟨by decide +kernel, by decide +kernel⟩, List.mem_of_getElem? (i := 786) (by decide +kernel), List.mem_of_getElem? (i := 1005) (by decide +kernel), List.mem_of_getElem? (i := 1006) (by decide +kernel)⟩
theorem lw_p114 : lw_okq (⟨"SettingStoreModel", "zeros", "(II)I"⟩, 15) := ⟨⟨by decide +kernel, by decide +kernel⟩, List.mem_of_getElem? (i := 786) (by decide +kernel), List.mem_of_getElem? (i := 1009) (by decide +kernel), List.mem_of_getElem? (i := 1010) (by decide +kernel)⟩
theorem lw_p115 : lw_okq (⟨"SettingStoreModel", "laysCounter", "(II)V"⟩, 15) := ⟨⟨by decide +kernel, by decide +kernel⟩, List.mem_of_getElem? (i := 786) (by decide +kernel), List.mem_of_getElem? (i := 1015) (by decide +kernel), List.mem_of_getElem? (i := 1016) (by decide +kernel)⟩
theorem lw_p116 : lw_okq (⟨"SettingStoreModel", "lays", "(I)V"⟩, 15) := ⟨⟨by decide +kernel, by decide +kernel⟩, List.mem_of_getElem? (i := 786) (by decide +kernel), List.mem_of_getElem? (i := 1019) (by decide +kernel), List.mem_of_getElem? (i := 1020) (by decide +kernel)⟩
theorem lw_p117 : lw_okq (⟨"SettingStoreModel", "laysCheck", "()V"⟩, 15) := ⟨⟨by decide +kernel, by decide +kernel⟩, List.mem_of_getElem? (i := 786) (by decide +kernel), List.mem_of_getElem? (i := 1023) (by decide +kernel), List.mem_of_getElem? (i := 1024) (by decide +kernel)⟩
theorem lw_p118 : lw_okq (⟨"SettingStoreModel", "laysSetting", "(IIIJ)V"⟩, 15) := ⟨⟨by decide +kernel, by decide +kernel⟩, List.mem_of_getElem? (i := 786) (by decide +kernel), List.mem_of_getElem? (i := 1027) (by decide +kernel), List.mem_of_getElem? (i := 1028) (by decide +kernel)⟩
theorem lw_p119 : lw_okq (⟨"SettingStoreModel", "told", "()I"⟩, 15) := ⟨⟨by decide +kernel, by decide +kernel⟩, List.mem_of_getElem? (i := 786) (by decide +kernel), List.mem_of_getElem? (i := 1031) (by decide +kernel), List.mem_of_getElem? (i := 1032) (by decide +kernel)⟩
theorem lw_p120 : lw_okq (⟨"SettingStoreModel", "goesUp", "(II)Z"⟩, 15) := ⟨⟨by decide +kernel, by decide +kernel⟩, List.mem_of_getElem? (i := 786) (by decide +kernel), List.mem_of_getElem? (i := 1044) (by decide +kernel), List.mem_of_getElem? (i := 1045) (by decide +kernel)⟩
theorem lw_p121 : lw_okq (⟨"SettingStoreModel", "isTag", "(I)Z"⟩, 15) := ⟨⟨by decide +kernel, by decide +kernel⟩, List.mem_of_getElem? (i := 786) (by decide +kernel), List.mem_of_getElem? (i := 1072) (by decide +kernel), List.mem_of_getElem? (i := 1073) (by decide +kernel)⟩
theorem lw_p122 : lw_okq (⟨"SettingStoreModel", "valueNow", "(I)J"⟩, 15) := ⟨⟨by decide +kernel, by decide +kernel⟩, List.mem_of_getElem? (i := 786) (by decide +kernel), List.mem_of_getElem? (i := 1076) (by decide +kernel), List.mem_of_getElem? (i := 1077) (by decide +kernel)⟩
theorem lw_p123 : lw_okq (⟨"SettingStoreModel", "wouldCost", "(I)I"⟩, 15) := ⟨⟨by decide +kernel, by decide +kernel⟩, List.mem_of_getElem? (i := 786) (by decide +kernel), List.mem_of_getElem? (i := 1117) (by decide +kernel), List.mem_of_getElem? (i := 1118) (by decide +kernel)⟩
theorem lw_p124 : lw_okq (⟨"SettingStoreModel", "putsAside", "()V"⟩, 15) := ⟨⟨by decide +kernel, by decide +kernel⟩, List.mem_of_getElem? (i := 786) (by decide +kernel), List.mem_of_getElem? (i := 1121) (by decide +kernel), List.mem_of_getElem? (i := 1122) (by decide +kernel)⟩
theorem lw_p125 : lw_okq (⟨"SettingStoreModel", "putsBack", "()V"⟩, 15) := ⟨⟨by decide +kernel, by decide +kernel⟩, List.mem_of_getElem? (i := 786) (by decide +kernel), List.mem_of_getElem? (i := 1125) (by decide +kernel), List.mem_of_getElem? (i := 1126) (by decide +kernel)⟩
theorem lw_p126 : lw_okq (⟨"SettingStoreModel", "isOf", "(III)Z"⟩, 15) := ⟨⟨by decide +kernel, by decide +kernel⟩, List.mem_of_getElem? (i := 786) (by decide +kernel), List.mem_of_getElem? (i := 1137) (by decide +kernel), List.mem_of_getElem? (i := 1138) (by decide +kernel)⟩
theorem lw_p127 : lw_okq (⟨"SettingStoreModel", "extreme", "(Z)I"⟩, 15) := ⟨⟨by decide +kernel, by decide +kernel⟩, List.mem_of_getElem? (i := 786) (by decide +kernel), List.mem_of_getElem? (i := 1146) (by decide +kernel), List.mem_of_getElem? (i := 1147) (by decide +kernel)⟩
def lw_privs_8 : List (MethodName × Nat) := [(⟨"SettingStoreModel", "valueOf", "(II)J"⟩, 15), (⟨"SettingStoreModel", "number", "(III)J"⟩, 15), (⟨"SettingStoreModel", "zeros", "(II)I"⟩, 15), (⟨"SettingStoreModel", "laysCounter", "(II)V"⟩, 15), (⟨"SettingStoreModel", "lays", "(I)V"⟩, 15), (⟨"SettingStoreModel", "laysCheck", "()V"⟩, 15), (⟨"SettingStoreModel", "laysSetting", "(IIIJ)V"⟩, 15), (⟨"SettingStoreModel", "told", "()I"⟩, 15), (⟨"SettingStoreModel", "goesUp", "(II)Z"⟩, 15), (⟨"SettingStoreModel", "isTag", "(I)Z"⟩, 15), (⟨"SettingStoreModel", "valueNow", "(I)J"⟩, 15), (⟨"SettingStoreModel", "wouldCost", "(I)I"⟩, 15), (⟨"SettingStoreModel", "putsAside", "()V"⟩, 15), (⟨"SettingStoreModel", "putsBack", "()V"⟩, 15), (⟨"SettingStoreModel", "isOf", "(III)Z"⟩, 15), (⟨"SettingStoreModel", "extreme", "(Z)I"⟩, 15)]
theorem lw_r8 : ∀ q ∈ lw_privs_8, lw_okq q := List.forall_mem_cons.mpr ⟨lw_p112, List.forall_mem_cons.mpr ⟨lw_p113, List.forall_mem_cons.mpr ⟨lw_p114, List.forall_mem_cons.mpr ⟨lw_p115, List.forall_mem_cons.mpr ⟨lw_p116, List.forall_mem_cons.mpr ⟨lw_p117, List.forall_mem_cons.mpr ⟨lw_p118, List.forall_mem_cons.mpr ⟨lw_p119, List.forall_mem_cons.mpr ⟨lw_p120, List.forall_mem_cons.mpr ⟨lw_p121, List.forall_mem_cons.mpr ⟨lw_p122, List.forall_mem_cons.mpr ⟨lw_p123, List.forall_mem_cons.mpr ⟨lw_p124, List.forall_mem_cons.mpr ⟨lw_p125, List.forall_mem_cons.mpr ⟨lw_p126, List.forall_mem_cons.mpr ⟨lw_p127, fun _ h => absurd h List.not_mem_nil⟩⟩⟩⟩⟩⟩⟩⟩⟩⟩⟩⟩⟩⟩⟩⟩
theorem lw_p128 : lw_okq (⟨"SettingStoreModel", "erasesOfAll", "()I"⟩, 15) := ⟨⟨by decide +kernel, by decide +kernel⟩, List.mem_of_getElem? (i := 786) (by decide +kernel), List.mem_of_getElem? (i := 1154) (by decide +kernel), List.mem_of_getElem? (i := 1155) (by decide +kernel)⟩
def lw_privs_9 : List (MethodName × Nat) := [(⟨"SettingStoreModel", "erasesOfAll", "()I"⟩, 15)]
theorem lw_r9 : ∀ q ∈ lw_privs_9, lw_okq q := List.forall_mem_cons.mpr ⟨lw_p128, fun _ h => absurd h List.not_mem_nil⟩
def lw_privs : List (MethodName × Nat) := lw_privs_1 ++ (lw_privs_2 ++ (lw_privs_3 ++ (lw_privs_4 ++ (lw_privs_5 ++ (lw_privs_6 ++ (lw_privs_7 ++ (lw_privs_8 ++ (lw_privs_9))))))))
def lw_tbl : List Cond := k2_sels lw_privs ++ tables_1
theorem lw_privs_ok : ∀ q ∈ lw_privs, lw_okq q := by
  show ∀ q ∈ lw_privs_1 ++ (lw_privs_2 ++ (lw_privs_3 ++ (lw_privs_4 ++ (lw_privs_5 ++ (lw_privs_6 ++ (lw_privs_7 ++ (lw_privs_8 ++ (lw_privs_9)))))))), lw_okq q
  exact List.forall_mem_append.mpr ⟨lw_r1, List.forall_mem_append.mpr ⟨lw_r2, List.forall_mem_append.mpr ⟨lw_r3, List.forall_mem_append.mpr ⟨lw_r4, List.forall_mem_append.mpr ⟨lw_r5, List.forall_mem_append.mpr ⟨lw_r6, List.forall_mem_append.mpr ⟨lw_r7, List.forall_mem_append.mpr ⟨lw_r8, lw_r9⟩⟩⟩⟩⟩⟩⟩⟩
/-- the streams that the claim lets the run draw from -/
abbrev lw_cs : List Choice := [Jvm.Choice.named "NaN.bits"]
theorem lw_bits : nanBits ∈ lw_cs := by first | decide | exact List.mem_cons_self | simp [lw_cs, nanBits]
def RX0 : String := "SettingStore$Change"
def TX0 : u_T := fun k => match k with
  | 0 => ("SettingStore$Change", "labels", "[I", true)
  | 1 => ("SettingStore$Change", "values", "[I", true)
  | 2 => ("SettingStore$Change", "lengths", "[I", true)
  | 3 => ("SettingStore$Change", "begun", "Z", false)
  | _ => ("SettingStore$Change", "told", "I", false)
def tyX0 : Nat → FieldType := fun k => match k with
  | 0 => .array .int
  | 1 => .array .int
  | 2 => .array .int
  | 3 => .boolean
  | _ => .int
abbrev wsX00 : List Cond := u_ws RX0 TX0 5
theorem nmX0 : ∀ a, a < 5 → ∀ b, b < 5 → a ≠ b → (TX0 a).2.1 ≠ (TX0 b).2.1 := by decide +kernel
theorem tyX0_ok : ∀ k, k < 5 → parseFieldDescriptor (TX0 k).2.2.1 = some (tyX0 k) := by decide +kernel
abbrev cX0_init : ByteArray := prog_2_method_1_code
def yX0_init : MethodName := ⟨RX0, "<init>", "()V"⟩
abbrev cX0_start : ByteArray := prog_2_method_2_code
def yX0_start : MethodName := ⟨RX0, "start", "()V"⟩
abbrev cX0_forget : ByteArray := prog_2_method_3_code
def yX0_forget : MethodName := ⟨RX0, "forget", "()V"⟩
abbrev cX0_find : ByteArray := prog_2_method_4_code
def yX0_find : MethodName := ⟨RX0, "find", "(I)I"⟩
abbrev cX0_tell : ByteArray := prog_2_method_5_code
def yX0_tell : MethodName := ⟨RX0, "tell", "(III)I"⟩
abbrev cX0_bytesToWrite : ByteArray := prog_2_method_6_code
def yX0_bytesToWrite : MethodName := ⟨RX0, "bytesToWrite", "()I"⟩
def RX1 : String := "SettingStore$Chip"
def TX1 : u_T := fun k => match k with
  | 0 => ("SettingStore$Chip", "cells", "[I", true)
  | 1 => ("SettingStore$Chip", "erases", "[I", true)
  | 2 => ("SettingStore$Chip", "sectors", "I", false)
  | 3 => ("SettingStore$Chip", "size", "I", false)
  | 4 => ("SettingStore$Chip", "writes", "I", false)
  | 5 => ("SettingStore$Chip", "doings", "I", false)
  | 6 => ("SettingStore$Chip", "powered", "Z", false)
  | 7 => ("SettingStore$Chip", "powerIn", "I", false)
  | 8 => ("SettingStore$Chip", "mask", "I", false)
  | _ => ("SettingStore$Chip", "outages", "I", false)
def tyX1 : Nat → FieldType := fun k => match k with
  | 0 => .array .int
  | 1 => .array .int
  | 2 => .int
  | 3 => .int
  | 4 => .int
  | 5 => .int
  | 6 => .boolean
  | 7 => .int
  | 8 => .int
  | _ => .int
abbrev wsX10 : List Cond := u_ws RX1 TX1 10
theorem nmX1 : ∀ a, a < 10 → ∀ b, b < 10 → a ≠ b → (TX1 a).2.1 ≠ (TX1 b).2.1 := by decide +kernel
theorem tyX1_ok : ∀ k, k < 10 → parseFieldDescriptor (TX1 k).2.2.1 = some (tyX1 k) := by decide +kernel
abbrev cX1_init : ByteArray := prog_3_method_1_code
def yX1_init : MethodName := ⟨RX1, "<init>", "()V"⟩
abbrev cX1_renew : ByteArray := prog_3_method_2_code
def yX1_renew : MethodName := ⟨RX1, "renew", "(II)V"⟩
abbrev cX1_copyFrom : ByteArray := prog_3_method_3_code
def yX1_copyFrom : MethodName := ⟨RX1, "copyFrom", "(LSettingStore$Chip;)V"⟩
abbrev cX1_arm : ByteArray := prog_3_method_4_code
def yX1_arm : MethodName := ⟨RX1, "arm", "(II)V"⟩
abbrev cX1_hasSector : ByteArray := prog_3_method_5_code
def yX1_hasSector : MethodName := ⟨RX1, "hasSector", "(I)Z"⟩
abbrev cX1_holds : ByteArray := prog_3_method_6_code
def yX1_holds : MethodName := ⟨RX1, "holds", "(II)Z"⟩
abbrev cX1_peek : ByteArray := prog_3_method_7_code
def yX1_peek : MethodName := ⟨RX1, "peek", "(II)I"⟩
abbrev cX1_decay : ByteArray := prog_3_method_8_code
def yX1_decay : MethodName := ⟨RX1, "decay", "(III)I"⟩
abbrev cX1_write : ByteArray := prog_3_method_9_code
def yX1_write : MethodName := ⟨RX1, "write", "(III)V"⟩
abbrev cX1_erase : ByteArray := prog_3_method_10_code
def yX1_erase : MethodName := ⟨RX1, "erase", "(I)V"⟩
abbrev cX1_endures : ByteArray := prog_3_method_11_code
def yX1_endures : MethodName := ⟨RX1, "endures", "()Z"⟩
abbrev cX1_makeReady : ByteArray := prog_3_method_12_code
def yX1_makeReady : MethodName := ⟨RX1, "makeReady", "(II)V"⟩
abbrev cX1_writeDraft : ByteArray := prog_3_method_13_code
def yX1_writeDraft : MethodName := ⟨RX1, "writeDraft", "(IILSettingStore$Draft;)V"⟩
abbrev cX1_eraseAllBut : ByteArray := prog_3_method_14_code
def yX1_eraseAllBut : MethodName := ⟨RX1, "eraseAllBut", "(I)V"⟩
abbrev cX1_isBlank : ByteArray := prog_3_method_15_code
def yX1_isBlank : MethodName := ⟨RX1, "isBlank", "(I)Z"⟩
abbrev cX1_usedEnd : ByteArray := prog_3_method_16_code
def yX1_usedEnd : MethodName := ⟨RX1, "usedEnd", "(I)I"⟩
abbrev cX1_copySector : ByteArray := prog_3_method_17_code
def yX1_copySector : MethodName := ⟨RX1, "copySector", "(I[I)V"⟩
abbrev cX1_numberOf : ByteArray := prog_3_method_18_code
def yX1_numberOf : MethodName := ⟨RX1, "numberOf", "(I)I"⟩
abbrev cX1_isActive : ByteArray := prog_3_method_19_code
def yX1_isActive : MethodName := ⟨RX1, "isActive", "(I)Z"⟩
abbrev cX1_greatestActive : ByteArray := prog_3_method_20_code
def yX1_greatestActive : MethodName := ⟨RX1, "greatestActive", "()I"⟩
abbrev cX1_leastErased : ByteArray := prog_3_method_21_code
def yX1_leastErased : MethodName := ⟨RX1, "leastErased", "(I)I"⟩
abbrev cX1_erasesOf : ByteArray := prog_3_method_22_code
def yX1_erasesOf : MethodName := ⟨RX1, "erasesOf", "(I)I"⟩
abbrev cX1_mostErases : ByteArray := prog_3_method_23_code
def yX1_mostErases : MethodName := ⟨RX1, "mostErases", "()I"⟩
abbrev cX1_fewestErases : ByteArray := prog_3_method_24_code
def yX1_fewestErases : MethodName := ⟨RX1, "fewestErases", "()I"⟩
abbrev cX1_allErases : ByteArray := prog_3_method_25_code
def yX1_allErases : MethodName := ⟨RX1, "allErases", "()I"⟩
def RX2 : String := "SettingStore$Draft"
def TX2 : u_T := fun k => match k with
  | 0 => ("SettingStore$Draft", "row", "[I", true)
  | 1 => ("SettingStore$Draft", "used", "I", false)
  | _ => ("SettingStore$Draft", "sum", "I", false)
def tyX2 : Nat → FieldType := fun k => match k with
  | 0 => .array .int
  | 1 => .int
  | _ => .int
abbrev wsX20 : List Cond := u_ws RX2 TX2 3
theorem nmX2 : ∀ a, a < 3 → ∀ b, b < 3 → a ≠ b → (TX2 a).2.1 ≠ (TX2 b).2.1 := by decide +kernel
theorem tyX2_ok : ∀ k, k < 3 → parseFieldDescriptor (TX2 k).2.2.1 = some (tyX2 k) := by decide +kernel
abbrev cX2_init : ByteArray := prog_4_method_1_code
def yX2_init : MethodName := ⟨RX2, "<init>", "()V"⟩
abbrev cX2_fillSetting : ByteArray := prog_4_method_2_code
def yX2_fillSetting : MethodName := ⟨RX2, "fillSetting", "(IIII)V"⟩
abbrev cX2_fillCounter : ByteArray := prog_4_method_3_code
def yX2_fillCounter : MethodName := ⟨RX2, "fillCounter", "(II)V"⟩
abbrev cX2_fillCommit : ByteArray := prog_4_method_4_code
def yX2_fillCommit : MethodName := ⟨RX2, "fillCommit", "(I)V"⟩
abbrev cX2_start : ByteArray := prog_4_method_5_code
def yX2_start : MethodName := ⟨RX2, "start", "(II)V"⟩
abbrev cX2_putBytes : ByteArray := prog_4_method_6_code
def yX2_putBytes : MethodName := ⟨RX2, "putBytes", "(II)V"⟩
abbrev cX2_put : ByteArray := prog_4_method_7_code
def yX2_put : MethodName := ⟨RX2, "put", "(I)V"⟩
def RX3 : String := "SettingStore$Reading"
def TX3 : u_T := fun k => match k with
  | 0 => ("SettingStore$Reading", "row", "[I", true)
  | 1 => ("SettingStore$Reading", "places", "[I", true)
  | 2 => ("SettingStore$Reading", "kinds", "[I", true)
  | 3 => ("SettingStore$Reading", "labels", "[I", true)
  | 4 => ("SettingStore$Reading", "sizes", "[I", true)
  | 5 => ("SettingStore$Reading", "marks", "[I", true)
  | 6 => ("SettingStore$Reading", "newest", "[I", true)
  | 7 => ("SettingStore$Reading", "size", "I", false)
  | 8 => ("SettingStore$Reading", "entries", "I", false)
  | 9 => ("SettingStore$Reading", "free", "I", false)
  | _ => ("SettingStore$Reading", "lost", "I", false)
def tyX3 : Nat → FieldType := fun k => match k with
  | 0 => .array .int
  | 1 => .array .int
  | 2 => .array .int
  | 3 => .array .int
  | 4 => .array .int
  | 5 => .array .int
  | 6 => .array .int
  | 7 => .int
  | 8 => .int
  | 9 => .int
  | _ => .int
abbrev wsX30 : List Cond := u_ws RX3 TX3 11
theorem nmX3 : ∀ a, a < 11 → ∀ b, b < 11 → a ≠ b → (TX3 a).2.1 ≠ (TX3 b).2.1 := by decide +kernel
theorem tyX3_ok : ∀ k, k < 11 → parseFieldDescriptor (TX3 k).2.2.1 = some (tyX3 k) := by decide +kernel
abbrev cX3_init : ByteArray := prog_5_method_1_code
def yX3_init : MethodName := ⟨RX3, "<init>", "()V"⟩
abbrev cX3_scan : ByteArray := prog_5_method_2_code
def yX3_scan : MethodName := ⟨RX3, "scan", "(LSettingStore$Chip;I)V"⟩
abbrev cX3_takeEntry : ByteArray := prog_5_method_3_code
def yX3_takeEntry : MethodName := ⟨RX3, "takeEntry", "(I)I"⟩
abbrev cX3_kindOf : ByteArray := prog_5_method_4_code
def yX3_kindOf : MethodName := ⟨RX3, "kindOf", "(II)I"⟩
abbrev cX3_sizeOf : ByteArray := prog_5_method_5_code
def yX3_sizeOf : MethodName := ⟨RX3, "sizeOf", "(II)I"⟩
abbrev cX3_firstMark : ByteArray := prog_5_method_6_code
def yX3_firstMark : MethodName := ⟨RX3, "firstMark", "(III)I"⟩
abbrev cX3_settleParts : ByteArray := prog_5_method_7_code
def yX3_settleParts : MethodName := ⟨RX3, "settleParts", "(I)V"⟩
abbrev cX3_markNewest : ByteArray := prog_5_method_8_code
def yX3_markNewest : MethodName := ⟨RX3, "markNewest", "()V"⟩
abbrev cX3_byteAt : ByteArray := prog_5_method_9_code
def yX3_byteAt : MethodName := ⟨RX3, "byteAt", "(I)I"⟩
abbrev cX3_has : ByteArray := prog_5_method_10_code
def yX3_has : MethodName := ⟨RX3, "has", "(I)Z"⟩
abbrev cX3_tell : ByteArray := prog_5_method_11_code
def yX3_tell : MethodName := ⟨RX3, "tell", "(II)I"⟩
abbrev cX3_freeBytes : ByteArray := prog_5_method_12_code
def yX3_freeBytes : MethodName := ⟨RX3, "freeBytes", "()I"⟩
abbrev cX3_freeBehindHandover : ByteArray := prog_5_method_13_code
def yX3_freeBehindHandover : MethodName := ⟨RX3, "freeBehindHandover", "()I"⟩
abbrev cX3_newestOf : ByteArray := prog_5_method_14_code
def yX3_newestOf : MethodName := ⟨RX3, "newestOf", "(I)I"⟩
abbrev cX3_hasValue : ByteArray := prog_5_method_15_code
def yX3_hasValue : MethodName := ⟨RX3, "hasValue", "(I)Z"⟩
abbrev cX3_valuedSize : ByteArray := prog_5_method_16_code
def yX3_valuedSize : MethodName := ⟨RX3, "valuedSize", "(I)I"⟩
abbrev cX3_newestValue : ByteArray := prog_5_method_17_code
def yX3_newestValue : MethodName := ⟨RX3, "newestValue", "(I)J"⟩
abbrev cX3_newestLength : ByteArray := prog_5_method_18_code
def yX3_newestLength : MethodName := ⟨RX3, "newestLength", "(I)I"⟩
abbrev cX3_valueOf : ByteArray := prog_5_method_19_code
def yX3_valueOf : MethodName := ⟨RX3, "valueOf", "(I)J"⟩
abbrev cX3_numberAt : ByteArray := prog_5_method_20_code
def yX3_numberAt : MethodName := ⟨RX3, "numberAt", "(II)J"⟩
abbrev cX3_clearedBits : ByteArray := prog_5_method_21_code
def yX3_clearedBits : MethodName := ⟨RX3, "clearedBits", "(I)I"⟩
abbrev cX3_unspentPlace : ByteArray := prog_5_method_22_code
def yX3_unspentPlace : MethodName := ⟨RX3, "unspentPlace", "(I)I"⟩
abbrev cX3_tells : ByteArray := prog_5_method_23_code
def yX3_tells : MethodName := ⟨RX3, "tells", "(II)Z"⟩
abbrev cX3_tellingOf : ByteArray := prog_5_method_24_code
def yX3_tellingOf : MethodName := ⟨RX3, "tellingOf", "(I)I"⟩
abbrev cX3_earlierValue : ByteArray := prog_5_method_25_code
def yX3_earlierValue : MethodName := ⟨RX3, "earlierValue", "(II)J"⟩
abbrev cX3_allBytes : ByteArray := prog_5_method_26_code
def yX3_allBytes : MethodName := ⟨RX3, "allBytes", "()I"⟩
abbrev cX3_valuedBytes : ByteArray := prog_5_method_27_code
def yX3_valuedBytes : MethodName := ⟨RX3, "valuedBytes", "()I"⟩
abbrev cX3_copyWrites : ByteArray := prog_5_method_28_code
def yX3_copyWrites : MethodName := ⟨RX3, "copyWrites", "()I"⟩
abbrev cX3_valuedTags : ByteArray := prog_5_method_29_code
def yX3_valuedTags : MethodName := ⟨RX3, "valuedTags", "()J"⟩
def RX4 : String := "SettingStore$Store"
def TX4 : u_T := fun k => match k with
  | 0 => ("SettingStore$Store", "chip", "LSettingStore$Chip;", true)
  | 1 => ("SettingStore$Store", "reading", "LSettingStore$Reading;", true)
  | 2 => ("SettingStore$Store", "change", "LSettingStore$Change;", true)
  | 3 => ("SettingStore$Store", "draft", "LSettingStore$Draft;", true)
  | 4 => ("SettingStore$Store", "inUse", "I", false)
  | 5 => ("SettingStore$Store", "handovers", "I", false)
  | _ => ("SettingStore$Store", "pen", "I", false)
def tyX4 : Nat → FieldType := fun k => match k with
  | 0 => .object "SettingStore$Chip"
  | 1 => .object "SettingStore$Reading"
  | 2 => .object "SettingStore$Change"
  | 3 => .object "SettingStore$Draft"
  | 4 => .int
  | 5 => .int
  | _ => .int
abbrev wsX40 : List Cond := u_ws RX4 TX4 7
theorem nmX4 : ∀ a, a < 7 → ∀ b, b < 7 → a ≠ b → (TX4 a).2.1 ≠ (TX4 b).2.1 := by decide +kernel
theorem tyX4_ok : ∀ k, k < 7 → parseFieldDescriptor (TX4 k).2.2.1 = some (tyX4 k) := by decide +kernel
abbrev cX4_init : ByteArray := prog_6_method_1_code
def yX4_init : MethodName := ⟨RX4, "<init>", "()V"⟩
abbrev cX4_renew : ByteArray := prog_6_method_2_code
def yX4_renew : MethodName := ⟨RX4, "renew", "(II)V"⟩
abbrev cX4_copyFrom : ByteArray := prog_6_method_3_code
def yX4_copyFrom : MethodName := ⟨RX4, "copyFrom", "(LSettingStore$Store;)V"⟩
abbrev cX4_isOn : ByteArray := prog_6_method_4_code
def yX4_isOn : MethodName := ⟨RX4, "isOn", "()Z"⟩
abbrev cX4_switchOff : ByteArray := prog_6_method_5_code
def yX4_switchOff : MethodName := ⟨RX4, "switchOff", "()V"⟩
abbrev cX4_switchOn : ByteArray := prog_6_method_6_code
def yX4_switchOn : MethodName := ⟨RX4, "switchOn", "()I"⟩
abbrev cX4_outcome : ByteArray := prog_6_method_7_code
def yX4_outcome : MethodName := ⟨RX4, "outcome", "(I)I"⟩
abbrev cX4_look : ByteArray := prog_6_method_8_code
def yX4_look : MethodName := ⟨RX4, "look", "()LSettingStore$Reading;"⟩
abbrev cX4_wouldHave : ByteArray := prog_6_method_9_code
def yX4_wouldHave : MethodName := ⟨RX4, "wouldHave", "(I)Z"⟩
abbrev cX4_keep : ByteArray := prog_6_method_10_code
def yX4_keep : MethodName := ⟨RX4, "keep", "(III)I"⟩
abbrev cX4_countUp : ByteArray := prog_6_method_11_code
def yX4_countUp : MethodName := ⟨RX4, "countUp", "(I)I"⟩
abbrev cX4_highestBit : ByteArray := prog_6_method_12_code
def yX4_highestBit : MethodName := ⟨RX4, "highestBit", "(I)I"⟩
abbrev cX4_writeChange : ByteArray := prog_6_method_13_code
def yX4_writeChange : MethodName := ⟨RX4, "writeChange", "()I"⟩
abbrev cX4_makeRoom : ByteArray := prog_6_method_14_code
def yX4_makeRoom : MethodName := ⟨RX4, "makeRoom", "(I)Z"⟩
abbrev cX4_handOverByHand : ByteArray := prog_6_method_15_code
def yX4_handOverByHand : MethodName := ⟨RX4, "handOverByHand", "()I"⟩
abbrev cX4_handOver : ByteArray := prog_6_method_16_code
def yX4_handOver : MethodName := ⟨RX4, "handOver", "()V"⟩
abbrev cX4_costOf : ByteArray := prog_6_method_17_code
def yX4_costOf : MethodName := ⟨RX4, "costOf", "(I)I"⟩
abbrev cX4_handoverDoings : ByteArray := prog_6_method_18_code
def yX4_handoverDoings : MethodName := ⟨RX4, "handoverDoings", "()I"⟩
abbrev cX4_wearOut : ByteArray := prog_6_method_19_code
def yX4_wearOut : MethodName := ⟨RX4, "wearOut", "(I)V"⟩
def RX5 : String := "SettingStore"
def TX5 : u_T := fun k => match k with
  | 0 => ("SettingStore", "store", "LSettingStore$Store;", true)
  | _ => ("SettingStore", "trial", "LSettingStore$Store;", true)
def tyX5 : Nat → FieldType := fun k => match k with
  | 0 => .object "SettingStore$Store"
  | _ => .object "SettingStore$Store"
abbrev wsX50 : List Cond := u_ws RX5 TX5 2
theorem nmX5 : ∀ a, a < 2 → ∀ b, b < 2 → a ≠ b → (TX5 a).2.1 ≠ (TX5 b).2.1 := by decide +kernel
theorem tyX5_ok : ∀ k, k < 2 → parseFieldDescriptor (TX5 k).2.2.1 = some (tyX5 k) := by decide +kernel
abbrev cX5_init : ByteArray := prog_1_method_1_code
def yX5_init : MethodName := ⟨RX5, "<init>", "()V"⟩
abbrev cX5_chip : ByteArray := prog_1_method_2_code
def yX5_chip : MethodName := ⟨RX5, "chip", "(II)Z"⟩
abbrev cX5_on : ByteArray := prog_1_method_3_code
def yX5_on : MethodName := ⟨RX5, "on", "()I"⟩
abbrev cX5_off : ByteArray := prog_1_method_4_code
def yX5_off : MethodName := ⟨RX5, "off", "()Z"⟩
abbrev cX5_power : ByteArray := prog_1_method_5_code
def yX5_power : MethodName := ⟨RX5, "power", "(II)Z"⟩
abbrev cX5_rot : ByteArray := prog_1_method_6_code
def yX5_rot : MethodName := ⟨RX5, "rot", "(III)I"⟩
abbrev cX5_set : ByteArray := prog_1_method_7_code
def yX5_set : MethodName := ⟨RX5, "set", "(III)I"⟩
abbrev cX5_drop : ByteArray := prog_1_method_8_code
def yX5_drop : MethodName := ⟨RX5, "drop", "(I)I"⟩
abbrev cX5_bump : ByteArray := prog_1_method_9_code
def yX5_bump : MethodName := ⟨RX5, "bump", "(I)I"⟩
abbrev cX5_begin : ByteArray := prog_1_method_10_code
def yX5_begin : MethodName := ⟨RX5, "begin", "()Z"⟩
abbrev cX5_commit : ByteArray := prog_1_method_11_code
def yX5_commit : MethodName := ⟨RX5, "commit", "()I"⟩
abbrev cX5_abort : ByteArray := prog_1_method_12_code
def yX5_abort : MethodName := ⟨RX5, "abort", "()I"⟩
abbrev cX5_get : ByteArray := prog_1_method_13_code
def yX5_get : MethodName := ⟨RX5, "get", "(I)J"⟩
abbrev cX5_length : ByteArray := prog_1_method_14_code
def yX5_length : MethodName := ⟨RX5, "length", "(I)I"⟩
abbrev cX5_hand : ByteArray := prog_1_method_15_code
def yX5_hand : MethodName := ⟨RX5, "hand", "()I"⟩
abbrev cX5_at : ByteArray := prog_1_method_16_code
def yX5_at : MethodName := ⟨RX5, "at", "(II)I"⟩
abbrev cX5_sector : ByteArray := prog_1_method_17_code
def yX5_sector : MethodName := ⟨RX5, "sector", "(II)I"⟩
abbrev cX5_entry : ByteArray := prog_1_method_18_code
def yX5_entry : MethodName := ⟨RX5, "entry", "(III)I"⟩
abbrev cX5_space : ByteArray := prog_1_method_19_code
def yX5_space : MethodName := ⟨RX5, "space", "(II)I"⟩
abbrev cX5_until : ByteArray := prog_1_method_20_code
def yX5_until : MethodName := ⟨RX5, "until", "(I)I"⟩
abbrev cX5_after : ByteArray := prog_1_method_21_code
def yX5_after : MethodName := ⟨RX5, "after", "()I"⟩
abbrev cX5_costs : ByteArray := prog_1_method_22_code
def yX5_costs : MethodName := ⟨RX5, "costs", "(I)I"⟩
abbrev cX5_torn : ByteArray := prog_1_method_23_code
def yX5_torn : MethodName := ⟨RX5, "torn", "(IIIIII)J"⟩
abbrev cX5_history : ByteArray := prog_1_method_24_code
def yX5_history : MethodName := ⟨RX5, "history", "(II)J"⟩
abbrev cX5_wears : ByteArray := prog_1_method_25_code
def yX5_wears : MethodName := ⟨RX5, "wears", "(II)I"⟩
abbrev cX5_wear : ByteArray := prog_1_method_26_code
def yX5_wear : MethodName := ⟨RX5, "wear", "(I)I"⟩
abbrev cX5_tags : ByteArray := prog_1_method_27_code
def yX5_tags : MethodName := ⟨RX5, "tags", "()J"⟩
abbrev cX5_count : ByteArray := prog_1_method_28_code
def yX5_count : MethodName := ⟨RX5, "count", "(I)I"⟩
abbrev cX5_within : ByteArray := prog_1_method_29_code
def yX5_within : MethodName := ⟨RX5, "within", "(III)Z"⟩
abbrev cX5_isTag : ByteArray := prog_1_method_30_code
def yX5_isTag : MethodName := ⟨RX5, "isTag", "(I)Z"⟩
abbrev cX5_isSetting : ByteArray := prog_1_method_31_code
def yX5_isSetting : MethodName := ⟨RX5, "isSetting", "(II)Z"⟩
abbrev cX5_checkOf : ByteArray := prog_1_method_32_code
def yX5_checkOf : MethodName := ⟨RX5, "checkOf", "(I)I"⟩
abbrev cX5_unevenness : ByteArray := prog_1_method_33_code
def yX5_unevenness : MethodName := ⟨RX5, "unevenness", "(LSettingStore$Chip;)I"⟩
abbrev cX5_bitsOf : ByteArray := prog_1_method_34_code
def yX5_bitsOf : MethodName := ⟨RX5, "bitsOf", "(F)I"⟩
def RX6 : String := "SettingStoreModel"
def TX6 : u_T := fun k => match k with
  | 0 => ("SettingStoreModel", "x", "[I", true)
  | 1 => ("SettingStoreModel", "kept", "[I", true)
  | 2 => ("SettingStoreModel", "thrown", "I", false)
  | 3 => ("SettingStoreModel", "isGone", "Z", false)
  | 4 => ("SettingStoreModel", "entries", "I", false)
  | 5 => ("SettingStoreModel", "free", "I", false)
  | 6 => ("SettingStoreModel", "lost", "I", false)
  | 7 => ("SettingStoreModel", "place", "[I", true)
  | 8 => ("SettingStoreModel", "sort", "[I", true)
  | 9 => ("SettingStoreModel", "size", "[I", true)
  | 10 => ("SettingStoreModel", "state", "[I", true)
  | 11 => ("SettingStoreModel", "newest", "[I", true)
  | 12 => ("SettingStoreModel", "toSector", "I", false)
  | 13 => ("SettingStoreModel", "toPlace", "I", false)
  | _ => ("SettingStoreModel", "sum", "I", false)
def tyX6 : Nat → FieldType := fun k => match k with
  | 0 => .array .int
  | 1 => .array .int
  | 2 => .int
  | 3 => .boolean
  | 4 => .int
  | 5 => .int
  | 6 => .int
  | 7 => .array .int
  | 8 => .array .int
  | 9 => .array .int
  | 10 => .array .int
  | 11 => .array .int
  | 12 => .int
  | 13 => .int
  | _ => .int
abbrev wsX60 : List Cond := u_ws RX6 TX6 15
theorem nmX6 : ∀ a, a < 15 → ∀ b, b < 15 → a ≠ b → (TX6 a).2.1 ≠ (TX6 b).2.1 := by decide +kernel
theorem tyX6_ok : ∀ k, k < 15 → parseFieldDescriptor (TX6 k).2.2.1 = some (tyX6 k) := by decide +kernel
abbrev cX6_init : ByteArray := prog_8_method_1_code
def yX6_init : MethodName := ⟨RX6, "<init>", "()V"⟩
abbrev cX6_within : ByteArray := prog_8_method_3_code
def yX6_within : MethodName := ⟨RX6, "within", "(III)Z"⟩
abbrev cX6_isOn : ByteArray := prog_8_method_4_code
def yX6_isOn : MethodName := ⟨RX6, "isOn", "()Z"⟩
abbrev cX6_isSector : ByteArray := prog_8_method_5_code
def yX6_isSector : MethodName := ⟨RX6, "isSector", "(I)Z"⟩
abbrev cX6_byteAt : ByteArray := prog_8_method_6_code
def yX6_byteAt : MethodName := ⟨RX6, "byteAt", "(II)I"⟩
abbrev cX6_makes : ByteArray := prog_8_method_7_code
def yX6_makes : MethodName := ⟨RX6, "makes", "(II)V"⟩
abbrev cX6_chip : ByteArray := prog_8_method_8_code
def yX6_chip : MethodName := ⟨RX6, "chip", "(II)Z"⟩
abbrev cX6_putsAside : ByteArray := prog_8_method_9_code
def yX6_putsAside : MethodName := ⟨RX6, "putsAside", "()V"⟩
abbrev cX6_putsBack : ByteArray := prog_8_method_10_code
def yX6_putsBack : MethodName := ⟨RX6, "putsBack", "()V"⟩
abbrev cX6_goes : ByteArray := prog_8_method_11_code
def yX6_goes : MethodName := ⟨RX6, "goes", "()Z"⟩
abbrev cX6_writes : ByteArray := prog_8_method_12_code
def yX6_writes : MethodName := ⟨RX6, "writes", "(III)V"⟩
abbrev cX6_erases : ByteArray := prog_8_method_13_code
def yX6_erases : MethodName := ⟨RX6, "erases", "(I)V"⟩
abbrev cX6_begins : ByteArray := prog_8_method_14_code
def yX6_begins : MethodName := ⟨RX6, "begins", "()V"⟩
abbrev cX6_told : ByteArray := prog_8_method_15_code
def yX6_told : MethodName := ⟨RX6, "told", "()I"⟩
abbrev cX6_isBlank : ByteArray := prog_8_method_16_code
def yX6_isBlank : MethodName := ⟨RX6, "isBlank", "(II)Z"⟩
abbrev cX6_check : ByteArray := prog_8_method_17_code
def yX6_check : MethodName := ⟨RX6, "check", "(I)I"⟩
abbrev cX6_sumOf : ByteArray := prog_8_method_18_code
def yX6_sumOf : MethodName := ⟨RX6, "sumOf", "(III)I"⟩
abbrev cX6_sortAt : ByteArray := prog_8_method_19_code
def yX6_sortAt : MethodName := ⟨RX6, "sortAt", "(II)I"⟩
abbrev cX6_sizeBy : ByteArray := prog_8_method_20_code
def yX6_sizeBy : MethodName := ⟨RX6, "sizeBy", "(II)I"⟩
abbrev cX6_checked : ByteArray := prog_8_method_21_code
def yX6_checked : MethodName := ⟨RX6, "checked", "(I)I"⟩
abbrev cX6_reads : ByteArray := prog_8_method_22_code
def yX6_reads : MethodName := ⟨RX6, "reads", "(I)V"⟩
abbrev cX6_commits : ByteArray := prog_8_method_23_code
def yX6_commits : MethodName := ⟨RX6, "commits", "(I)V"⟩
abbrev cX6_number : ByteArray := prog_8_method_24_code
def yX6_number : MethodName := ⟨RX6, "number", "(III)J"⟩
abbrev cX6_zeros : ByteArray := prog_8_method_25_code
def yX6_zeros : MethodName := ⟨RX6, "zeros", "(II)I"⟩
abbrev cX6_valueOf : ByteArray := prog_8_method_26_code
def yX6_valueOf : MethodName := ⟨RX6, "valueOf", "(II)J"⟩
abbrev cX6_lengthOf : ByteArray := prog_8_method_27_code
def yX6_lengthOf : MethodName := ⟨RX6, "lengthOf", "(II)I"⟩
abbrev cX6_hasValue : ByteArray := prog_8_method_28_code
def yX6_hasValue : MethodName := ⟨RX6, "hasValue", "(II)Z"⟩
abbrev cX6_valued : ByteArray := prog_8_method_29_code
def yX6_valued : MethodName := ⟨RX6, "valued", "(I)I"⟩
abbrev cX6_leastErased : ByteArray := prog_8_method_30_code
def yX6_leastErased : MethodName := ⟨RX6, "leastErased", "(I)I"⟩
abbrev cX6_numberOf : ByteArray := prog_8_method_31_code
def yX6_numberOf : MethodName := ⟨RX6, "numberOf", "(I)I"⟩
abbrev cX6_makesReady : ByteArray := prog_8_method_32_code
def yX6_makesReady : MethodName := ⟨RX6, "makesReady", "(II)V"⟩
abbrev cX6_erasesOthers : ByteArray := prog_8_method_33_code
def yX6_erasesOthers : MethodName := ⟨RX6, "erasesOthers", "(I)V"⟩
abbrev cX6_found : ByteArray := prog_8_method_34_code
def yX6_found : MethodName := ⟨RX6, "found", "()I"⟩
abbrev cX6_switchesOn : ByteArray := prog_8_method_35_code
def yX6_switchesOn : MethodName := ⟨RX6, "switchesOn", "()V"⟩
abbrev cX6_on : ByteArray := prog_8_method_36_code
def yX6_on : MethodName := ⟨RX6, "on", "()I"⟩
abbrev cX6_off : ByteArray := prog_8_method_37_code
def yX6_off : MethodName := ⟨RX6, "off", "()Z"⟩
abbrev cX6_power : ByteArray := prog_8_method_38_code
def yX6_power : MethodName := ⟨RX6, "power", "(II)Z"⟩
abbrev cX6_rot : ByteArray := prog_8_method_39_code
def yX6_rot : MethodName := ⟨RX6, "rot", "(III)I"⟩
abbrev cX6_lays : ByteArray := prog_8_method_40_code
def yX6_lays : MethodName := ⟨RX6, "lays", "(I)V"⟩
abbrev cX6_laysCheck : ByteArray := prog_8_method_41_code
def yX6_laysCheck : MethodName := ⟨RX6, "laysCheck", "()V"⟩
abbrev cX6_laysSetting : ByteArray := prog_8_method_42_code
def yX6_laysSetting : MethodName := ⟨RX6, "laysSetting", "(IIIJ)V"⟩
abbrev cX6_laysCounter : ByteArray := prog_8_method_43_code
def yX6_laysCounter : MethodName := ⟨RX6, "laysCounter", "(II)V"⟩
abbrev cX6_sizeNext : ByteArray := prog_8_method_44_code
def yX6_sizeNext : MethodName := ⟨RX6, "sizeNext", "(I)I"⟩
abbrev cX6_handsOver : ByteArray := prog_8_method_45_code
def yX6_handsOver : MethodName := ⟨RX6, "handsOver", "()V"⟩
abbrev cX6_freeNow : ByteArray := prog_8_method_46_code
def yX6_freeNow : MethodName := ⟨RX6, "freeNow", "()I"⟩
abbrev cX6_freeThen : ByteArray := prog_8_method_47_code
def yX6_freeThen : MethodName := ⟨RX6, "freeThen", "()I"⟩
abbrev cX6_makesRoom : ByteArray := prog_8_method_48_code
def yX6_makesRoom : MethodName := ⟨RX6, "makesRoom", "(I)Z"⟩
abbrev cX6_inChange : ByteArray := prog_8_method_49_code
def yX6_inChange : MethodName := ⟨RX6, "inChange", "(I)I"⟩
abbrev cX6_tells : ByteArray := prog_8_method_50_code
def yX6_tells : MethodName := ⟨RX6, "tells", "(III)I"⟩
abbrev cX6_sets : ByteArray := prog_8_method_51_code
def yX6_sets : MethodName := ⟨RX6, "sets", "(III)I"⟩
abbrev cX6_isSetting : ByteArray := prog_8_method_52_code
def yX6_isSetting : MethodName := ⟨RX6, "isSetting", "(II)Z"⟩
abbrev cX6_set : ByteArray := prog_8_method_53_code
def yX6_set : MethodName := ⟨RX6, "set", "(III)I"⟩
abbrev cX6_drop : ByteArray := prog_8_method_54_code
def yX6_drop : MethodName := ⟨RX6, "drop", "(I)I"⟩
abbrev cX6_goesUp : ByteArray := prog_8_method_55_code
def yX6_goesUp : MethodName := ⟨RX6, "goesUp", "(II)Z"⟩
abbrev cX6_bump : ByteArray := prog_8_method_56_code
def yX6_bump : MethodName := ⟨RX6, "bump", "(I)I"⟩
abbrev cX6_begin : ByteArray := prog_8_method_57_code
def yX6_begin : MethodName := ⟨RX6, "begin", "()Z"⟩
abbrev cX6_commit : ByteArray := prog_8_method_58_code
def yX6_commit : MethodName := ⟨RX6, "commit", "()I"⟩
abbrev cX6_abort : ByteArray := prog_8_method_59_code
def yX6_abort : MethodName := ⟨RX6, "abort", "()I"⟩
abbrev cX6_isTag : ByteArray := prog_8_method_60_code
def yX6_isTag : MethodName := ⟨RX6, "isTag", "(I)Z"⟩
abbrev cX6_valueNow : ByteArray := prog_8_method_61_code
def yX6_valueNow : MethodName := ⟨RX6, "valueNow", "(I)J"⟩
abbrev cX6_get : ByteArray := prog_8_method_62_code
def yX6_get : MethodName := ⟨RX6, "get", "(I)J"⟩
abbrev cX6_length : ByteArray := prog_8_method_63_code
def yX6_length : MethodName := ⟨RX6, "length", "(I)I"⟩
abbrev cX6_hand : ByteArray := prog_8_method_64_code
def yX6_hand : MethodName := ⟨RX6, "hand", "()I"⟩
abbrev cX6_at : ByteArray := prog_8_method_65_code
def yX6_at : MethodName := ⟨RX6, "at", "(II)I"⟩
abbrev cX6_sector : ByteArray := prog_8_method_66_code
def yX6_sector : MethodName := ⟨RX6, "sector", "(II)I"⟩
abbrev cX6_entry : ByteArray := prog_8_method_67_code
def yX6_entry : MethodName := ⟨RX6, "entry", "(III)I"⟩
abbrev cX6_space : ByteArray := prog_8_method_68_code
def yX6_space : MethodName := ⟨RX6, "space", "(II)I"⟩
abbrev cX6_until : ByteArray := prog_8_method_69_code
def yX6_until : MethodName := ⟨RX6, "until", "(I)I"⟩
abbrev cX6_after : ByteArray := prog_8_method_70_code
def yX6_after : MethodName := ⟨RX6, "after", "()I"⟩
abbrev cX6_wouldCost : ByteArray := prog_8_method_71_code
def yX6_wouldCost : MethodName := ⟨RX6, "wouldCost", "(I)I"⟩
abbrev cX6_costs : ByteArray := prog_8_method_72_code
def yX6_costs : MethodName := ⟨RX6, "costs", "(I)I"⟩
abbrev cX6_torn : ByteArray := prog_8_method_73_code
def yX6_torn : MethodName := ⟨RX6, "torn", "(IIIIII)J"⟩
abbrev cX6_isOf : ByteArray := prog_8_method_74_code
def yX6_isOf : MethodName := ⟨RX6, "isOf", "(III)Z"⟩
abbrev cX6_history : ByteArray := prog_8_method_75_code
def yX6_history : MethodName := ⟨RX6, "history", "(II)J"⟩
abbrev cX6_extreme : ByteArray := prog_8_method_76_code
def yX6_extreme : MethodName := ⟨RX6, "extreme", "(Z)I"⟩
abbrev cX6_wears : ByteArray := prog_8_method_77_code
def yX6_wears : MethodName := ⟨RX6, "wears", "(II)I"⟩
abbrev cX6_erasesOfAll : ByteArray := prog_8_method_78_code
def yX6_erasesOfAll : MethodName := ⟨RX6, "erasesOfAll", "()I"⟩
abbrev cX6_wear : ByteArray := prog_8_method_79_code
def yX6_wear : MethodName := ⟨RX6, "wear", "(I)I"⟩
abbrev cX6_tags : ByteArray := prog_8_method_80_code
def yX6_tags : MethodName := ⟨RX6, "tags", "()J"⟩
abbrev cX6_count : ByteArray := prog_8_method_81_code
def yX6_count : MethodName := ⟨RX6, "count", "(I)I"⟩
def RJx145de : String := "java/io/Serializable"
def TJx145de : u_T := fun k => match k with
  | _ => ("", "", "", false)
def tyJx145de : Nat → FieldType := fun k => match k with
  | _ => .int
def RJxb160c : String := "java/lang/Comparable"
def TJxb160c : u_T := fun k => match k with
  | _ => ("", "", "", false)
def tyJxb160c : Nat → FieldType := fun k => match k with
  | _ => .int
def RJxf58ca : String := "java/lang/Float"
def TJxf58ca : u_T := fun k => match k with
  | _ => ("", "", "", false)
def tyJxf58ca : Nat → FieldType := fun k => match k with
  | _ => .int
abbrev cJxf58ca_isNaN_12338 : ByteArray := prog_12_method_6_code
def yJxf58ca_isNaN_12338 : MethodName := ⟨RJxf58ca, "isNaN", "(F)Z"⟩
abbrev cJxf58ca_floatToIntBits_5c35a : ByteArray := prog_12_method_24_code
def yJxf58ca_floatToIntBits_5c35a : MethodName := ⟨RJxf58ca, "floatToIntBits", "(F)I"⟩
def RJ6 : String := "java/lang/Integer"
def TJ6 : u_T := fun k => match k with
  | _ => ("", "", "", false)
def tyJ6 : Nat → FieldType := fun k => match k with
  | _ => .int
abbrev cJ6_highestOneBit_0f7a4 : ByteArray := prog_13_method_45_code
def yJ6_highestOneBit_0f7a4 : MethodName := ⟨RJ6, "highestOneBit", "(I)I"⟩
abbrev cJ6_numberOfLeadingZeros_0f7a4 : ByteArray := prog_13_method_47_code
def yJ6_numberOfLeadingZeros_0f7a4 : MethodName := ⟨RJ6, "numberOfLeadingZeros", "(I)I"⟩
abbrev cJ6_bitCount_0f7a4 : ByteArray := prog_13_method_49_code
def yJ6_bitCount_0f7a4 : MethodName := ⟨RJ6, "bitCount", "(I)I"⟩
def RJ13 : String := "java/lang/Long"
def TJ13 : u_T := fun k => match k with
  | _ => ("", "", "", false)
def tyJ13 : Nat → FieldType := fun k => match k with
  | _ => .int
abbrev cJ13_bitCount_95d88 : ByteArray := prog_14_method_50_code
def yJ13_bitCount_95d88 : MethodName := ⟨RJ13, "bitCount", "(J)I"⟩
def RJ9 : String := "java/lang/Math"
def TJ9 : u_T := fun k => match k with
  | _ => ("", "", "", false)
def tyJ9 : Nat → FieldType := fun k => match k with
  | _ => .int
abbrev cJ9_max_7cf53 : ByteArray := prog_15_method_65_code
def yJ9_max_7cf53 : MethodName := ⟨RJ9, "max", "(II)I"⟩
def RJxd2413 : String := "java/lang/Number"
def TJxd2413 : u_T := fun k => match k with
  | _ => ("", "", "", false)
def tyJxd2413 : Nat → FieldType := fun k => match k with
  | _ => .int
def RJ0 : String := "java/lang/String"
def TJ0 : u_T := fun k => match k with
  | _ => ("", "", "", false)
def tyJ0 : Nat → FieldType := fun k => match k with
  | _ => .int
def RJ10 : String := "java/lang/System"
def TJ10 : u_T := fun k => match k with
  | _ => ("", "", "", false)
def tyJ10 : Nat → FieldType := fun k => match k with
  | _ => .int
def RJxfd54e : String := "java/lang/constant/Constable"
def TJxfd54e : u_T := fun k => match k with
  | _ => ("", "", "", false)
def tyJxfd54e : Nat → FieldType := fun k => match k with
  | _ => .int
def RJx3cf43 : String := "java/lang/constant/ConstantDesc"
def TJx3cf43 : u_T := fun k => match k with
  | _ => ("", "", "", false)
def tyJx3cf43 : Nat → FieldType := fun k => match k with
  | _ => .int
def RJ7 : String := "java/util/Arrays"
def TJ7 : u_T := fun k => match k with
  | _ => ("", "", "", false)
def tyJ7 : Nat → FieldType := fun k => match k with
  | _ => .int
abbrev cJ7_fill_53178 : ByteArray := prog_23_method_103_code
def yJ7_fill_53178 : MethodName := ⟨RJ7, "fill", "([II)V"⟩
def RL : String := "SettingStoreLaw"
abbrev cL_at : ByteArray := method_3_code
def yL_at : MethodName := ⟨RL, "at", "(LSettingStore;II[J)I"⟩
abbrev cL_law : ByteArray := code
def yL_law : MethodName := ⟨RL, "law", "([I)Z"⟩
abbrev vwCl : List vw_C := [(RX0, TX0, 5), (RX1, TX1, 10), (RX2, TX2, 3), (RX3, TX3, 11), (RX4, TX4, 7), (RX5, TX5, 2), (RX6, TX6, 15)]
