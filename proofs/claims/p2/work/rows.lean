section
/-! printed texts: the tables words (PART A of the skeleton), names -/
/-- a private method of a class that the tables say can be made, by its rows of tables_1 -/
def lw_okq (q : MethodName × Nat) : Prop := (q.1.cls ≠ "java/lang/invoke/MethodHandle" ∧ q.1.cls ≠ "java/lang/invoke/VarHandle") ∧ Cond.instantiable q.1.cls q.2 ∈ tables_1 ∧ Cond.privateMethod q.1 ∈ tables_1 ∧ Cond.instanceMethod q.1 ∈ tables_1
theorem lw_p0 : lw_okq (⟨"SettingStore$Chip", "renew", "(II)V"⟩, 10) := ⟨⟨by decide +kernel, by decide +kernel⟩, List.mem_of_getElem? (i := 34) (by decide +kernel), List.mem_of_getElem? (i := 174) (by decide +kernel), List.mem_of_getElem? (i := 175) (by decide +kernel)⟩
theorem lw_p1 : lw_okq (⟨"SettingStore$Store", "renew", "(II)V"⟩, 7) := ⟨⟨by decide +kernel, by decide +kernel⟩, List.mem_of_getElem? (i := 28) (by decide +kernel), List.mem_of_getElem? (i := 222) (by decide +kernel), List.mem_of_getElem? (i := 223) (by decide +kernel)⟩
theorem lw_p2 : lw_okq (⟨"SettingStore$Store", "switchOff", "()V"⟩, 7) := ⟨⟨by decide +kernel, by decide +kernel⟩, List.mem_of_getElem? (i := 28) (by decide +kernel), List.mem_of_getElem? (i := 226) (by decide +kernel), List.mem_of_getElem? (i := 227) (by decide +kernel)⟩
theorem lw_p3 : lw_okq (⟨"SettingStore$Change", "forget", "()V"⟩, 5) := ⟨⟨by decide +kernel, by decide +kernel⟩, List.mem_of_getElem? (i := 126) (by decide +kernel), List.mem_of_getElem? (i := 230) (by decide +kernel), List.mem_of_getElem? (i := 231) (by decide +kernel)⟩
theorem lw_p4 : lw_okq (⟨"SettingStore$Store", "isOn", "()Z"⟩, 7) := ⟨⟨by decide +kernel, by decide +kernel⟩, List.mem_of_getElem? (i := 28) (by decide +kernel), List.mem_of_getElem? (i := 238) (by decide +kernel), List.mem_of_getElem? (i := 239) (by decide +kernel)⟩
theorem lw_p5 : lw_okq (⟨"SettingStore$Store", "switchOn", "()I"⟩, 7) := ⟨⟨by decide +kernel, by decide +kernel⟩, List.mem_of_getElem? (i := 28) (by decide +kernel), List.mem_of_getElem? (i := 242) (by decide +kernel), List.mem_of_getElem? (i := 243) (by decide +kernel)⟩
theorem lw_p6 : lw_okq (⟨"SettingStore$Chip", "greatestActive", "()I"⟩, 10) := ⟨⟨by decide +kernel, by decide +kernel⟩, List.mem_of_getElem? (i := 34) (by decide +kernel), List.mem_of_getElem? (i := 246) (by decide +kernel), List.mem_of_getElem? (i := 247) (by decide +kernel)⟩
theorem lw_p7 : lw_okq (⟨"SettingStore$Chip", "isActive", "(I)Z"⟩, 10) := ⟨⟨by decide +kernel, by decide +kernel⟩, List.mem_of_getElem? (i := 34) (by decide +kernel), List.mem_of_getElem? (i := 250) (by decide +kernel), List.mem_of_getElem? (i := 251) (by decide +kernel)⟩
theorem lw_p8 : lw_okq (⟨"SettingStore$Chip", "peek", "(II)I"⟩, 10) := ⟨⟨by decide +kernel, by decide +kernel⟩, List.mem_of_getElem? (i := 34) (by decide +kernel), List.mem_of_getElem? (i := 254) (by decide +kernel), List.mem_of_getElem? (i := 255) (by decide +kernel)⟩
theorem lw_p9 : lw_okq (⟨"SettingStore$Chip", "holds", "(II)Z"⟩, 10) := ⟨⟨by decide +kernel, by decide +kernel⟩, List.mem_of_getElem? (i := 34) (by decide +kernel), List.mem_of_getElem? (i := 258) (by decide +kernel), List.mem_of_getElem? (i := 259) (by decide +kernel)⟩
theorem lw_p10 : lw_okq (⟨"SettingStore$Chip", "numberOf", "(I)I"⟩, 10) := ⟨⟨by decide +kernel, by decide +kernel⟩, List.mem_of_getElem? (i := 34) (by decide +kernel), List.mem_of_getElem? (i := 265) (by decide +kernel), List.mem_of_getElem? (i := 266) (by decide +kernel)⟩
theorem lw_p11 : lw_okq (⟨"SettingStore$Chip", "eraseAllBut", "(I)V"⟩, 10) := ⟨⟨by decide +kernel, by decide +kernel⟩, List.mem_of_getElem? (i := 34) (by decide +kernel), List.mem_of_getElem? (i := 269) (by decide +kernel), List.mem_of_getElem? (i := 270) (by decide +kernel)⟩
theorem lw_p12 : lw_okq (⟨"SettingStore$Chip", "isBlank", "(I)Z"⟩, 10) := ⟨⟨by decide +kernel, by decide +kernel⟩, List.mem_of_getElem? (i := 34) (by decide +kernel), List.mem_of_getElem? (i := 273) (by decide +kernel), List.mem_of_getElem? (i := 274) (by decide +kernel)⟩
theorem lw_p13 : lw_okq (⟨"SettingStore$Chip", "usedEnd", "(I)I"⟩, 10) := ⟨⟨by decide +kernel, by decide +kernel⟩, List.mem_of_getElem? (i := 34) (by decide +kernel), List.mem_of_getElem? (i := 277) (by decide +kernel), List.mem_of_getElem? (i := 278) (by decide +kernel)⟩
theorem lw_p14 : lw_okq (⟨"SettingStore$Chip", "hasSector", "(I)Z"⟩, 10) := ⟨⟨by decide +kernel, by decide +kernel⟩, List.mem_of_getElem? (i := 34) (by decide +kernel), List.mem_of_getElem? (i := 281) (by decide +kernel), List.mem_of_getElem? (i := 282) (by decide +kernel)⟩
theorem lw_p15 : lw_okq (⟨"SettingStore$Chip", "erase", "(I)V"⟩, 10) := ⟨⟨by decide +kernel, by decide +kernel⟩, List.mem_of_getElem? (i := 34) (by decide +kernel), List.mem_of_getElem? (i := 285) (by decide +kernel), List.mem_of_getElem? (i := 286) (by decide +kernel)⟩
def lw_privs_1 : List (MethodName × Nat) := [(⟨"SettingStore$Chip", "renew", "(II)V"⟩, 10), (⟨"SettingStore$Store", "renew", "(II)V"⟩, 7), (⟨"SettingStore$Store", "switchOff", "()V"⟩, 7), (⟨"SettingStore$Change", "forget", "()V"⟩, 5), (⟨"SettingStore$Store", "isOn", "()Z"⟩, 7), (⟨"SettingStore$Store", "switchOn", "()I"⟩, 7), (⟨"SettingStore$Chip", "greatestActive", "()I"⟩, 10), (⟨"SettingStore$Chip", "isActive", "(I)Z"⟩, 10), (⟨"SettingStore$Chip", "peek", "(II)I"⟩, 10), (⟨"SettingStore$Chip", "holds", "(II)Z"⟩, 10), (⟨"SettingStore$Chip", "numberOf", "(I)I"⟩, 10), (⟨"SettingStore$Chip", "eraseAllBut", "(I)V"⟩, 10), (⟨"SettingStore$Chip", "isBlank", "(I)Z"⟩, 10), (⟨"SettingStore$Chip", "usedEnd", "(I)I"⟩, 10), (⟨"SettingStore$Chip", "hasSector", "(I)Z"⟩, 10), (⟨"SettingStore$Chip", "erase", "(I)V"⟩, 10)]
theorem lw_r1 : ∀ q ∈ lw_privs_1, lw_okq q := List.forall_mem_cons.mpr ⟨lw_p0, List.forall_mem_cons.mpr ⟨lw_p1, List.forall_mem_cons.mpr ⟨lw_p2, List.forall_mem_cons.mpr ⟨lw_p3, List.forall_mem_cons.mpr ⟨lw_p4, List.forall_mem_cons.mpr ⟨lw_p5, List.forall_mem_cons.mpr ⟨lw_p6, List.forall_mem_cons.mpr ⟨lw_p7, List.forall_mem_cons.mpr ⟨lw_p8, List.forall_mem_cons.mpr ⟨lw_p9, List.forall_mem_cons.mpr ⟨lw_p10, List.forall_mem_cons.mpr ⟨lw_p11, List.forall_mem_cons.mpr ⟨lw_p12, List.forall_mem_cons.mpr ⟨lw_p13, List.forall_mem_cons.mpr ⟨lw_p14, List.forall_mem_cons.mpr ⟨lw_p15, fun _ h => absurd h List.not_mem_nil⟩⟩⟩⟩⟩⟩⟩⟩⟩⟩⟩⟩⟩⟩⟩⟩
theorem lw_p16 : lw_okq (⟨"SettingStore$Chip", "endures", "()Z"⟩, 10) := ⟨⟨by decide +kernel, by decide +kernel⟩, List.mem_of_getElem? (i := 34) (by decide +kernel), List.mem_of_getElem? (i := 289) (by decide +kernel), List.mem_of_getElem? (i := 290) (by decide +kernel)⟩
theorem lw_p17 : lw_okq (⟨"SettingStore$Chip", "leastErased", "(I)I"⟩, 10) := ⟨⟨by decide +kernel, by decide +kernel⟩, List.mem_of_getElem? (i := 34) (by decide +kernel), List.mem_of_getElem? (i := 293) (by decide +kernel), List.mem_of_getElem? (i := 294) (by decide +kernel)⟩
theorem lw_p18 : lw_okq (⟨"SettingStore$Chip", "erasesOf", "(I)I"⟩, 10) := ⟨⟨by decide +kernel, by decide +kernel⟩, List.mem_of_getElem? (i := 34) (by decide +kernel), List.mem_of_getElem? (i := 297) (by decide +kernel), List.mem_of_getElem? (i := 298) (by decide +kernel)⟩
theorem lw_p19 : lw_okq (⟨"SettingStore$Chip", "makeReady", "(II)V"⟩, 10) := ⟨⟨by decide +kernel, by decide +kernel⟩, List.mem_of_getElem? (i := 34) (by decide +kernel), List.mem_of_getElem? (i := 301) (by decide +kernel), List.mem_of_getElem? (i := 302) (by decide +kernel)⟩
theorem lw_p20 : lw_okq (⟨"SettingStore$Chip", "write", "(III)V"⟩, 10) := ⟨⟨by decide +kernel, by decide +kernel⟩, List.mem_of_getElem? (i := 34) (by decide +kernel), List.mem_of_getElem? (i := 305) (by decide +kernel), List.mem_of_getElem? (i := 306) (by decide +kernel)⟩
theorem lw_p21 : lw_okq (⟨"SettingStore$Store", "look", "()LSettingStore$Reading;"⟩, 7) := ⟨⟨by decide +kernel, by decide +kernel⟩, List.mem_of_getElem? (i := 28) (by decide +kernel), List.mem_of_getElem? (i := 310) (by decide +kernel), List.mem_of_getElem? (i := 311) (by decide +kernel)⟩
theorem lw_p22 : lw_okq (⟨"SettingStore$Reading", "scan", "(LSettingStore$Chip;I)V"⟩, 11) := ⟨⟨by decide +kernel, by decide +kernel⟩, List.mem_of_getElem? (i := 82) (by decide +kernel), List.mem_of_getElem? (i := 314) (by decide +kernel), List.mem_of_getElem? (i := 315) (by decide +kernel)⟩
theorem lw_p23 : lw_okq (⟨"SettingStore$Chip", "copySector", "(I[I)V"⟩, 10) := ⟨⟨by decide +kernel, by decide +kernel⟩, List.mem_of_getElem? (i := 34) (by decide +kernel), List.mem_of_getElem? (i := 318) (by decide +kernel), List.mem_of_getElem? (i := 319) (by decide +kernel)⟩
theorem lw_p24 : lw_okq (⟨"SettingStore$Reading", "takeEntry", "(I)I"⟩, 11) := ⟨⟨by decide +kernel, by decide +kernel⟩, List.mem_of_getElem? (i := 82) (by decide +kernel), List.mem_of_getElem? (i := 323) (by decide +kernel), List.mem_of_getElem? (i := 324) (by decide +kernel)⟩
theorem lw_p25 : lw_okq (⟨"SettingStore$Reading", "byteAt", "(I)I"⟩, 11) := ⟨⟨by decide +kernel, by decide +kernel⟩, List.mem_of_getElem? (i := 82) (by decide +kernel), List.mem_of_getElem? (i := 327) (by decide +kernel), List.mem_of_getElem? (i := 328) (by decide +kernel)⟩
theorem lw_p26 : lw_okq (⟨"SettingStore$Reading", "firstMark", "(III)I"⟩, 11) := ⟨⟨by decide +kernel, by decide +kernel⟩, List.mem_of_getElem? (i := 82) (by decide +kernel), List.mem_of_getElem? (i := 338) (by decide +kernel), List.mem_of_getElem? (i := 339) (by decide +kernel)⟩
theorem lw_p27 : lw_okq (⟨"SettingStore$Reading", "settleParts", "(I)V"⟩, 11) := ⟨⟨by decide +kernel, by decide +kernel⟩, List.mem_of_getElem? (i := 82) (by decide +kernel), List.mem_of_getElem? (i := 343) (by decide +kernel), List.mem_of_getElem? (i := 344) (by decide +kernel)⟩
theorem lw_p28 : lw_okq (⟨"SettingStore$Reading", "has", "(I)Z"⟩, 11) := ⟨⟨by decide +kernel, by decide +kernel⟩, List.mem_of_getElem? (i := 82) (by decide +kernel), List.mem_of_getElem? (i := 347) (by decide +kernel), List.mem_of_getElem? (i := 348) (by decide +kernel)⟩
theorem lw_p29 : lw_okq (⟨"SettingStore$Reading", "markNewest", "()V"⟩, 11) := ⟨⟨by decide +kernel, by decide +kernel⟩, List.mem_of_getElem? (i := 82) (by decide +kernel), List.mem_of_getElem? (i := 351) (by decide +kernel), List.mem_of_getElem? (i := 352) (by decide +kernel)⟩
theorem lw_p30 : lw_okq (⟨"SettingStore$Reading", "valuedTags", "()J"⟩, 11) := ⟨⟨by decide +kernel, by decide +kernel⟩, List.mem_of_getElem? (i := 82) (by decide +kernel), List.mem_of_getElem? (i := 359) (by decide +kernel), List.mem_of_getElem? (i := 360) (by decide +kernel)⟩
theorem lw_p31 : lw_okq (⟨"SettingStore$Reading", "hasValue", "(I)Z"⟩, 11) := ⟨⟨by decide +kernel, by decide +kernel⟩, List.mem_of_getElem? (i := 82) (by decide +kernel), List.mem_of_getElem? (i := 363) (by decide +kernel), List.mem_of_getElem? (i := 364) (by decide +kernel)⟩
def lw_privs_2 : List (MethodName × Nat) := [(⟨"SettingStore$Chip", "endures", "()Z"⟩, 10), (⟨"SettingStore$Chip", "leastErased", "(I)I"⟩, 10), (⟨"SettingStore$Chip", "erasesOf", "(I)I"⟩, 10), (⟨"SettingStore$Chip", "makeReady", "(II)V"⟩, 10), (⟨"SettingStore$Chip", "write", "(III)V"⟩, 10), (⟨"SettingStore$Store", "look", "()LSettingStore$Reading;"⟩, 7), (⟨"SettingStore$Reading", "scan", "(LSettingStore$Chip;I)V"⟩, 11), (⟨"SettingStore$Chip", "copySector", "(I[I)V"⟩, 10), (⟨"SettingStore$Reading", "takeEntry", "(I)I"⟩, 11), (⟨"SettingStore$Reading", "byteAt", "(I)I"⟩, 11), (⟨"SettingStore$Reading", "firstMark", "(III)I"⟩, 11), (⟨"SettingStore$Reading", "settleParts", "(I)V"⟩, 11), (⟨"SettingStore$Reading", "has", "(I)Z"⟩, 11), (⟨"SettingStore$Reading", "markNewest", "()V"⟩, 11), (⟨"SettingStore$Reading", "valuedTags", "()J"⟩, 11), (⟨"SettingStore$Reading", "hasValue", "(I)Z"⟩, 11)]
theorem lw_r2 : ∀ q ∈ lw_privs_2, lw_okq q := List.forall_mem_cons.mpr ⟨lw_p16, List.forall_mem_cons.mpr ⟨lw_p17, List.forall_mem_cons.mpr ⟨lw_p18, List.forall_mem_cons.mpr ⟨lw_p19, List.forall_mem_cons.mpr ⟨lw_p20, List.forall_mem_cons.mpr ⟨lw_p21, List.forall_mem_cons.mpr ⟨lw_p22, List.forall_mem_cons.mpr ⟨lw_p23, List.forall_mem_cons.mpr ⟨lw_p24, List.forall_mem_cons.mpr ⟨lw_p25, List.forall_mem_cons.mpr ⟨lw_p26, List.forall_mem_cons.mpr ⟨lw_p27, List.forall_mem_cons.mpr ⟨lw_p28, List.forall_mem_cons.mpr ⟨lw_p29, List.forall_mem_cons.mpr ⟨lw_p30, List.forall_mem_cons.mpr ⟨lw_p31, fun _ h => absurd h List.not_mem_nil⟩⟩⟩⟩⟩⟩⟩⟩⟩⟩⟩⟩⟩⟩⟩⟩
theorem lw_p32 : lw_okq (⟨"SettingStore$Reading", "valuedSize", "(I)I"⟩, 11) := ⟨⟨by decide +kernel, by decide +kernel⟩, List.mem_of_getElem? (i := 82) (by decide +kernel), List.mem_of_getElem? (i := 367) (by decide +kernel), List.mem_of_getElem? (i := 368) (by decide +kernel)⟩
theorem lw_p33 : lw_okq (⟨"SettingStore$Reading", "newestOf", "(I)I"⟩, 11) := ⟨⟨by decide +kernel, by decide +kernel⟩, List.mem_of_getElem? (i := 82) (by decide +kernel), List.mem_of_getElem? (i := 371) (by decide +kernel), List.mem_of_getElem? (i := 372) (by decide +kernel)⟩
theorem lw_p34 : lw_okq (⟨"SettingStore$Store", "outcome", "(I)I"⟩, 7) := ⟨⟨by decide +kernel, by decide +kernel⟩, List.mem_of_getElem? (i := 28) (by decide +kernel), List.mem_of_getElem? (i := 381) (by decide +kernel), List.mem_of_getElem? (i := 382) (by decide +kernel)⟩
theorem lw_p35 : lw_okq (⟨"SettingStore$Chip", "arm", "(II)V"⟩, 10) := ⟨⟨by decide +kernel, by decide +kernel⟩, List.mem_of_getElem? (i := 34) (by decide +kernel), List.mem_of_getElem? (i := 394) (by decide +kernel), List.mem_of_getElem? (i := 395) (by decide +kernel)⟩
theorem lw_p36 : lw_okq (⟨"SettingStore$Chip", "decay", "(III)I"⟩, 10) := ⟨⟨by decide +kernel, by decide +kernel⟩, List.mem_of_getElem? (i := 34) (by decide +kernel), List.mem_of_getElem? (i := 403) (by decide +kernel), List.mem_of_getElem? (i := 404) (by decide +kernel)⟩
theorem lw_p37 : lw_okq (⟨"SettingStore$Change", "tell", "(III)I"⟩, 5) := ⟨⟨by decide +kernel, by decide +kernel⟩, List.mem_of_getElem? (i := 126) (by decide +kernel), List.mem_of_getElem? (i := 414) (by decide +kernel), List.mem_of_getElem? (i := 415) (by decide +kernel)⟩
theorem lw_p38 : lw_okq (⟨"SettingStore$Change", "find", "(I)I"⟩, 5) := ⟨⟨by decide +kernel, by decide +kernel⟩, List.mem_of_getElem? (i := 126) (by decide +kernel), List.mem_of_getElem? (i := 418) (by decide +kernel), List.mem_of_getElem? (i := 419) (by decide +kernel)⟩
theorem lw_p39 : lw_okq (⟨"SettingStore$Store", "keep", "(III)I"⟩, 7) := ⟨⟨by decide +kernel, by decide +kernel⟩, List.mem_of_getElem? (i := 28) (by decide +kernel), List.mem_of_getElem? (i := 422) (by decide +kernel), List.mem_of_getElem? (i := 423) (by decide +kernel)⟩
theorem lw_p40 : lw_okq (⟨"SettingStore$Store", "makeRoom", "(I)Z"⟩, 7) := ⟨⟨by decide +kernel, by decide +kernel⟩, List.mem_of_getElem? (i := 28) (by decide +kernel), List.mem_of_getElem? (i := 426) (by decide +kernel), List.mem_of_getElem? (i := 427) (by decide +kernel)⟩
theorem lw_p41 : lw_okq (⟨"SettingStore$Reading", "freeBytes", "()I"⟩, 11) := ⟨⟨by decide +kernel, by decide +kernel⟩, List.mem_of_getElem? (i := 82) (by decide +kernel), List.mem_of_getElem? (i := 430) (by decide +kernel), List.mem_of_getElem? (i := 431) (by decide +kernel)⟩
theorem lw_p42 : lw_okq (⟨"SettingStore$Reading", "freeBehindHandover", "()I"⟩, 11) := ⟨⟨by decide +kernel, by decide +kernel⟩, List.mem_of_getElem? (i := 82) (by decide +kernel), List.mem_of_getElem? (i := 434) (by decide +kernel), List.mem_of_getElem? (i := 435) (by decide +kernel)⟩
theorem lw_p43 : lw_okq (⟨"SettingStore$Reading", "valuedBytes", "()I"⟩, 11) := ⟨⟨by decide +kernel, by decide +kernel⟩, List.mem_of_getElem? (i := 82) (by decide +kernel), List.mem_of_getElem? (i := 438) (by decide +kernel), List.mem_of_getElem? (i := 439) (by decide +kernel)⟩
theorem lw_p44 : lw_okq (⟨"SettingStore$Store", "handOver", "()V"⟩, 7) := ⟨⟨by decide +kernel, by decide +kernel⟩, List.mem_of_getElem? (i := 28) (by decide +kernel), List.mem_of_getElem? (i := 442) (by decide +kernel), List.mem_of_getElem? (i := 443) (by decide +kernel)⟩
theorem lw_p45 : lw_okq (⟨"SettingStore$Reading", "valueOf", "(I)J"⟩, 11) := ⟨⟨by decide +kernel, by decide +kernel⟩, List.mem_of_getElem? (i := 82) (by decide +kernel), List.mem_of_getElem? (i := 452) (by decide +kernel), List.mem_of_getElem? (i := 453) (by decide +kernel)⟩
theorem lw_p46 : lw_okq (⟨"SettingStore$Reading", "numberAt", "(II)J"⟩, 11) := ⟨⟨by decide +kernel, by decide +kernel⟩, List.mem_of_getElem? (i := 82) (by decide +kernel), List.mem_of_getElem? (i := 457) (by decide +kernel), List.mem_of_getElem? (i := 458) (by decide +kernel)⟩
theorem lw_p47 : lw_okq (⟨"SettingStore$Reading", "clearedBits", "(I)I"⟩, 11) := ⟨⟨by decide +kernel, by decide +kernel⟩, List.mem_of_getElem? (i := 82) (by decide +kernel), List.mem_of_getElem? (i := 462) (by decide +kernel), List.mem_of_getElem? (i := 463) (by decide +kernel)⟩
def lw_privs_3 : List (MethodName × Nat) := [(⟨"SettingStore$Reading", "valuedSize", "(I)I"⟩, 11), (⟨"SettingStore$Reading", "newestOf", "(I)I"⟩, 11), (⟨"SettingStore$Store", "outcome", "(I)I"⟩, 7), (⟨"SettingStore$Chip", "arm", "(II)V"⟩, 10), (⟨"SettingStore$Chip", "decay", "(III)I"⟩, 10), (⟨"SettingStore$Change", "tell", "(III)I"⟩, 5), (⟨"SettingStore$Change", "find", "(I)I"⟩, 5), (⟨"SettingStore$Store", "keep", "(III)I"⟩, 7), (⟨"SettingStore$Store", "makeRoom", "(I)Z"⟩, 7), (⟨"SettingStore$Reading", "freeBytes", "()I"⟩, 11), (⟨"SettingStore$Reading", "freeBehindHandover", "()I"⟩, 11), (⟨"SettingStore$Reading", "valuedBytes", "()I"⟩, 11), (⟨"SettingStore$Store", "handOver", "()V"⟩, 7), (⟨"SettingStore$Reading", "valueOf", "(I)J"⟩, 11), (⟨"SettingStore$Reading", "numberAt", "(II)J"⟩, 11), (⟨"SettingStore$Reading", "clearedBits", "(I)I"⟩, 11)]
theorem lw_r3 : ∀ q ∈ lw_privs_3, lw_okq q := List.forall_mem_cons.mpr ⟨lw_p32, List.forall_mem_cons.mpr ⟨lw_p33, List.forall_mem_cons.mpr ⟨lw_p34, List.forall_mem_cons.mpr ⟨lw_p35, List.forall_mem_cons.mpr ⟨lw_p36, List.forall_mem_cons.mpr ⟨lw_p37, List.forall_mem_cons.mpr ⟨lw_p38, List.forall_mem_cons.mpr ⟨lw_p39, List.forall_mem_cons.mpr ⟨lw_p40, List.forall_mem_cons.mpr ⟨lw_p41, List.forall_mem_cons.mpr ⟨lw_p42, List.forall_mem_cons.mpr ⟨lw_p43, List.forall_mem_cons.mpr ⟨lw_p44, List.forall_mem_cons.mpr ⟨lw_p45, List.forall_mem_cons.mpr ⟨lw_p46, List.forall_mem_cons.mpr ⟨lw_p47, fun _ h => absurd h List.not_mem_nil⟩⟩⟩⟩⟩⟩⟩⟩⟩⟩⟩⟩⟩⟩⟩⟩
theorem lw_p48 : lw_okq (⟨"SettingStore$Reading", "newestLength", "(I)I"⟩, 11) := ⟨⟨by decide +kernel, by decide +kernel⟩, List.mem_of_getElem? (i := 82) (by decide +kernel), List.mem_of_getElem? (i := 472) (by decide +kernel), List.mem_of_getElem? (i := 473) (by decide +kernel)⟩
theorem lw_p49 : lw_okq (⟨"SettingStore$Draft", "fillSetting", "(IIII)V"⟩, 3) := ⟨⟨by decide +kernel, by decide +kernel⟩, List.mem_of_getElem? (i := 155) (by decide +kernel), List.mem_of_getElem? (i := 476) (by decide +kernel), List.mem_of_getElem? (i := 477) (by decide +kernel)⟩
theorem lw_p50 : lw_okq (⟨"SettingStore$Draft", "start", "(II)V"⟩, 3) := ⟨⟨by decide +kernel, by decide +kernel⟩, List.mem_of_getElem? (i := 155) (by decide +kernel), List.mem_of_getElem? (i := 480) (by decide +kernel), List.mem_of_getElem? (i := 481) (by decide +kernel)⟩
theorem lw_p51 : lw_okq (⟨"SettingStore$Draft", "put", "(I)V"⟩, 3) := ⟨⟨by decide +kernel, by decide +kernel⟩, List.mem_of_getElem? (i := 155) (by decide +kernel), List.mem_of_getElem? (i := 484) (by decide +kernel), List.mem_of_getElem? (i := 485) (by decide +kernel)⟩
theorem lw_p52 : lw_okq (⟨"SettingStore$Draft", "putBytes", "(II)V"⟩, 3) := ⟨⟨by decide +kernel, by decide +kernel⟩, List.mem_of_getElem? (i := 155) (by decide +kernel), List.mem_of_getElem? (i := 488) (by decide +kernel), List.mem_of_getElem? (i := 489) (by decide +kernel)⟩
theorem lw_p53 : lw_okq (⟨"SettingStore$Draft", "fillCounter", "(II)V"⟩, 3) := ⟨⟨by decide +kernel, by decide +kernel⟩, List.mem_of_getElem? (i := 155) (by decide +kernel), List.mem_of_getElem? (i := 493) (by decide +kernel), List.mem_of_getElem? (i := 494) (by decide +kernel)⟩
theorem lw_p54 : lw_okq (⟨"SettingStore$Chip", "writeDraft", "(IILSettingStore$Draft;)V"⟩, 10) := ⟨⟨by decide +kernel, by decide +kernel⟩, List.mem_of_getElem? (i := 34) (by decide +kernel), List.mem_of_getElem? (i := 497) (by decide +kernel), List.mem_of_getElem? (i := 498) (by decide +kernel)⟩
theorem lw_p55 : lw_okq (⟨"SettingStore$Store", "wouldHave", "(I)Z"⟩, 7) := ⟨⟨by decide +kernel, by decide +kernel⟩, List.mem_of_getElem? (i := 28) (by decide +kernel), List.mem_of_getElem? (i := 505) (by decide +kernel), List.mem_of_getElem? (i := 506) (by decide +kernel)⟩
theorem lw_p56 : lw_okq (⟨"SettingStore$Store", "countUp", "(I)I"⟩, 7) := ⟨⟨by decide +kernel, by decide +kernel⟩, List.mem_of_getElem? (i := 28) (by decide +kernel), List.mem_of_getElem? (i := 514) (by decide +kernel), List.mem_of_getElem? (i := 515) (by decide +kernel)⟩
theorem lw_p57 : lw_okq (⟨"SettingStore$Reading", "newestValue", "(I)J"⟩, 11) := ⟨⟨by decide +kernel, by decide +kernel⟩, List.mem_of_getElem? (i := 82) (by decide +kernel), List.mem_of_getElem? (i := 518) (by decide +kernel), List.mem_of_getElem? (i := 519) (by decide +kernel)⟩
theorem lw_p58 : lw_okq (⟨"SettingStore$Reading", "unspentPlace", "(I)I"⟩, 11) := ⟨⟨by decide +kernel, by decide +kernel⟩, List.mem_of_getElem? (i := 82) (by decide +kernel), List.mem_of_getElem? (i := 524) (by decide +kernel), List.mem_of_getElem? (i := 525) (by decide +kernel)⟩
theorem lw_p59 : lw_okq (⟨"SettingStore$Change", "start", "()V"⟩, 5) := ⟨⟨by decide +kernel, by decide +kernel⟩, List.mem_of_getElem? (i := 126) (by decide +kernel), List.mem_of_getElem? (i := 536) (by decide +kernel), List.mem_of_getElem? (i := 537) (by decide +kernel)⟩
theorem lw_p60 : lw_okq (⟨"SettingStore$Store", "writeChange", "()I"⟩, 7) := ⟨⟨by decide +kernel, by decide +kernel⟩, List.mem_of_getElem? (i := 28) (by decide +kernel), List.mem_of_getElem? (i := 545) (by decide +kernel), List.mem_of_getElem? (i := 546) (by decide +kernel)⟩
theorem lw_p61 : lw_okq (⟨"SettingStore$Change", "bytesToWrite", "()I"⟩, 5) := ⟨⟨by decide +kernel, by decide +kernel⟩, List.mem_of_getElem? (i := 126) (by decide +kernel), List.mem_of_getElem? (i := 549) (by decide +kernel), List.mem_of_getElem? (i := 550) (by decide +kernel)⟩
theorem lw_p62 : lw_okq (⟨"SettingStore$Draft", "fillCommit", "(I)V"⟩, 3) := ⟨⟨by decide +kernel, by decide +kernel⟩, List.mem_of_getElem? (i := 155) (by decide +kernel), List.mem_of_getElem? (i := 553) (by decide +kernel), List.mem_of_getElem? (i := 554) (by decide +kernel)⟩
theorem lw_p63 : lw_okq (⟨"SettingStore$Store", "handOverByHand", "()I"⟩, 7) := ⟨⟨by decide +kernel, by decide +kernel⟩, List.mem_of_getElem? (i := 28) (by decide +kernel), List.mem_of_getElem? (i := 578) (by decide +kernel), List.mem_of_getElem? (i := 579) (by decide +kernel)⟩
def lw_privs_4 : List (MethodName × Nat) := [(⟨"SettingStore$Reading", "newestLength", "(I)I"⟩, 11), (⟨"SettingStore$Draft", "fillSetting", "(IIII)V"⟩, 3), (⟨"SettingStore$Draft", "start", "(II)V"⟩, 3), (⟨"SettingStore$Draft", "put", "(I)V"⟩, 3), (⟨"SettingStore$Draft", "putBytes", "(II)V"⟩, 3), (⟨"SettingStore$Draft", "fillCounter", "(II)V"⟩, 3), (⟨"SettingStore$Chip", "writeDraft", "(IILSettingStore$Draft;)V"⟩, 10), (⟨"SettingStore$Store", "wouldHave", "(I)Z"⟩, 7), (⟨"SettingStore$Store", "countUp", "(I)I"⟩, 7), (⟨"SettingStore$Reading", "newestValue", "(I)J"⟩, 11), (⟨"SettingStore$Reading", "unspentPlace", "(I)I"⟩, 11), (⟨"SettingStore$Change", "start", "()V"⟩, 5), (⟨"SettingStore$Store", "writeChange", "()I"⟩, 7), (⟨"SettingStore$Change", "bytesToWrite", "()I"⟩, 5), (⟨"SettingStore$Draft", "fillCommit", "(I)V"⟩, 3), (⟨"SettingStore$Store", "handOverByHand", "()I"⟩, 7)]
theorem lw_r4 : ∀ q ∈ lw_privs_4, lw_okq q := List.forall_mem_cons.mpr ⟨lw_p48, List.forall_mem_cons.mpr ⟨lw_p49, List.forall_mem_cons.mpr ⟨lw_p50, List.forall_mem_cons.mpr ⟨lw_p51, List.forall_mem_cons.mpr ⟨lw_p52, List.forall_mem_cons.mpr ⟨lw_p53, List.forall_mem_cons.mpr ⟨lw_p54, List.forall_mem_cons.mpr ⟨lw_p55, List.forall_mem_cons.mpr ⟨lw_p56, List.forall_mem_cons.mpr ⟨lw_p57, List.forall_mem_cons.mpr ⟨lw_p58, List.forall_mem_cons.mpr ⟨lw_p59, List.forall_mem_cons.mpr ⟨lw_p60, List.forall_mem_cons.mpr ⟨lw_p61, List.forall_mem_cons.mpr ⟨lw_p62, List.forall_mem_cons.mpr ⟨lw_p63, fun _ h => absurd h List.not_mem_nil⟩⟩⟩⟩⟩⟩⟩⟩⟩⟩⟩⟩⟩⟩⟩⟩
theorem lw_p64 : lw_okq (⟨"SettingStore$Reading", "tell", "(II)I"⟩, 11) := ⟨⟨by decide +kernel, by decide +kernel⟩, List.mem_of_getElem? (i := 82) (by decide +kernel), List.mem_of_getElem? (i := 596) (by decide +kernel), List.mem_of_getElem? (i := 597) (by decide +kernel)⟩
theorem lw_p65 : lw_okq (⟨"SettingStore$Reading", "allBytes", "()I"⟩, 11) := ⟨⟨by decide +kernel, by decide +kernel⟩, List.mem_of_getElem? (i := 82) (by decide +kernel), List.mem_of_getElem? (i := 605) (by decide +kernel), List.mem_of_getElem? (i := 606) (by decide +kernel)⟩
theorem lw_p66 : lw_okq (⟨"SettingStore$Store", "costOf", "(I)I"⟩, 7) := ⟨⟨by decide +kernel, by decide +kernel⟩, List.mem_of_getElem? (i := 28) (by decide +kernel), List.mem_of_getElem? (i := 623) (by decide +kernel), List.mem_of_getElem? (i := 624) (by decide +kernel)⟩
theorem lw_p67 : lw_okq (⟨"SettingStore$Store", "handoverDoings", "()I"⟩, 7) := ⟨⟨by decide +kernel, by decide +kernel⟩, List.mem_of_getElem? (i := 28) (by decide +kernel), List.mem_of_getElem? (i := 627) (by decide +kernel), List.mem_of_getElem? (i := 628) (by decide +kernel)⟩
theorem lw_p68 : lw_okq (⟨"SettingStore$Reading", "copyWrites", "()I"⟩, 11) := ⟨⟨by decide +kernel, by decide +kernel⟩, List.mem_of_getElem? (i := 82) (by decide +kernel), List.mem_of_getElem? (i := 631) (by decide +kernel), List.mem_of_getElem? (i := 632) (by decide +kernel)⟩
theorem lw_p69 : lw_okq (⟨"SettingStore$Store", "copyFrom", "(LSettingStore$Store;)V"⟩, 7) := ⟨⟨by decide +kernel, by decide +kernel⟩, List.mem_of_getElem? (i := 28) (by decide +kernel), List.mem_of_getElem? (i := 639) (by decide +kernel), List.mem_of_getElem? (i := 640) (by decide +kernel)⟩
theorem lw_p70 : lw_okq (⟨"SettingStore$Chip", "copyFrom", "(LSettingStore$Chip;)V"⟩, 10) := ⟨⟨by decide +kernel, by decide +kernel⟩, List.mem_of_getElem? (i := 34) (by decide +kernel), List.mem_of_getElem? (i := 643) (by decide +kernel), List.mem_of_getElem? (i := 644) (by decide +kernel)⟩
theorem lw_p71 : lw_okq (⟨"SettingStore$Reading", "tellingOf", "(I)I"⟩, 11) := ⟨⟨by decide +kernel, by decide +kernel⟩, List.mem_of_getElem? (i := 82) (by decide +kernel), List.mem_of_getElem? (i := 654) (by decide +kernel), List.mem_of_getElem? (i := 655) (by decide +kernel)⟩
theorem lw_p72 : lw_okq (⟨"SettingStore$Reading", "tells", "(II)Z"⟩, 11) := ⟨⟨by decide +kernel, by decide +kernel⟩, List.mem_of_getElem? (i := 82) (by decide +kernel), List.mem_of_getElem? (i := 658) (by decide +kernel), List.mem_of_getElem? (i := 659) (by decide +kernel)⟩
theorem lw_p73 : lw_okq (⟨"SettingStore$Reading", "earlierValue", "(II)J"⟩, 11) := ⟨⟨by decide +kernel, by decide +kernel⟩, List.mem_of_getElem? (i := 82) (by decide +kernel), List.mem_of_getElem? (i := 662) (by decide +kernel), List.mem_of_getElem? (i := 663) (by decide +kernel)⟩
theorem lw_p74 : lw_okq (⟨"SettingStore$Store", "wearOut", "(I)V"⟩, 7) := ⟨⟨by decide +kernel, by decide +kernel⟩, List.mem_of_getElem? (i := 28) (by decide +kernel), List.mem_of_getElem? (i := 671) (by decide +kernel), List.mem_of_getElem? (i := 672) (by decide +kernel)⟩
theorem lw_p75 : lw_okq (⟨"SettingStore$Chip", "mostErases", "()I"⟩, 10) := ⟨⟨by decide +kernel, by decide +kernel⟩, List.mem_of_getElem? (i := 34) (by decide +kernel), List.mem_of_getElem? (i := 676) (by decide +kernel), List.mem_of_getElem? (i := 677) (by decide +kernel)⟩
theorem lw_p76 : lw_okq (⟨"SettingStore$Chip", "fewestErases", "()I"⟩, 10) := ⟨⟨by decide +kernel, by decide +kernel⟩, List.mem_of_getElem? (i := 34) (by decide +kernel), List.mem_of_getElem? (i := 683) (by decide +kernel), List.mem_of_getElem? (i := 684) (by decide +kernel)⟩
theorem lw_p77 : lw_okq (⟨"SettingStore$Chip", "allErases", "()I"⟩, 10) := ⟨⟨by decide +kernel, by decide +kernel⟩, List.mem_of_getElem? (i := 34) (by decide +kernel), List.mem_of_getElem? (i := 692) (by decide +kernel), List.mem_of_getElem? (i := 693) (by decide +kernel)⟩
theorem lw_p78 : lw_okq (⟨"java/lang/Throwable", "fillInStackTrace", "(I)Ljava/lang/Throwable;"⟩, 6) := ⟨⟨by decide +kernel, by decide +kernel⟩, List.mem_of_getElem? (i := 756) (by decide +kernel), List.mem_of_getElem? (i := 754) (by decide +kernel), List.mem_of_getElem? (i := 755) (by decide +kernel)⟩
theorem lw_p79 : lw_okq (⟨"SettingStoreModel", "makes", "(II)V"⟩, 15) := ⟨⟨by decide +kernel, by decide +kernel⟩, List.mem_of_getElem? (i := 786) (by decide +kernel), List.mem_of_getElem? (i := 792) (by decide +kernel), List.mem_of_getElem? (i := 793) (by decide +kernel)⟩
def lw_privs_5 : List (MethodName × Nat) := [(⟨"SettingStore$Reading", "tell", "(II)I"⟩, 11), (⟨"SettingStore$Reading", "allBytes", "()I"⟩, 11), (⟨"SettingStore$Store", "costOf", "(I)I"⟩, 7), (⟨"SettingStore$Store", "handoverDoings", "()I"⟩, 7), (⟨"SettingStore$Reading", "copyWrites", "()I"⟩, 11), (⟨"SettingStore$Store", "copyFrom", "(LSettingStore$Store;)V"⟩, 7), (⟨"SettingStore$Chip", "copyFrom", "(LSettingStore$Chip;)V"⟩, 10), (⟨"SettingStore$Reading", "tellingOf", "(I)I"⟩, 11), (⟨"SettingStore$Reading", "tells", "(II)Z"⟩, 11), (⟨"SettingStore$Reading", "earlierValue", "(II)J"⟩, 11), (⟨"SettingStore$Store", "wearOut", "(I)V"⟩, 7), (⟨"SettingStore$Chip", "mostErases", "()I"⟩, 10), (⟨"SettingStore$Chip", "fewestErases", "()I"⟩, 10), (⟨"SettingStore$Chip", "allErases", "()I"⟩, 10), (⟨"java/lang/Throwable", "fillInStackTrace", "(I)Ljava/lang/Throwable;"⟩, 6), (⟨"SettingStoreModel", "makes", "(II)V"⟩, 15)]
theorem lw_r5 : ∀ q ∈ lw_privs_5, lw_okq q := List.forall_mem_cons.mpr ⟨lw_p64, List.forall_mem_cons.mpr ⟨lw_p65, List.forall_mem_cons.mpr ⟨lw_p66, List.forall_mem_cons.mpr ⟨lw_p67, List.forall_mem_cons.mpr ⟨lw_p68, List.forall_mem_cons.mpr ⟨lw_p69, List.forall_mem_cons.mpr ⟨lw_p70, List.forall_mem_cons.mpr ⟨lw_p71, List.forall_mem_cons.mpr ⟨lw_p72, List.forall_mem_cons.mpr ⟨lw_p73, List.forall_mem_cons.mpr ⟨lw_p74, List.forall_mem_cons.mpr ⟨lw_p75, List.forall_mem_cons.mpr ⟨lw_p76, List.forall_mem_cons.mpr ⟨lw_p77, List.forall_mem_cons.mpr ⟨lw_p78, List.forall_mem_cons.mpr ⟨lw_p79, fun _ h => absurd h List.not_mem_nil⟩⟩⟩⟩⟩⟩⟩⟩⟩⟩⟩⟩⟩⟩⟩⟩
theorem lw_p80 : lw_okq (⟨"SettingStoreModel", "isOn", "()Z"⟩, 15) := ⟨⟨by decide +kernel, by decide +kernel⟩, List.mem_of_getElem? (i := 786) (by decide +kernel), List.mem_of_getElem? (i := 853) (by decide +kernel), List.mem_of_getElem? (i := 854) (by decide +kernel)⟩
theorem lw_p81 : lw_okq (⟨"SettingStoreModel", "begins", "()V"⟩, 15) := ⟨⟨by decide +kernel, by decide +kernel⟩, List.mem_of_getElem? (i := 786) (by decide +kernel), List.mem_of_getElem? (i := 857) (by decide +kernel), List.mem_of_getElem? (i := 858) (by decide +kernel)⟩
theorem lw_p82 : lw_okq (⟨"SettingStoreModel", "switchesOn", "()V"⟩, 15) := ⟨⟨by decide +kernel, by decide +kernel⟩, List.mem_of_getElem? (i := 786) (by decide +kernel), List.mem_of_getElem? (i := 861) (by decide +kernel), List.mem_of_getElem? (i := 862) (by decide +kernel)⟩
theorem lw_p83 : lw_okq (⟨"SettingStoreModel", "found", "()I"⟩, 15) := ⟨⟨by decide +kernel, by decide +kernel⟩, List.mem_of_getElem? (i := 786) (by decide +kernel), List.mem_of_getElem? (i := 865) (by decide +kernel), List.mem_of_getElem? (i := 866) (by decide +kernel)⟩
theorem lw_p84 : lw_okq (⟨"SettingStoreModel", "byteAt", "(II)I"⟩, 15) := ⟨⟨by decide +kernel, by decide +kernel⟩, List.mem_of_getElem? (i := 786) (by decide +kernel), List.mem_of_getElem? (i := 869) (by decide +kernel), List.mem_of_getElem? (i := 870) (by decide +kernel)⟩
theorem lw_p85 : lw_okq (⟨"SettingStoreModel", "numberOf", "(I)I"⟩, 15) := ⟨⟨by decide +kernel, by decide +kernel⟩, List.mem_of_getElem? (i := 786) (by decide +kernel), List.mem_of_getElem? (i := 876) (by decide +kernel), List.mem_of_getElem? (i := 877) (by decide +kernel)⟩
theorem lw_p86 : lw_okq (⟨"SettingStoreModel", "erasesOthers", "(I)V"⟩, 15) := ⟨⟨by decide +kernel, by decide +kernel⟩, List.mem_of_getElem? (i := 786) (by decide +kernel), List.mem_of_getElem? (i := 880) (by decide +kernel), List.mem_of_getElem? (i := 881) (by decide +kernel)⟩
theorem lw_p87 : lw_okq (⟨"SettingStoreModel", "isBlank", "(II)Z"⟩, 15) := ⟨⟨by decide +kernel, by decide +kernel⟩, List.mem_of_getElem? (i := 786) (by decide +kernel), List.mem_of_getElem? (i := 884) (by decide +kernel), List.mem_of_getElem? (i := 885) (by decide +kernel)⟩
theorem lw_p88 : lw_okq (⟨"SettingStoreModel", "erases", "(I)V"⟩, 15) := ⟨⟨by decide +kernel, by decide +kernel⟩, List.mem_of_getElem? (i := 786) (by decide +kernel), List.mem_of_getElem? (i := 888) (by decide +kernel), List.mem_of_getElem? (i := 889) (by decide +kernel)⟩
theorem lw_p89 : lw_okq (⟨"SettingStoreModel", "goes", "()Z"⟩, 15) := ⟨⟨by decide +kernel, by decide +kernel⟩, List.mem_of_getElem? (i := 786) (by decide +kernel), List.mem_of_getElem? (i := 892) (by decide +kernel), List.mem_of_getElem? (i := 893) (by decide +kernel)⟩
theorem lw_p90 : lw_okq (⟨"SettingStoreModel", "leastErased", "(I)I"⟩, 15) := ⟨⟨by decide +kernel, by decide +kernel⟩, List.mem_of_getElem? (i := 786) (by decide +kernel), List.mem_of_getElem? (i := 896) (by decide +kernel), List.mem_of_getElem? (i := 897) (by decide +kernel)⟩
theorem lw_p91 : lw_okq (⟨"SettingStoreModel", "makesReady", "(II)V"⟩, 15) := ⟨⟨by decide +kernel, by decide +kernel⟩, List.mem_of_getElem? (i := 786) (by decide +kernel), List.mem_of_getElem? (i := 900) (by decide +kernel), List.mem_of_getElem? (i := 901) (by decide +kernel)⟩
theorem lw_p92 : lw_okq (⟨"SettingStoreModel", "writes", "(III)V"⟩, 15) := ⟨⟨by decide +kernel, by decide +kernel⟩, List.mem_of_getElem? (i := 786) (by decide +kernel), List.mem_of_getElem? (i := 904) (by decide +kernel), List.mem_of_getElem? (i := 905) (by decide +kernel)⟩
theorem lw_p93 : lw_okq (⟨"SettingStoreModel", "reads", "(I)V"⟩, 15) := ⟨⟨by decide +kernel, by decide +kernel⟩, List.mem_of_getElem? (i := 786) (by decide +kernel), List.mem_of_getElem? (i := 908) (by decide +kernel), List.mem_of_getElem? (i := 909) (by decide +kernel)⟩
theorem lw_p94 : lw_okq (⟨"SettingStoreModel", "sortAt", "(II)I"⟩, 15) := ⟨⟨by decide +kernel, by decide +kernel⟩, List.mem_of_getElem? (i := 786) (by decide +kernel), List.mem_of_getElem? (i := 912) (by decide +kernel), List.mem_of_getElem? (i := 913) (by decide +kernel)⟩
theorem lw_p95 : lw_okq (⟨"SettingStoreModel", "sizeBy", "(II)I"⟩, 15) := ⟨⟨by decide +kernel, by decide +kernel⟩, List.mem_of_getElem? (i := 786) (by decide +kernel), List.mem_of_getElem? (i := 916) (by decide +kernel), List.mem_of_getElem? (i := 917) (by decide +kernel)⟩
def lw_privs_6 : List (MethodName × Nat) := [(⟨"SettingStoreModel", "isOn", "()Z"⟩, 15), (⟨"SettingStoreModel", "begins", "()V"⟩, 15), (⟨"SettingStoreModel", "switchesOn", "()V"⟩, 15), (⟨"SettingStoreModel", "found", "()I"⟩, 15), (⟨"SettingStoreModel", "byteAt", "(II)I"⟩, 15), (⟨"SettingStoreModel", "numberOf", "(I)I"⟩, 15), (⟨"SettingStoreModel", "erasesOthers", "(I)V"⟩, 15), (⟨"SettingStoreModel", "isBlank", "(II)Z"⟩, 15), (⟨"SettingStoreModel", "erases", "(I)V"⟩, 15), (⟨"SettingStoreModel", "goes", "()Z"⟩, 15), (⟨"SettingStoreModel", "leastErased", "(I)I"⟩, 15), (⟨"SettingStoreModel", "makesReady", "(II)V"⟩, 15), (⟨"SettingStoreModel", "writes", "(III)V"⟩, 15), (⟨"SettingStoreModel", "reads", "(I)V"⟩, 15), (⟨"SettingStoreModel", "sortAt", "(II)I"⟩, 15), (⟨"SettingStoreModel", "sizeBy", "(II)I"⟩, 15)]
theorem lw_r6 : ∀ q ∈ lw_privs_6, lw_okq q := List.forall_mem_cons.mpr ⟨lw_p80, List.forall_mem_cons.mpr ⟨lw_p81, List.forall_mem_cons.mpr ⟨lw_p82, List.forall_mem_cons.mpr ⟨lw_p83, List.forall_mem_cons.mpr ⟨lw_p84, List.forall_mem_cons.mpr ⟨lw_p85, List.forall_mem_cons.mpr ⟨lw_p86, List.forall_mem_cons.mpr ⟨lw_p87, List.forall_mem_cons.mpr ⟨lw_p88, List.forall_mem_cons.mpr ⟨lw_p89, List.forall_mem_cons.mpr ⟨lw_p90, List.forall_mem_cons.mpr ⟨lw_p91, List.forall_mem_cons.mpr ⟨lw_p92, List.forall_mem_cons.mpr ⟨lw_p93, List.forall_mem_cons.mpr ⟨lw_p94, List.forall_mem_cons.mpr ⟨lw_p95, fun _ h => absurd h List.not_mem_nil⟩⟩⟩⟩⟩⟩⟩⟩⟩⟩⟩⟩⟩⟩⟩⟩
theorem lw_p96 : lw_okq (⟨"SettingStoreModel", "checked", "(I)I"⟩, 15) := ⟨⟨by decide +kernel, by decide +kernel⟩, List.mem_of_getElem? (i := 786) (by decide +kernel), List.mem_of_getElem? (i := 920) (by decide +kernel), List.mem_of_getElem? (i := 921) (by decide +kernel)⟩
theorem lw_p97 : lw_okq (⟨"SettingStoreModel", "sumOf", "(III)I"⟩, 15) := ⟨⟨by decide +kernel, by decide +kernel⟩, List.mem_of_getElem? (i := 786) (by decide +kernel), List.mem_of_getElem? (i := 924) (by decide +kernel), List.mem_of_getElem? (i := 925) (by decide +kernel)⟩
theorem lw_p98 : lw_okq (⟨"SettingStoreModel", "commits", "(I)V"⟩, 15) := ⟨⟨by decide +kernel, by decide +kernel⟩, List.mem_of_getElem? (i := 786) (by decide +kernel), List.mem_of_getElem? (i := 928) (by decide +kernel), List.mem_of_getElem? (i := 929) (by decide +kernel)⟩
theorem lw_p99 : lw_okq (⟨"SettingStoreModel", "valued", "(I)I"⟩, 15) := ⟨⟨by decide +kernel, by decide +kernel⟩, List.mem_of_getElem? (i := 786) (by decide +kernel), List.mem_of_getElem? (i := 932) (by decide +kernel), List.mem_of_getElem? (i := 933) (by decide +kernel)⟩
theorem lw_p100 : lw_okq (⟨"SettingStoreModel", "hasValue", "(II)Z"⟩, 15) := ⟨⟨by decide +kernel, by decide +kernel⟩, List.mem_of_getElem? (i := 786) (by decide +kernel), List.mem_of_getElem? (i := 936) (by decide +kernel), List.mem_of_getElem? (i := 937) (by decide +kernel)⟩
theorem lw_p101 : lw_okq (⟨"SettingStoreModel", "lengthOf", "(II)I"⟩, 15) := ⟨⟨by decide +kernel, by decide +kernel⟩, List.mem_of_getElem? (i := 786) (by decide +kernel), List.mem_of_getElem? (i := 940) (by decide +kernel), List.mem_of_getElem? (i := 941) (by decide +kernel)⟩
theorem lw_p102 : lw_okq (⟨"SettingStoreModel", "isSector", "(I)Z"⟩, 15) := ⟨⟨by decide +kernel, by decide +kernel⟩, List.mem_of_getElem? (i := 786) (by decide +kernel), List.mem_of_getElem? (i := 956) (by decide +kernel), List.mem_of_getElem? (i := 957) (by decide +kernel)⟩
theorem lw_p103 : lw_okq (⟨"SettingStoreModel", "isSetting", "(II)Z"⟩, 15) := ⟨⟨by decide +kernel, by decide +kernel⟩, List.mem_of_getElem? (i := 786) (by decide +kernel), List.mem_of_getElem? (i := 964) (by decide +kernel), List.mem_of_getElem? (i := 965) (by decide +kernel)⟩
theorem lw_p104 : lw_okq (⟨"SettingStoreModel", "sets", "(III)I"⟩, 15) := ⟨⟨by decide +kernel, by decide +kernel⟩, List.mem_of_getElem? (i := 786) (by decide +kernel), List.mem_of_getElem? (i := 968) (by decide +kernel), List.mem_of_getElem? (i := 969) (by decide +kernel)⟩
theorem lw_p105 : lw_okq (⟨"SettingStoreModel", "tells", "(III)I"⟩, 15) := ⟨⟨by decide +kernel, by decide +kernel⟩, List.mem_of_getElem? (i := 786) (by decide +kernel), List.mem_of_getElem? (i := 972) (by decide +kernel), List.mem_of_getElem? (i := 973) (by decide +kernel)⟩
theorem lw_p106 : lw_okq (⟨"SettingStoreModel", "inChange", "(I)I"⟩, 15) := ⟨⟨by decide +kernel, by decide +kernel⟩, List.mem_of_getElem? (i := 786) (by decide +kernel), List.mem_of_getElem? (i := 976) (by decide +kernel), List.mem_of_getElem? (i := 977) (by decide +kernel)⟩
theorem lw_p107 : lw_okq (⟨"SettingStoreModel", "makesRoom", "(I)Z"⟩, 15) := ⟨⟨by decide +kernel, by decide +kernel⟩, List.mem_of_getElem? (i := 786) (by decide +kernel), List.mem_of_getElem? (i := 980) (by decide +kernel), List.mem_of_getElem? (i := 981) (by decide +kernel)⟩
theorem lw_p108 : lw_okq (⟨"SettingStoreModel", "freeNow", "()I"⟩, 15) := ⟨⟨by decide +kernel, by decide +kernel⟩, List.mem_of_getElem? (i := 786) (by decide +kernel), List.mem_of_getElem? (i := 984) (by decide +kernel), List.mem_of_getElem? (i := 985) (by decide +kernel)⟩
theorem lw_p109 : lw_okq (⟨"SettingStoreModel", "freeThen", "()I"⟩, 15) := ⟨⟨by decide +kernel, by decide +kernel⟩, List.mem_of_getElem? (i := 786) (by decide +kernel), List.mem_of_getElem? (i := 988) (by decide +kernel), List.mem_of_getElem? (i := 989) (by decide +kernel)⟩
theorem lw_p110 : lw_okq (⟨"SettingStoreModel", "sizeNext", "(I)I"⟩, 15) := ⟨⟨by decide +kernel, by decide +kernel⟩, List.mem_of_getElem? (i := 786) (by decide +kernel), List.mem_of_getElem? (i := 992) (by decide +kernel), List.mem_of_getElem? (i := 993) (by decide +kernel)⟩
theorem lw_p111 : lw_okq (⟨"SettingStoreModel", "handsOver", "()V"⟩, 15) := ⟨⟨by decide +kernel, by decide +kernel⟩, List.mem_of_getElem? (i := 786) (by decide +kernel), List.mem_of_getElem? (i := 996) (by decide +kernel), List.mem_of_getElem? (i := 997) (by decide +kernel)⟩
def lw_privs_7 : List (MethodName × Nat) := [(⟨"SettingStoreModel", "checked", "(I)I"⟩, 15), (⟨"SettingStoreModel", "sumOf", "(III)I"⟩, 15), (⟨"SettingStoreModel", "commits", "(I)V"⟩, 15), (⟨"SettingStoreModel", "valued", "(I)I"⟩, 15), (⟨"SettingStoreModel", "hasValue", "(II)Z"⟩, 15), (⟨"SettingStoreModel", "lengthOf", "(II)I"⟩, 15), (⟨"SettingStoreModel", "isSector", "(I)Z"⟩, 15), (⟨"SettingStoreModel", "isSetting", "(II)Z"⟩, 15), (⟨"SettingStoreModel", "sets", "(III)I"⟩, 15), (⟨"SettingStoreModel", "tells", "(III)I"⟩, 15), (⟨"SettingStoreModel", "inChange", "(I)I"⟩, 15), (⟨"SettingStoreModel", "makesRoom", "(I)Z"⟩, 15), (⟨"SettingStoreModel", "freeNow", "()I"⟩, 15), (⟨"SettingStoreModel", "freeThen", "()I"⟩, 15), (⟨"SettingStoreModel", "sizeNext", "(I)I"⟩, 15), (⟨"SettingStoreModel", "handsOver", "()V"⟩, 15)]
theorem lw_r7 : ∀ q ∈ lw_privs_7, lw_okq q := List.forall_mem_cons.mpr ⟨lw_p96, List.forall_mem_cons.mpr ⟨lw_p97, List.forall_mem_cons.mpr ⟨lw_p98, List.forall_mem_cons.mpr ⟨lw_p99, List.forall_mem_cons.mpr ⟨lw_p100, List.forall_mem_cons.mpr ⟨lw_p101, List.forall_mem_cons.mpr ⟨lw_p102, List.forall_mem_cons.mpr ⟨lw_p103, List.forall_mem_cons.mpr ⟨lw_p104, List.forall_mem_cons.mpr ⟨lw_p105, List.forall_mem_cons.mpr ⟨lw_p106, List.forall_mem_cons.mpr ⟨lw_p107, List.forall_mem_cons.mpr ⟨lw_p108, List.forall_mem_cons.mpr ⟨lw_p109, List.forall_mem_cons.mpr ⟨lw_p110, List.forall_mem_cons.mpr ⟨lw_p111, fun _ h => absurd h List.not_mem_nil⟩⟩⟩⟩⟩⟩⟩⟩⟩⟩⟩⟩⟩⟩⟩⟩
theorem lw_p112 : lw_okq (⟨"SettingStoreModel", "valueOf", "(II)J"⟩, 15) := ⟨⟨by decide +kernel, by decide +kernel⟩, List.mem_of_getElem? (i := 786) (by decide +kernel), List.mem_of_getElem? (i := 1001) (by decide +kernel), List.mem_of_getElem? (i := 1002) (by decide +kernel)⟩
theorem lw_p113 : lw_okq (⟨"SettingStoreModel", "number", "(III)J"⟩, 15) := ⟨⟨by decide +kernel, by decide +kernel⟩, List.mem_of_getElem? (i := 786) (by decide +kernel), List.mem_of_getElem? (i := 1005) (by decide +kernel), List.mem_of_getElem? (i := 1006) (by decide +kernel)⟩
theorem lw_p114 : lw_okq (⟨"SettingStoreModel", "zeros", "(II)I"⟩, 15) := ⟨⟨by decide +kernel, by decide +kernel⟩, List.mem_of_getElem? (i := 786) (by decide +kernel), List.mem_of_getElem? (i := 1009) (by decide +kernel), List.mem_of_getElem? (i := 1010) (by decide +kernel)⟩
theorem lw_p115 : lw_okq (⟨"SettingStoreModel", "laysCounter", "(II)V"⟩, 15) := ⟨⟨by decide +kernel, by decide +kernel⟩, List.mem_of_getElem? (i := 786) (by decide +kernel), List.mem_of_getElem? (i := 1015) (by decide +kernel), List.mem_of_getElem? (i := 1016) (by decide +kernel)⟩
theorem lw_p116 : lw_okq (⟨"SettingStoreModel", "lays", "(I)V"⟩, 15) := ⟨⟨by decide +kernel, by decide +kernel⟩, List.mem_of_getElem? (i := 786) (by decide +kernel), List.mem_of_getElem? (i := 1019) (by decide +kernel), List.mem_of_getElem? (i := 1020) (by decide +kernel)⟩
theorem lw_p117 : lw_okq (⟨"SettingStoreModel", "laysCheck", "()V"⟩, 15) := ⟨⟨by decide +kernel, by decide +kernel⟩, List.mem_of_getElem? (i := 786) (by decide +kernel), List.mem_of_getElem? (i := 1023) (by decide +kernel), List.mem_of_getElem? (i := 1024) (by decide +kernel)⟩
theorem lw_p118 : lw_okq (⟨"SettingStoreModel", "laysSetting", "(IIIJ)V"⟩, 15) := ⟨⟨by decide +kernel, by decide +kernel⟩, List.mem_of_getElem? (i := 786) (by decide +kernel), List.mem_of_getElem? (i := 1027) (by decide +kernel), List.mem_of_getElem? (i := 1028) (by decide +kernel)⟩
theorem lw_p119 : lw_okq (⟨"SettingStoreModel", "told", "()I"⟩, 15) := ⟨⟨by decide +kernel, by decide +kernel⟩, List.mem_of_getElem? (i := 786) (by decide +kernel), List.mem_of_getElem? (i := 1031) (by decide +kernel), List.mem_of_getElem? (i := 1032) (by decide +kernel)⟩
theorem lw_p120 : lw_okq (⟨"SettingStoreModel", "goesUp", "(II)Z"⟩, 15) := ⟨⟨by decide +kernel, by decide +kernel⟩, List.mem_of_getElem? (i := 786) (by decide +kernel), List.mem_of_getElem? (i := 1044) (by decide +kernel), List.mem_of_getElem? (i := 1045) (by decide +kernel)⟩
theorem lw_p121 : lw_okq (⟨"SettingStoreModel", "isTag", "(I)Z"⟩, 15) := ⟨⟨by decide +kernel, by decide +kernel⟩, List.mem_of_getElem? (i := 786) (by decide +kernel), List.mem_of_getElem? (i := 1072) (by decide +kernel), List.mem_of_getElem? (i := 1073) (by decide +kernel)⟩
theorem lw_p122 : lw_okq (⟨"SettingStoreModel", "valueNow", "(I)J"⟩, 15) := ⟨⟨by decide +kernel, by decide +kernel⟩, List.mem_of_getElem? (i := 786) (by decide +kernel), List.mem_of_getElem? (i := 1076) (by decide +kernel), List.mem_of_getElem? (i := 1077) (by decide +kernel)⟩
theorem lw_p123 : lw_okq (⟨"SettingStoreModel", "wouldCost", "(I)I"⟩, 15) := ⟨⟨by decide +kernel, by decide +kernel⟩, List.mem_of_getElem? (i := 786) (by decide +kernel), List.mem_of_getElem? (i := 1117) (by decide +kernel), List.mem_of_getElem? (i := 1118) (by decide +kernel)⟩
theorem lw_p124 : lw_okq (⟨"SettingStoreModel", "putsAside", "()V"⟩, 15) := ⟨⟨by decide +kernel, by decide +kernel⟩, List.mem_of_getElem? (i := 786) (by decide +kernel), List.mem_of_getElem? (i := 1121) (by decide +kernel), List.mem_of_getElem? (i := 1122) (by decide +kernel)⟩
theorem lw_p125 : lw_okq (⟨"SettingStoreModel", "putsBack", "()V"⟩, 15) := ⟨⟨by decide +kernel, by decide +kernel⟩, List.mem_of_getElem? (i := 786) (by decide +kernel), List.mem_of_getElem? (i := 1125) (by decide +kernel), List.mem_of_getElem? (i := 1126) (by decide +kernel)⟩
theorem lw_p126 : lw_okq (⟨"SettingStoreModel", "isOf", "(III)Z"⟩, 15) := ⟨⟨by decide +kernel, by decide +kernel⟩, List.mem_of_getElem? (i := 786) (by decide +kernel), List.mem_of_getElem? (i := 1137) (by decide +kernel), List.mem_of_getElem? (i := 1138) (by decide +kernel)⟩
theorem lw_p127 : lw_okq (⟨"SettingStoreModel", "extreme", "(Z)I"⟩, 15) := ⟨⟨by decide +kernel, by decide +kernel⟩, List.mem_of_getElem? (i := 786) (by decide +kernel), List.mem_of_getElem? (i := 1146) (by decide +kernel), List.mem_of_getElem? (i := 1147) (by decide +kernel)⟩
def lw_privs_8 : List (MethodName × Nat) := [(⟨"SettingStoreModel", "valueOf", "(II)J"⟩, 15), (⟨"SettingStoreModel", "number", "(III)J"⟩, 15), (⟨"SettingStoreModel", "zeros", "(II)I"⟩, 15), (⟨"SettingStoreModel", "laysCounter", "(II)V"⟩, 15), (⟨"SettingStoreModel", "lays", "(I)V"⟩, 15), (⟨"SettingStoreModel", "laysCheck", "()V"⟩, 15), (⟨"SettingStoreModel", "laysSetting", "(IIIJ)V"⟩, 15), (⟨"SettingStoreModel", "told", "()I"⟩, 15), (⟨"SettingStoreModel", "goesUp", "(II)Z"⟩, 15), (⟨"SettingStoreModel", "isTag", "(I)Z"⟩, 15), (⟨"SettingStoreModel", "valueNow", "(I)J"⟩, 15), (⟨"SettingStoreModel", "wouldCost", "(I)I"⟩, 15), (⟨"SettingStoreModel", "putsAside", "()V"⟩, 15), (⟨"SettingStoreModel", "putsBack", "()V"⟩, 15), (⟨"SettingStoreModel", "isOf", "(III)Z"⟩, 15), (⟨"SettingStoreModel", "extreme", "(Z)I"⟩, 15)]
theorem lw_r8 : ∀ q ∈ lw_privs_8, lw_okq q := List.forall_mem_cons.mpr ⟨lw_p112, List.forall_mem_cons.mpr ⟨lw_p113, List.forall_mem_cons.mpr ⟨lw_p114, List.forall_mem_cons.mpr ⟨lw_p115, List.forall_mem_cons.mpr ⟨lw_p116, List.forall_mem_cons.mpr ⟨lw_p117, List.forall_mem_cons.mpr ⟨lw_p118, List.forall_mem_cons.mpr ⟨lw_p119, List.forall_mem_cons.mpr ⟨lw_p120, List.forall_mem_cons.mpr ⟨lw_p121, List.forall_mem_cons.mpr ⟨lw_p122, List.forall_mem_cons.mpr ⟨lw_p123, List.forall_mem_cons.mpr ⟨lw_p124, List.forall_mem_cons.mpr ⟨lw_p125, List.forall_mem_cons.mpr ⟨lw_p126, List.forall_mem_cons.mpr ⟨lw_p127, fun _ h => absurd h List.not_mem_nil⟩⟩⟩⟩⟩⟩⟩⟩⟩⟩⟩⟩⟩⟩⟩⟩
theorem lw_p128 : lw_okq (⟨"SettingStoreModel", "erasesOfAll", "()I"⟩, 15) := ⟨⟨by decide +kernel, by decide +kernel⟩, List.mem_of_getElem? (i := 786) (by decide +kernel), List.mem_of_getElem? (i := 1154) (by decide +kernel), List.mem_of_getElem? (i := 1155) (by decide +kernel)⟩
def lw_privs_9 : List (MethodName × Nat) := [(⟨"SettingStoreModel", "erasesOfAll", "()I"⟩, 15)]
theorem lw_r9 : ∀ q ∈ lw_privs_9, lw_okq q := List.forall_mem_cons.mpr ⟨lw_p128, fun _ h => absurd h List.not_mem_nil⟩
def lw_privs : List (MethodName × Nat) := lw_privs_1 ++ (lw_privs_2 ++ (lw_privs_3 ++ (lw_privs_4 ++ (lw_privs_5 ++ (lw_privs_6 ++ (lw_privs_7 ++ (lw_privs_8 ++ (lw_privs_9))))))))
def lw_tbl : List Cond := k2_sels lw_privs ++ tables_1
theorem lw_privs_ok : ∀ q ∈ lw_privs, lw_okq q := by
  show ∀ q ∈ lw_privs_1 ++ (lw_privs_2 ++ (lw_privs_3 ++ (lw_privs_4 ++ (lw_privs_5 ++ (lw_privs_6 ++ (lw_privs_7 ++ (lw_privs_8 ++ (lw_privs_9)))))))), lw_okq q
  exact List.forall_mem_append.mpr ⟨lw_r1, List.forall_mem_append.mpr ⟨lw_r2, List.forall_mem_append.mpr ⟨lw_r3, List.forall_mem_append.mpr ⟨lw_r4, List.forall_mem_append.mpr ⟨lw_r5, List.forall_mem_append.mpr ⟨lw_r6, List.forall_mem_append.mpr ⟨lw_r7, List.forall_mem_append.mpr ⟨lw_r8, lw_r9⟩⟩⟩⟩⟩⟩⟩⟩
/-- the streams that the claim lets the run draw from -/
abbrev lw_cs : List Choice := [Jvm.Choice.named "NaN.bits"]
theorem lw_bits : nanBits ∈ lw_cs := by first | decide | exact List.mem_cons_self | simp [lw_cs, nanBits]
def RX0 : String := "SettingStore$Change"
def TX0 : u_T := fun k => match k with
  | 0 => ("SettingStore$Change", "labels", "[I", true)
  | 1 => ("SettingStore$Change", "values", "[I", true)
  | 2 => ("SettingStore$Change", "lengths", "[I", true)
  | 3 => ("SettingStore$Change", "begun", "Z", false)
  | _ => ("SettingStore$Change", "told", "I", false)
def tyX0 : Nat → FieldType := fun k => match k with
  | 0 => .array .int
  | 1 => .array .int
  | 2 => .array .int
  | 3 => .boolean
  | _ => .int
abbrev wsX00 : List Cond := u_ws RX0 TX0 5
theorem nmX0 : ∀ a, a < 5 → ∀ b, b < 5 → a ≠ b → (TX0 a).2.1 ≠ (TX0 b).2.1 := by decide +kernel
theorem tyX0_ok : ∀ k, k < 5 → parseFieldDescriptor (TX0 k).2.2.1 = some (tyX0 k) := by decide +kernel
abbrev cX0_init : ByteArray := prog_2_method_1_code
def yX0_init : MethodName := ⟨RX0, "<init>", "()V"⟩
abbrev cX0_start : ByteArray := prog_2_method_2_code
def yX0_start : MethodName := ⟨RX0, "start", "()V"⟩
abbrev cX0_forget : ByteArray := prog_2_method_3_code
def yX0_forget : MethodName := ⟨RX0, "forget", "()V"⟩
abbrev cX0_find : ByteArray := prog_2_method_4_code
def yX0_find : MethodName := ⟨RX0, "find", "(I)I"⟩
abbrev cX0_tell : ByteArray := prog_2_method_5_code
def yX0_tell : MethodName := ⟨RX0, "tell", "(III)I"⟩
abbrev cX0_bytesToWrite : ByteArray := prog_2_method_6_code
def yX0_bytesToWrite : MethodName := ⟨RX0, "bytesToWrite", "()I"⟩
def RX1 : String := "SettingStore$Chip"
def TX1 : u_T := fun k => match k with
  | 0 => ("SettingStore$Chip", "cells", "[I", true)
  | 1 => ("SettingStore$Chip", "erases", "[I", true)
  | 2 => ("SettingStore$Chip", "sectors", "I", false)
  | 3 => ("SettingStore$Chip", "size", "I", false)
  | 4 => ("SettingStore$Chip", "writes", "I", false)
  | 5 => ("SettingStore$Chip", "doings", "I", false)
  | 6 => ("SettingStore$Chip", "powered", "Z", false)
  | 7 => ("SettingStore$Chip", "powerIn", "I", false)
  | 8 => ("SettingStore$Chip", "mask", "I", false)
  | _ => ("SettingStore$Chip", "outages", "I", false)
def tyX1 : Nat → FieldType := fun k => match k with
  | 0 => .array .int
  | 1 => .array .int
  | 2 => .int
  | 3 => .int
  | 4 => .int
  | 5 => .int
  | 6 => .boolean
  | 7 => .int
  | 8 => .int
  | _ => .int
abbrev wsX10 : List Cond := u_ws RX1 TX1 10
theorem nmX1 : ∀ a, a < 10 → ∀ b, b < 10 → a ≠ b → (TX1 a).2.1 ≠ (TX1 b).2.1 := by decide +kernel
theorem tyX1_ok : ∀ k, k < 10 → parseFieldDescriptor (TX1 k).2.2.1 = some (tyX1 k) := by decide +kernel
abbrev cX1_init : ByteArray := prog_3_method_1_code
def yX1_init : MethodName := ⟨RX1, "<init>", "()V"⟩
abbrev cX1_renew : ByteArray := prog_3_method_2_code
def yX1_renew : MethodName := ⟨RX1, "renew", "(II)V"⟩
abbrev cX1_copyFrom : ByteArray := prog_3_method_3_code
def yX1_copyFrom : MethodName := ⟨RX1, "copyFrom", "(LSettingStore$Chip;)V"⟩
abbrev cX1_arm : ByteArray := prog_3_method_4_code
def yX1_arm : MethodName := ⟨RX1, "arm", "(II)V"⟩
abbrev cX1_hasSector : ByteArray := prog_3_method_5_code
def yX1_hasSector : MethodName := ⟨RX1, "hasSector", "(I)Z"⟩
abbrev cX1_holds : ByteArray := prog_3_method_6_code
def yX1_holds : MethodName := ⟨RX1, "holds", "(II)Z"⟩
abbrev cX1_peek : ByteArray := prog_3_method_7_code
def yX1_peek : MethodName := ⟨RX1, "peek", "(II)I"⟩
abbrev cX1_decay : ByteArray := prog_3_method_8_code
def yX1_decay : MethodName := ⟨RX1, "decay", "(III)I"⟩
abbrev cX1_write : ByteArray := prog_3_method_9_code
def yX1_write : MethodName := ⟨RX1, "write", "(III)V"⟩
abbrev cX1_erase : ByteArray := prog_3_method_10_code
def yX1_erase : MethodName := ⟨RX1, "erase", "(I)V"⟩
abbrev cX1_endures : ByteArray := prog_3_method_11_code
def yX1_endures : MethodName := ⟨RX1, "endures", "()Z"⟩
abbrev cX1_makeReady : ByteArray := prog_3_method_12_code
def yX1_makeReady : MethodName := ⟨RX1, "makeReady", "(II)V"⟩
abbrev cX1_writeDraft : ByteArray := prog_3_method_13_code
def yX1_writeDraft : MethodName := ⟨RX1, "writeDraft", "(IILSettingStore$Draft;)V"⟩
abbrev cX1_eraseAllBut : ByteArray := prog_3_method_14_code
def yX1_eraseAllBut : MethodName := ⟨RX1, "eraseAllBut", "(I)V"⟩
abbrev cX1_isBlank : ByteArray := prog_3_method_15_code
def yX1_isBlank : MethodName := ⟨RX1, "isBlank", "(I)Z"⟩
abbrev cX1_usedEnd : ByteArray := prog_3_method_16_code
def yX1_usedEnd : MethodName := ⟨RX1, "usedEnd", "(I)I"⟩
abbrev cX1_copySector : ByteArray := prog_3_method_17_code
def yX1_copySector : MethodName := ⟨RX1, "copySector", "(I[I)V"⟩
abbrev cX1_numberOf : ByteArray := prog_3_method_18_code
def yX1_numberOf : MethodName := ⟨RX1, "numberOf", "(I)I"⟩
abbrev cX1_isActive : ByteArray := prog_3_method_19_code
def yX1_isActive : MethodName := ⟨RX1, "isActive", "(I)Z"⟩
abbrev cX1_greatestActive : ByteArray := prog_3_method_20_code
def yX1_greatestActive : MethodName := ⟨RX1, "greatestActive", "()I"⟩
abbrev cX1_leastErased : ByteArray := prog_3_method_21_code
def yX1_leastErased : MethodName := ⟨RX1, "leastErased", "(I)I"⟩
abbrev cX1_erasesOf : ByteArray := prog_3_method_22_code
def yX1_erasesOf : MethodName := ⟨RX1, "erasesOf", "(I)I"⟩
abbrev cX1_mostErases : ByteArray := prog_3_method_23_code
def yX1_mostErases : MethodName := ⟨RX1, "mostErases", "()I"⟩
abbrev cX1_fewestErases : ByteArray := prog_3_method_24_code
def yX1_fewestErases : MethodName := ⟨RX1, "fewestErases", "()I"⟩
abbrev cX1_allErases : ByteArray := prog_3_method_25_code
def yX1_allErases : MethodName := ⟨RX1, "allErases", "()I"⟩
def RX2 : String := "SettingStore$Draft"
def TX2 : u_T := fun k => match k with
  | 0 => ("SettingStore$Draft", "row", "[I", true)
  | 1 => ("SettingStore$Draft", "used", "I", false)
  | _ => ("SettingStore$Draft", "sum", "I", false)
def tyX2 : Nat → FieldType := fun k => match k with
  | 0 => .array .int
  | 1 => .int
  | _ => .int
abbrev wsX20 : List Cond := u_ws RX2 TX2 3
theorem nmX2 : ∀ a, a < 3 → ∀ b, b < 3 → a ≠ b → (TX2 a).2.1 ≠ (TX2 b).2.1 := by decide +kernel
theorem tyX2_ok : ∀ k, k < 3 → parseFieldDescriptor (TX2 k).2.2.1 = some (tyX2 k) := by decide +kernel
abbrev cX2_init : ByteArray := prog_4_method_1_code
def yX2_init : MethodName := ⟨RX2, "<init>", "()V"⟩
abbrev cX2_fillSetting : ByteArray := prog_4_method_2_code
def yX2_fillSetting : MethodName := ⟨RX2, "fillSetting", "(IIII)V"⟩
abbrev cX2_fillCounter : ByteArray := prog_4_method_3_code
def yX2_fillCounter : MethodName := ⟨RX2, "fillCounter", "(II)V"⟩
abbrev cX2_fillCommit : ByteArray := prog_4_method_4_code
def yX2_fillCommit : MethodName := ⟨RX2, "fillCommit", "(I)V"⟩
abbrev cX2_start : ByteArray := prog_4_method_5_code
def yX2_start : MethodName := ⟨RX2, "start", "(II)V"⟩
abbrev cX2_putBytes : ByteArray := prog_4_method_6_code
def yX2_putBytes : MethodName := ⟨RX2, "putBytes", "(II)V"⟩
abbrev cX2_put : ByteArray := prog_4_method_7_code
def yX2_put : MethodName := ⟨RX2, "put", "(I)V"⟩
def RX3 : String := "SettingStore$Reading"
def TX3 : u_T := fun k => match k with
  | 0 => ("SettingStore$Reading", "row", "[I", true)
  | 1 => ("SettingStore$Reading", "places", "[I", true)
  | 2 => ("SettingStore$Reading", "kinds", "[I", true)
  | 3 => ("SettingStore$Reading", "labels", "[I", true)
  | 4 => ("SettingStore$Reading", "sizes", "[I", true)
  | 5 => ("SettingStore$Reading", "marks", "[I", true)
  | 6 => ("SettingStore$Reading", "newest", "[I", true)
  | 7 => ("SettingStore$Reading", "size", "I", false)
  | 8 => ("SettingStore$Reading", "entries", "I", false)
  | 9 => ("SettingStore$Reading", "free", "I", false)
  | _ => ("SettingStore$Reading", "lost", "I", false)
def tyX3 : Nat → FieldType := fun k => match k with
  | 0 => .array .int
  | 1 => .array .int
  | 2 => .array .int
  | 3 => .array .int
  | 4 => .array .int
  | 5 => .array .int
  | 6 => .array .int
  | 7 => .int
  | 8 => .int
  | 9 => .int
  | _ => .int
abbrev wsX30 : List Cond := u_ws RX3 TX3 11
theorem nmX3 : ∀ a, a < 11 → ∀ b, b < 11 → a ≠ b → (TX3 a).2.1 ≠ (TX3 b).2.1 := by decide +kernel
theorem tyX3_ok : ∀ k, k < 11 → parseFieldDescriptor (TX3 k).2.2.1 = some (tyX3 k) := by decide +kernel
abbrev cX3_init : ByteArray := prog_5_method_1_code
def yX3_init : MethodName := ⟨RX3, "<init>", "()V"⟩
abbrev cX3_scan : ByteArray := prog_5_method_2_code
def yX3_scan : MethodName := ⟨RX3, "scan", "(LSettingStore$Chip;I)V"⟩
abbrev cX3_takeEntry : ByteArray := prog_5_method_3_code
def yX3_takeEntry : MethodName := ⟨RX3, "takeEntry", "(I)I"⟩
abbrev cX3_kindOf : ByteArray := prog_5_method_4_code
def yX3_kindOf : MethodName := ⟨RX3, "kindOf", "(II)I"⟩
abbrev cX3_sizeOf : ByteArray := prog_5_method_5_code
def yX3_sizeOf : MethodName := ⟨RX3, "sizeOf", "(II)I"⟩
abbrev cX3_firstMark : ByteArray := prog_5_method_6_code
def yX3_firstMark : MethodName := ⟨RX3, "firstMark", "(III)I"⟩
abbrev cX3_settleParts : ByteArray := prog_5_method_7_code
def yX3_settleParts : MethodName := ⟨RX3, "settleParts", "(I)V"⟩
abbrev cX3_markNewest : ByteArray := prog_5_method_8_code
def yX3_markNewest : MethodName := ⟨RX3, "markNewest", "()V"⟩
abbrev cX3_byteAt : ByteArray := prog_5_method_9_code
def yX3_byteAt : MethodName := ⟨RX3, "byteAt", "(I)I"⟩
abbrev cX3_has : ByteArray := prog_5_method_10_code
def yX3_has : MethodName := ⟨RX3, "has", "(I)Z"⟩
abbrev cX3_tell : ByteArray := prog_5_method_11_code
def yX3_tell : MethodName := ⟨RX3, "tell", "(II)I"⟩
abbrev cX3_freeBytes : ByteArray := prog_5_method_12_code
def yX3_freeBytes : MethodName := ⟨RX3, "freeBytes", "()I"⟩
abbrev cX3_freeBehindHandover : ByteArray := prog_5_method_13_code
def yX3_freeBehindHandover : MethodName := ⟨RX3, "freeBehindHandover", "()I"⟩
abbrev cX3_newestOf : ByteArray := prog_5_method_14_code
def yX3_newestOf : MethodName := ⟨RX3, "newestOf", "(I)I"⟩
abbrev cX3_hasValue : ByteArray := prog_5_method_15_code
def yX3_hasValue : MethodName := ⟨RX3, "hasValue", "(I)Z"⟩
abbrev cX3_valuedSize : ByteArray := prog_5_method_16_code
def yX3_valuedSize : MethodName := ⟨RX3, "valuedSize", "(I)I"⟩
abbrev cX3_newestValue : ByteArray := prog_5_method_17_code
def yX3_newestValue : MethodName := ⟨RX3, "newestValue", "(I)J"⟩
abbrev cX3_newestLength : ByteArray := prog_5_method_18_code
def yX3_newestLength : MethodName := ⟨RX3, "newestLength", "(I)I"⟩
abbrev cX3_valueOf : ByteArray := prog_5_method_19_code
def yX3_valueOf : MethodName := ⟨RX3, "valueOf", "(I)J"⟩
abbrev cX3_numberAt : ByteArray := prog_5_method_20_code
def yX3_numberAt : MethodName := ⟨RX3, "numberAt", "(II)J"⟩
abbrev cX3_clearedBits : ByteArray := prog_5_method_21_code
def yX3_clearedBits : MethodName := ⟨RX3, "clearedBits", "(I)I"⟩
abbrev cX3_unspentPlace : ByteArray := prog_5_method_22_code
def yX3_unspentPlace : MethodName := ⟨RX3, "unspentPlace", "(I)I"⟩
abbrev cX3_tells : ByteArray := prog_5_method_23_code
def yX3_tells : MethodName := ⟨RX3, "tells", "(II)Z"⟩
abbrev cX3_tellingOf : ByteArray := prog_5_method_24_code
def yX3_tellingOf : MethodName := ⟨RX3, "tellingOf", "(I)I"⟩
abbrev cX3_earlierValue : ByteArray := prog_5_method_25_code
def yX3_earlierValue : MethodName := ⟨RX3, "earlierValue", "(II)J"⟩
abbrev cX3_allBytes : ByteArray := prog_5_method_26_code
def yX3_allBytes : MethodName := ⟨RX3, "allBytes", "()I"⟩
abbrev cX3_valuedBytes : ByteArray := prog_5_method_27_code
def yX3_valuedBytes : MethodName := ⟨RX3, "valuedBytes", "()I"⟩
abbrev cX3_copyWrites : ByteArray := prog_5_method_28_code
def yX3_copyWrites : MethodName := ⟨RX3, "copyWrites", "()I"⟩
abbrev cX3_valuedTags : ByteArray := prog_5_method_29_code
def yX3_valuedTags : MethodName := ⟨RX3, "valuedTags", "()J"⟩
def RX4 : String := "SettingStore$Store"
def TX4 : u_T := fun k => match k with
  | 0 => ("SettingStore$Store", "chip", "LSettingStore$Chip;", true)
  | 1 => ("SettingStore$Store", "reading", "LSettingStore$Reading;", true)
  | 2 => ("SettingStore$Store", "change", "LSettingStore$Change;", true)
  | 3 => ("SettingStore$Store", "draft", "LSettingStore$Draft;", true)
  | 4 => ("SettingStore$Store", "inUse", "I", false)
  | 5 => ("SettingStore$Store", "handovers", "I", false)
  | _ => ("SettingStore$Store", "pen", "I", false)
def tyX4 : Nat → FieldType := fun k => match k with
  | 0 => .object "SettingStore$Chip"
  | 1 => .object "SettingStore$Reading"
  | 2 => .object "SettingStore$Change"
  | 3 => .object "SettingStore$Draft"
  | 4 => .int
  | 5 => .int
  | _ => .int
abbrev wsX40 : List Cond := u_ws RX4 TX4 7
theorem nmX4 : ∀ a, a < 7 → ∀ b, b < 7 → a ≠ b → (TX4 a).2.1 ≠ (TX4 b).2.1 := by decide +kernel
theorem tyX4_ok : ∀ k, k < 7 → parseFieldDescriptor (TX4 k).2.2.1 = some (tyX4 k) := by decide +kernel
abbrev cX4_init : ByteArray := prog_6_method_1_code
def yX4_init : MethodName := ⟨RX4, "<init>", "()V"⟩
abbrev cX4_renew : ByteArray := prog_6_method_2_code
def yX4_renew : MethodName := ⟨RX4, "renew", "(II)V"⟩
abbrev cX4_copyFrom : ByteArray := prog_6_method_3_code
def yX4_copyFrom : MethodName := ⟨RX4, "copyFrom", "(LSettingStore$Store;)V"⟩
abbrev cX4_isOn : ByteArray := prog_6_method_4_code
def yX4_isOn : MethodName := ⟨RX4, "isOn", "()Z"⟩
abbrev cX4_switchOff : ByteArray := prog_6_method_5_code
def yX4_switchOff : MethodName := ⟨RX4, "switchOff", "()V"⟩
abbrev cX4_switchOn : ByteArray := prog_6_method_6_code
def yX4_switchOn : MethodName := ⟨RX4, "switchOn", "()I"⟩
abbrev cX4_outcome : ByteArray := prog_6_method_7_code
def yX4_outcome : MethodName := ⟨RX4, "outcome", "(I)I"⟩
abbrev cX4_look : ByteArray := prog_6_method_8_code
def yX4_look : MethodName := ⟨RX4, "look", "()LSettingStore$Reading;"⟩
abbrev cX4_wouldHave : ByteArray := prog_6_method_9_code
def yX4_wouldHave : MethodName := ⟨RX4, "wouldHave", "(I)Z"⟩
abbrev cX4_keep : ByteArray := prog_6_method_10_code
def yX4_keep : MethodName := ⟨RX4, "keep", "(III)I"⟩
abbrev cX4_countUp : ByteArray := prog_6_method_11_code
def yX4_countUp : MethodName := ⟨RX4, "countUp", "(I)I"⟩
abbrev cX4_highestBit : ByteArray := prog_6_method_12_code
def yX4_highestBit : MethodName := ⟨RX4, "highestBit", "(I)I"⟩
abbrev cX4_writeChange : ByteArray := prog_6_method_13_code
def yX4_writeChange : MethodName := ⟨RX4, "writeChange", "()I"⟩
abbrev cX4_makeRoom : ByteArray := prog_6_method_14_code
def yX4_makeRoom : MethodName := ⟨RX4, "makeRoom", "(I)Z"⟩
abbrev cX4_handOverByHand : ByteArray := prog_6_method_15_code
def yX4_handOverByHand : MethodName := ⟨RX4, "handOverByHand", "()I"⟩
abbrev cX4_handOver : ByteArray := prog_6_method_16_code
def yX4_handOver : MethodName := ⟨RX4, "handOver", "()V"⟩
abbrev cX4_costOf : ByteArray := prog_6_method_17_code
def yX4_costOf : MethodName := ⟨RX4, "costOf", "(I)I"⟩
abbrev cX4_handoverDoings : ByteArray := prog_6_method_18_code
def yX4_handoverDoings : MethodName := ⟨RX4, "handoverDoings", "()I"⟩
abbrev cX4_wearOut : ByteArray := prog_6_method_19_code
def yX4_wearOut : MethodName := ⟨RX4, "wearOut", "(I)V"⟩
def RX5 : String := "SettingStore"
def TX5 : u_T := fun k => match k with
  | 0 => ("SettingStore", "store", "LSettingStore$Store;", true)
  | _ => ("SettingStore", "trial", "LSettingStore$Store;", true)
def tyX5 : Nat → FieldType := fun k => match k with
  | 0 => .object "SettingStore$Store"
  | _ => .object "SettingStore$Store"
abbrev wsX50 : List Cond := u_ws RX5 TX5 2
theorem nmX5 : ∀ a, a < 2 → ∀ b, b < 2 → a ≠ b → (TX5 a).2.1 ≠ (TX5 b).2.1 := by decide +kernel
theorem tyX5_ok : ∀ k, k < 2 → parseFieldDescriptor (TX5 k).2.2.1 = some (tyX5 k) := by decide +kernel
abbrev cX5_init : ByteArray := prog_1_method_1_code
def yX5_init : MethodName := ⟨RX5, "<init>", "()V"⟩
abbrev cX5_chip : ByteArray := prog_1_method_2_code
def yX5_chip : MethodName := ⟨RX5, "chip", "(II)Z"⟩
abbrev cX5_on : ByteArray := prog_1_method_3_code
def yX5_on : MethodName := ⟨RX5, "on", "()I"⟩
abbrev cX5_off : ByteArray := prog_1_method_4_code
def yX5_off : MethodName := ⟨RX5, "off", "()Z"⟩
abbrev cX5_power : ByteArray := prog_1_method_5_code
def yX5_power : MethodName := ⟨RX5, "power", "(II)Z"⟩
abbrev cX5_rot : ByteArray := prog_1_method_6_code
def yX5_rot : MethodName := ⟨RX5, "rot", "(III)I"⟩
abbrev cX5_set : ByteArray := prog_1_method_7_code
def yX5_set : MethodName := ⟨RX5, "set", "(III)I"⟩
abbrev cX5_drop : ByteArray := prog_1_method_8_code
def yX5_drop : MethodName := ⟨RX5, "drop", "(I)I"⟩
abbrev cX5_bump : ByteArray := prog_1_method_9_code
def yX5_bump : MethodName := ⟨RX5, "bump", "(I)I"⟩
abbrev cX5_begin : ByteArray := prog_1_method_10_code
def yX5_begin : MethodName := ⟨RX5, "begin", "()Z"⟩
abbrev cX5_commit : ByteArray := prog_1_method_11_code
def yX5_commit : MethodName := ⟨RX5, "commit", "()I"⟩
abbrev cX5_abort : ByteArray := prog_1_method_12_code
def yX5_abort : MethodName := ⟨RX5, "abort", "()I"⟩
abbrev cX5_get : ByteArray := prog_1_method_13_code
def yX5_get : MethodName := ⟨RX5, "get", "(I)J"⟩
abbrev cX5_length : ByteArray := prog_1_method_14_code
def yX5_length : MethodName := ⟨RX5, "length", "(I)I"⟩
abbrev cX5_hand : ByteArray := prog_1_method_15_code
def yX5_hand : MethodName := ⟨RX5, "hand", "()I"⟩
abbrev cX5_at : ByteArray := prog_1_method_16_code
def yX5_at : MethodName := ⟨RX5, "at", "(II)I"⟩
abbrev cX5_sector : ByteArray := prog_1_method_17_code
def yX5_sector : MethodName := ⟨RX5, "sector", "(II)I"⟩
abbrev cX5_entry : ByteArray := prog_1_method_18_code
def yX5_entry : MethodName := ⟨RX5, "entry", "(III)I"⟩
abbrev cX5_space : ByteArray := prog_1_method_19_code
def yX5_space : MethodName := ⟨RX5, "space", "(II)I"⟩
abbrev cX5_until : ByteArray := prog_1_method_20_code
def yX5_until : MethodName := ⟨RX5, "until", "(I)I"⟩
abbrev cX5_after : ByteArray := prog_1_method_21_code
def yX5_after : MethodName := ⟨RX5, "after", "()I"⟩
abbrev cX5_costs : ByteArray := prog_1_method_22_code
def yX5_costs : MethodName := ⟨RX5, "costs", "(I)I"⟩
abbrev cX5_torn : ByteArray := prog_1_method_23_code
def yX5_torn : MethodName := ⟨RX5, "torn", "(IIIIII)J"⟩
abbrev cX5_history : ByteArray := prog_1_method_24_code
def yX5_history : MethodName := ⟨RX5, "history", "(II)J"⟩
abbrev cX5_wears : ByteArray := prog_1_method_25_code
def yX5_wears : MethodName := ⟨RX5, "wears", "(II)I"⟩
abbrev cX5_wear : ByteArray := prog_1_method_26_code
def yX5_wear : MethodName := ⟨RX5, "wear", "(I)I"⟩
abbrev cX5_tags : ByteArray := prog_1_method_27_code
def yX5_tags : MethodName := ⟨RX5, "tags", "()J"⟩
abbrev cX5_count : ByteArray := prog_1_method_28_code
def yX5_count : MethodName := ⟨RX5, "count", "(I)I"⟩
abbrev cX5_within : ByteArray := prog_1_method_29_code
def yX5_within : MethodName := ⟨RX5, "within", "(III)Z"⟩
abbrev cX5_isTag : ByteArray := prog_1_method_30_code
def yX5_isTag : MethodName := ⟨RX5, "isTag", "(I)Z"⟩
abbrev cX5_isSetting : ByteArray := prog_1_method_31_code
def yX5_isSetting : MethodName := ⟨RX5, "isSetting", "(II)Z"⟩
abbrev cX5_checkOf : ByteArray := prog_1_method_32_code
def yX5_checkOf : MethodName := ⟨RX5, "checkOf", "(I)I"⟩
abbrev cX5_unevenness : ByteArray := prog_1_method_33_code
def yX5_unevenness : MethodName := ⟨RX5, "unevenness", "(LSettingStore$Chip;)I"⟩
abbrev cX5_bitsOf : ByteArray := prog_1_method_34_code
def yX5_bitsOf : MethodName := ⟨RX5, "bitsOf", "(F)I"⟩
def RX6 : String := "SettingStoreModel"
def TX6 : u_T := fun k => match k with
  | 0 => ("SettingStoreModel", "x", "[I", true)
  | 1 => ("SettingStoreModel", "kept", "[I", true)
  | 2 => ("SettingStoreModel", "thrown", "I", false)
  | 3 => ("SettingStoreModel", "isGone", "Z", false)
  | 4 => ("SettingStoreModel", "entries", "I", false)
  | 5 => ("SettingStoreModel", "free", "I", false)
  | 6 => ("SettingStoreModel", "lost", "I", false)
  | 7 => ("SettingStoreModel", "place", "[I", true)
  | 8 => ("SettingStoreModel", "sort", "[I", true)
  | 9 => ("SettingStoreModel", "size", "[I", true)
  | 10 => ("SettingStoreModel", "state", "[I", true)
  | 11 => ("SettingStoreModel", "newest", "[I", true)
  | 12 => ("SettingStoreModel", "toSector", "I", false)
  | 13 => ("SettingStoreModel", "toPlace", "I", false)
  | _ => ("SettingStoreModel", "sum", "I", false)
def tyX6 : Nat → FieldType := fun k => match k with
  | 0 => .array .int
  | 1 => .array .int
  | 2 => .int
  | 3 => .boolean
  | 4 => .int
  | 5 => .int
  | 6 => .int
  | 7 => .array .int
  | 8 => .array .int
  | 9 => .array .int
  | 10 => .array .int
  | 11 => .array .int
  | 12 => .int
  | 13 => .int
  | _ => .int
abbrev wsX60 : List Cond := u_ws RX6 TX6 15
theorem nmX6 : ∀ a, a < 15 → ∀ b, b < 15 → a ≠ b → (TX6 a).2.1 ≠ (TX6 b).2.1 := by decide +kernel
theorem tyX6_ok : ∀ k, k < 15 → parseFieldDescriptor (TX6 k).2.2.1 = some (tyX6 k) := by decide +kernel
abbrev cX6_init : ByteArray := prog_8_method_1_code
def yX6_init : MethodName := ⟨RX6, "<init>", "()V"⟩
abbrev cX6_within : ByteArray := prog_8_method_3_code
def yX6_within : MethodName := ⟨RX6, "within", "(III)Z"⟩
abbrev cX6_isOn : ByteArray := prog_8_method_4_code
def yX6_isOn : MethodName := ⟨RX6, "isOn", "()Z"⟩
abbrev cX6_isSector : ByteArray := prog_8_method_5_code
def yX6_isSector : MethodName := ⟨RX6, "isSector", "(I)Z"⟩
abbrev cX6_byteAt : ByteArray := prog_8_method_6_code
def yX6_byteAt : MethodName := ⟨RX6, "byteAt", "(II)I"⟩
abbrev cX6_makes : ByteArray := prog_8_method_7_code
def yX6_makes : MethodName := ⟨RX6, "makes", "(II)V"⟩
abbrev cX6_chip : ByteArray := prog_8_method_8_code
def yX6_chip : MethodName := ⟨RX6, "chip", "(II)Z"⟩
abbrev cX6_putsAside : ByteArray := prog_8_method_9_code
def yX6_putsAside : MethodName := ⟨RX6, "putsAside", "()V"⟩
abbrev cX6_putsBack : ByteArray := prog_8_method_10_code
def yX6_putsBack : MethodName := ⟨RX6, "putsBack", "()V"⟩
abbrev cX6_goes : ByteArray := prog_8_method_11_code
def yX6_goes : MethodName := ⟨RX6, "goes", "()Z"⟩
abbrev cX6_writes : ByteArray := prog_8_method_12_code
def yX6_writes : MethodName := ⟨RX6, "writes", "(III)V"⟩
abbrev cX6_erases : ByteArray := prog_8_method_13_code
def yX6_erases : MethodName := ⟨RX6, "erases", "(I)V"⟩
abbrev cX6_begins : ByteArray := prog_8_method_14_code
def yX6_begins : MethodName := ⟨RX6, "begins", "()V"⟩
abbrev cX6_told : ByteArray := prog_8_method_15_code
def yX6_told : MethodName := ⟨RX6, "told", "()I"⟩
abbrev cX6_isBlank : ByteArray := prog_8_method_16_code
def yX6_isBlank : MethodName := ⟨RX6, "isBlank", "(II)Z"⟩
abbrev cX6_check : ByteArray := prog_8_method_17_code
def yX6_check : MethodName := ⟨RX6, "check", "(I)I"⟩
abbrev cX6_sumOf : ByteArray := prog_8_method_18_code
def yX6_sumOf : MethodName := ⟨RX6, "sumOf", "(III)I"⟩
abbrev cX6_sortAt : ByteArray := prog_8_method_19_code
def yX6_sortAt : MethodName := ⟨RX6, "sortAt", "(II)I"⟩
abbrev cX6_sizeBy : ByteArray := prog_8_method_20_code
def yX6_sizeBy : MethodName := ⟨RX6, "sizeBy", "(II)I"⟩
abbrev cX6_checked : ByteArray := prog_8_method_21_code
def yX6_checked : MethodName := ⟨RX6, "checked", "(I)I"⟩
abbrev cX6_reads : ByteArray := prog_8_method_22_code
def yX6_reads : MethodName := ⟨RX6, "reads", "(I)V"⟩
abbrev cX6_commits : ByteArray := prog_8_method_23_code
def yX6_commits : MethodName := ⟨RX6, "commits", "(I)V"⟩
abbrev cX6_number : ByteArray := prog_8_method_24_code
def yX6_number : MethodName := ⟨RX6, "number", "(III)J"⟩
abbrev cX6_zeros : ByteArray := prog_8_method_25_code
def yX6_zeros : MethodName := ⟨RX6, "zeros", "(II)I"⟩
abbrev cX6_valueOf : ByteArray := prog_8_method_26_code
def yX6_valueOf : MethodName := ⟨RX6, "valueOf", "(II)J"⟩
abbrev cX6_lengthOf : ByteArray := prog_8_method_27_code
def yX6_lengthOf : MethodName := ⟨RX6, "lengthOf", "(II)I"⟩
abbrev cX6_hasValue : ByteArray := prog_8_method_28_code
def yX6_hasValue : MethodName := ⟨RX6, "hasValue", "(II)Z"⟩
abbrev cX6_valued : ByteArray := prog_8_method_29_code
def yX6_valued : MethodName := ⟨RX6, "valued", "(I)I"⟩
abbrev cX6_leastErased : ByteArray := prog_8_method_30_code
def yX6_leastErased : MethodName := ⟨RX6, "leastErased", "(I)I"⟩
abbrev cX6_numberOf : ByteArray := prog_8_method_31_code
def yX6_numberOf : MethodName := ⟨RX6, "numberOf", "(I)I"⟩
abbrev cX6_makesReady : ByteArray := prog_8_method_32_code
def yX6_makesReady : MethodName := ⟨RX6, "makesReady", "(II)V"⟩
abbrev cX6_erasesOthers : ByteArray := prog_8_method_33_code
def yX6_erasesOthers : MethodName := ⟨RX6, "erasesOthers", "(I)V"⟩
abbrev cX6_found : ByteArray := prog_8_method_34_code
def yX6_found : MethodName := ⟨RX6, "found", "()I"⟩
abbrev cX6_switchesOn : ByteArray := prog_8_method_35_code
def yX6_switchesOn : MethodName := ⟨RX6, "switchesOn", "()V"⟩
abbrev cX6_on : ByteArray := prog_8_method_36_code
def yX6_on : MethodName := ⟨RX6, "on", "()I"⟩
abbrev cX6_off : ByteArray := prog_8_method_37_code
def yX6_off : MethodName := ⟨RX6, "off", "()Z"⟩
abbrev cX6_power : ByteArray := prog_8_method_38_code
def yX6_power : MethodName := ⟨RX6, "power", "(II)Z"⟩
abbrev cX6_rot : ByteArray := prog_8_method_39_code
def yX6_rot : MethodName := ⟨RX6, "rot", "(III)I"⟩
abbrev cX6_lays : ByteArray := prog_8_method_40_code
def yX6_lays : MethodName := ⟨RX6, "lays", "(I)V"⟩
abbrev cX6_laysCheck : ByteArray := prog_8_method_41_code
def yX6_laysCheck : MethodName := ⟨RX6, "laysCheck", "()V"⟩
abbrev cX6_laysSetting : ByteArray := prog_8_method_42_code
def yX6_laysSetting : MethodName := ⟨RX6, "laysSetting", "(IIIJ)V"⟩
abbrev cX6_laysCounter : ByteArray := prog_8_method_43_code
def yX6_laysCounter : MethodName := ⟨RX6, "laysCounter", "(II)V"⟩
abbrev cX6_sizeNext : ByteArray := prog_8_method_44_code
def yX6_sizeNext : MethodName := ⟨RX6, "sizeNext", "(I)I"⟩
abbrev cX6_handsOver : ByteArray := prog_8_method_45_code
def yX6_handsOver : MethodName := ⟨RX6, "handsOver", "()V"⟩
abbrev cX6_freeNow : ByteArray := prog_8_method_46_code
def yX6_freeNow : MethodName := ⟨RX6, "freeNow", "()I"⟩
abbrev cX6_freeThen : ByteArray := prog_8_method_47_code
def yX6_freeThen : MethodName := ⟨RX6, "freeThen", "()I"⟩
abbrev cX6_makesRoom : ByteArray := prog_8_method_48_code
def yX6_makesRoom : MethodName := ⟨RX6, "makesRoom", "(I)Z"⟩
abbrev cX6_inChange : ByteArray := prog_8_method_49_code
def yX6_inChange : MethodName := ⟨RX6, "inChange", "(I)I"⟩
abbrev cX6_tells : ByteArray := prog_8_method_50_code
def yX6_tells : MethodName := ⟨RX6, "tells", "(III)I"⟩
abbrev cX6_sets : ByteArray := prog_8_method_51_code
def yX6_sets : MethodName := ⟨RX6, "sets", "(III)I"⟩
abbrev cX6_isSetting : ByteArray := prog_8_method_52_code
def yX6_isSetting : MethodName := ⟨RX6, "isSetting", "(II)Z"⟩
abbrev cX6_set : ByteArray := prog_8_method_53_code
def yX6_set : MethodName := ⟨RX6, "set", "(III)I"⟩
abbrev cX6_drop : ByteArray := prog_8_method_54_code
def yX6_drop : MethodName := ⟨RX6, "drop", "(I)I"⟩
abbrev cX6_goesUp : ByteArray := prog_8_method_55_code
def yX6_goesUp : MethodName := ⟨RX6, "goesUp", "(II)Z"⟩
abbrev cX6_bump : ByteArray := prog_8_method_56_code
def yX6_bump : MethodName := ⟨RX6, "bump", "(I)I"⟩
abbrev cX6_begin : ByteArray := prog_8_method_57_code
def yX6_begin : MethodName := ⟨RX6, "begin", "()Z"⟩
abbrev cX6_commit : ByteArray := prog_8_method_58_code
def yX6_commit : MethodName := ⟨RX6, "commit", "()I"⟩
abbrev cX6_abort : ByteArray := prog_8_method_59_code
def yX6_abort : MethodName := ⟨RX6, "abort", "()I"⟩
abbrev cX6_isTag : ByteArray := prog_8_method_60_code
def yX6_isTag : MethodName := ⟨RX6, "isTag", "(I)Z"⟩
abbrev cX6_valueNow : ByteArray := prog_8_method_61_code
def yX6_valueNow : MethodName := ⟨RX6, "valueNow", "(I)J"⟩
abbrev cX6_get : ByteArray := prog_8_method_62_code
def yX6_get : MethodName := ⟨RX6, "get", "(I)J"⟩
abbrev cX6_length : ByteArray := prog_8_method_63_code
def yX6_length : MethodName := ⟨RX6, "length", "(I)I"⟩
abbrev cX6_hand : ByteArray := prog_8_method_64_code
def yX6_hand : MethodName := ⟨RX6, "hand", "()I"⟩
abbrev cX6_at : ByteArray := prog_8_method_65_code
def yX6_at : MethodName := ⟨RX6, "at", "(II)I"⟩
abbrev cX6_sector : ByteArray := prog_8_method_66_code
def yX6_sector : MethodName := ⟨RX6, "sector", "(II)I"⟩
abbrev cX6_entry : ByteArray := prog_8_method_67_code
def yX6_entry : MethodName := ⟨RX6, "entry", "(III)I"⟩
abbrev cX6_space : ByteArray := prog_8_method_68_code
def yX6_space : MethodName := ⟨RX6, "space", "(II)I"⟩
abbrev cX6_until : ByteArray := prog_8_method_69_code
def yX6_until : MethodName := ⟨RX6, "until", "(I)I"⟩
abbrev cX6_after : ByteArray := prog_8_method_70_code
def yX6_after : MethodName := ⟨RX6, "after", "()I"⟩
abbrev cX6_wouldCost : ByteArray := prog_8_method_71_code
def yX6_wouldCost : MethodName := ⟨RX6, "wouldCost", "(I)I"⟩
abbrev cX6_costs : ByteArray := prog_8_method_72_code
def yX6_costs : MethodName := ⟨RX6, "costs", "(I)I"⟩
abbrev cX6_torn : ByteArray := prog_8_method_73_code
def yX6_torn : MethodName := ⟨RX6, "torn", "(IIIIII)J"⟩
abbrev cX6_isOf : ByteArray := prog_8_method_74_code
def yX6_isOf : MethodName := ⟨RX6, "isOf", "(III)Z"⟩
abbrev cX6_history : ByteArray := prog_8_method_75_code
def yX6_history : MethodName := ⟨RX6, "history", "(II)J"⟩
abbrev cX6_extreme : ByteArray := prog_8_method_76_code
def yX6_extreme : MethodName := ⟨RX6, "extreme", "(Z)I"⟩
abbrev cX6_wears : ByteArray := prog_8_method_77_code
def yX6_wears : MethodName := ⟨RX6, "wears", "(II)I"⟩
abbrev cX6_erasesOfAll : ByteArray := prog_8_method_78_code
def yX6_erasesOfAll : MethodName := ⟨RX6, "erasesOfAll", "()I"⟩
abbrev cX6_wear : ByteArray := prog_8_method_79_code
def yX6_wear : MethodName := ⟨RX6, "wear", "(I)I"⟩
abbrev cX6_tags : ByteArray := prog_8_method_80_code
def yX6_tags : MethodName := ⟨RX6, "tags", "()J"⟩
abbrev cX6_count : ByteArray := prog_8_method_81_code
def yX6_count : MethodName := ⟨RX6, "count", "(I)I"⟩
def RJx145de : String := "java/io/Serializable"
def TJx145de : u_T := fun k => match k with
  | _ => ("", "", "", false)
def tyJx145de : Nat → FieldType := fun k => match k with
  | _ => .int
def RJxb160c : String := "java/lang/Comparable"
def TJxb160c : u_T := fun k => match k with
  | _ => ("", "", "", false)
def tyJxb160c : Nat → FieldType := fun k => match k with
  | _ => .int
def RJxf58ca : String := "java/lang/Float"
def TJxf58ca : u_T := fun k => match k with
  | _ => ("", "", "", false)
def tyJxf58ca : Nat → FieldType := fun k => match k with
  | _ => .int
abbrev cJxf58ca_isNaN_12338 : ByteArray := prog_12_method_6_code
def yJxf58ca_isNaN_12338 : MethodName := ⟨RJxf58ca, "isNaN", "(F)Z"⟩
abbrev cJxf58ca_floatToIntBits_5c35a : ByteArray := prog_12_method_24_code
def yJxf58ca_floatToIntBits_5c35a : MethodName := ⟨RJxf58ca, "floatToIntBits", "(F)I"⟩
def RJ6 : String := "java/lang/Integer"
def TJ6 : u_T := fun k => match k with
  | _ => ("", "", "", false)
def tyJ6 : Nat → FieldType := fun k => match k with
  | _ => .int
abbrev cJ6_highestOneBit_0f7a4 : ByteArray := prog_13_method_45_code
def yJ6_highestOneBit_0f7a4 : MethodName := ⟨RJ6, "highestOneBit", "(I)I"⟩
abbrev cJ6_numberOfLeadingZeros_0f7a4 : ByteArray := prog_13_method_47_code
def yJ6_numberOfLeadingZeros_0f7a4 : MethodName := ⟨RJ6, "numberOfLeadingZeros", "(I)I"⟩
abbrev cJ6_bitCount_0f7a4 : ByteArray := prog_13_method_49_code
def yJ6_bitCount_0f7a4 : MethodName := ⟨RJ6, "bitCount", "(I)I"⟩
def RJ13 : String := "java/lang/Long"
def TJ13 : u_T := fun k => match k with
  | _ => ("", "", "", false)
def tyJ13 : Nat → FieldType := fun k => match k with
  | _ => .int
abbrev cJ13_bitCount_95d88 : ByteArray := prog_14_method_50_code
def yJ13_bitCount_95d88 : MethodName := ⟨RJ13, "bitCount", "(J)I"⟩
def RJ9 : String := "java/lang/Math"
def TJ9 : u_T := fun k => match k with
  | _ => ("", "", "", false)
def tyJ9 : Nat → FieldType := fun k => match k with
  | _ => .int
abbrev cJ9_max_7cf53 : ByteArray := prog_15_method_65_code
def yJ9_max_7cf53 : MethodName := ⟨RJ9, "max", "(II)I"⟩
def RJxd2413 : String := "java/lang/Number"
def TJxd2413 : u_T := fun k => match k with
  | _ => ("", "", "", false)
def tyJxd2413 : Nat → FieldType := fun k => match k with
  | _ => .int
def RJ0 : String := "java/lang/String"
def TJ0 : u_T := fun k => match k with
  | _ => ("", "", "", false)
def tyJ0 : Nat → FieldType := fun k => match k with
  | _ => .int
def RJ10 : String := "java/lang/System"
def TJ10 : u_T := fun k => match k with
  | _ => ("", "", "", false)
def tyJ10 : Nat → FieldType := fun k => match k with
  | _ => .int
def RJxfd54e : String := "java/lang/constant/Constable"
def TJxfd54e : u_T := fun k => match k with
  | _ => ("", "", "", false)
def tyJxfd54e : Nat → FieldType := fun k => match k with
  | _ => .int
def RJx3cf43 : String := "java/lang/constant/ConstantDesc"
def TJx3cf43 : u_T := fun k => match k with
  | _ => ("", "", "", false)
def tyJx3cf43 : Nat → FieldType := fun k => match k with
  | _ => .int
def RJ7 : String := "java/util/Arrays"
def TJ7 : u_T := fun k => match k with
  | _ => ("", "", "", false)
def tyJ7 : Nat → FieldType := fun k => match k with
  | _ => .int
abbrev cJ7_fill_53178 : ByteArray := prog_23_method_103_code
def yJ7_fill_53178 : MethodName := ⟨RJ7, "fill", "([II)V"⟩
def RL : String := "SettingStoreLaw"
abbrev cL_at : ByteArray := method_3_code
def yL_at : MethodName := ⟨RL, "at", "(LSettingStore;II[J)I"⟩
abbrev cL_law : ByteArray := code
def yL_law : MethodName := ⟨RL, "law", "([I)Z"⟩
abbrev vwCl : List vw_C := [(RX0, TX0, 5), (RX1, TX1, 10), (RX2, TX2, 3), (RX3, TX3, 11), (RX4, TX4, 7), (RX5, TX5, 2), (RX6, TX6, 15)]
end
section
theorem dX0_init_0 : decode cX0_init 0 = .ok (.aload_n 0, 1) := by decide +kernel
theorem dX0_init_1 : decode cX0_init 1 = .ok (.invokespecial 3, 3) := by decide +kernel
theorem dX0_init_4 : decode cX0_init 4 = .ok (.aload_n 0, 1) := by decide +kernel
theorem dX0_init_5 : decode cX0_init 5 = .ok (.bipush 8, 2) := by decide +kernel
theorem dX0_init_7 : decode cX0_init 7 = .ok (.newarray .int, 2) := by decide +kernel
theorem dX0_init_9 : decode cX0_init 9 = .ok (.putfield 9, 3) := by decide +kernel
theorem dX0_init_12 : decode cX0_init 12 = .ok (.aload_n 0, 1) := by decide +kernel
theorem dX0_init_13 : decode cX0_init 13 = .ok (.bipush 8, 2) := by decide +kernel
theorem dX0_init_15 : decode cX0_init 15 = .ok (.newarray .int, 2) := by decide +kernel
theorem dX0_init_17 : decode cX0_init 17 = .ok (.putfield 15, 3) := by decide +kernel
theorem dX0_init_20 : decode cX0_init 20 = .ok (.aload_n 0, 1) := by decide +kernel
theorem dX0_init_21 : decode cX0_init 21 = .ok (.bipush 8, 2) := by decide +kernel
theorem dX0_init_23 : decode cX0_init 23 = .ok (.newarray .int, 2) := by decide +kernel
theorem dX0_init_25 : decode cX0_init 25 = .ok (.putfield 18, 3) := by decide +kernel
theorem dX0_init_28 : decode cX0_init 28 = .ok (.return_, 1) := by decide +kernel
theorem dX0_start_0 : decode cX0_start 0 = .ok (.aload_n 0, 1) := by decide +kernel
theorem dX0_start_1 : decode cX0_start 1 = .ok (.iconst 1, 1) := by decide +kernel
theorem dX0_start_2 : decode cX0_start 2 = .ok (.putfield 21, 3) := by decide +kernel
theorem dX0_start_5 : decode cX0_start 5 = .ok (.aload_n 0, 1) := by decide +kernel
theorem dX0_start_6 : decode cX0_start 6 = .ok (.iconst 0, 1) := by decide +kernel
theorem dX0_start_7 : decode cX0_start 7 = .ok (.putfield 25, 3) := by decide +kernel
theorem dX0_start_10 : decode cX0_start 10 = .ok (.return_, 1) := by decide +kernel
theorem dX0_forget_0 : decode cX0_forget 0 = .ok (.aload_n 0, 1) := by decide +kernel
theorem dX0_forget_1 : decode cX0_forget 1 = .ok (.iconst 0, 1) := by decide +kernel
theorem dX0_forget_2 : decode cX0_forget 2 = .ok (.putfield 21, 3) := by decide +kernel
theorem dX0_forget_5 : decode cX0_forget 5 = .ok (.aload_n 0, 1) := by decide +kernel
theorem dX0_forget_6 : decode cX0_forget 6 = .ok (.iconst 0, 1) := by decide +kernel
theorem dX0_forget_7 : decode cX0_forget 7 = .ok (.putfield 25, 3) := by decide +kernel
theorem dX0_forget_10 : decode cX0_forget 10 = .ok (.return_, 1) := by decide +kernel
theorem dX0_find_0 : decode cX0_find 0 = .ok (.iconst 0, 1) := by decide +kernel
theorem dX0_find_1 : decode cX0_find 1 = .ok (.istore_n 2, 1) := by decide +kernel
theorem dX0_find_2 : decode cX0_find 2 = .ok (.iload_n 2, 1) := by decide +kernel
theorem dX0_find_3 : decode cX0_find 3 = .ok (.aload_n 0, 1) := by decide +kernel
theorem dX0_find_4 : decode cX0_find 4 = .ok (.getfield 25, 3) := by decide +kernel
theorem dX0_find_7 : decode cX0_find 7 = .ok (.if_icmp .ge 21, 3) := by decide +kernel
theorem dX0_find_10 : decode cX0_find 10 = .ok (.aload_n 0, 1) := by decide +kernel
theorem dX0_find_11 : decode cX0_find 11 = .ok (.getfield 9, 3) := by decide +kernel
theorem dX0_find_14 : decode cX0_find 14 = .ok (.iload_n 2, 1) := by decide +kernel
theorem dX0_find_15 : decode cX0_find 15 = .ok (.iaload, 1) := by decide +kernel
theorem dX0_find_16 : decode cX0_find 16 = .ok (.iload_n 1, 1) := by decide +kernel
theorem dX0_find_17 : decode cX0_find 17 = .ok (.if_icmp .ne 5, 3) := by decide +kernel
theorem dX0_find_20 : decode cX0_find 20 = .ok (.iload_n 2, 1) := by decide +kernel
theorem dX0_find_21 : decode cX0_find 21 = .ok (.ireturn, 1) := by decide +kernel
theorem dX0_find_22 : decode cX0_find 22 = .ok (.iinc 2 1, 3) := by decide +kernel
theorem dX0_find_25 : decode cX0_find 25 = .ok (.goto (-23), 3) := by decide +kernel
theorem dX0_find_28 : decode cX0_find 28 = .ok (.iconst (-1), 1) := by decide +kernel
theorem dX0_find_29 : decode cX0_find 29 = .ok (.ireturn, 1) := by decide +kernel
theorem dX0_tell_0 : decode cX0_tell 0 = .ok (.aload_n 0, 1) := by decide +kernel
theorem dX0_tell_1 : decode cX0_tell 1 = .ok (.iload_n 1, 1) := by decide +kernel
theorem dX0_tell_2 : decode cX0_tell 2 = .ok (.invokevirtual 29, 3) := by decide +kernel
theorem dX0_tell_5 : decode cX0_tell 5 = .ok (.istore 4, 2) := by decide +kernel
theorem dX0_tell_7 : decode cX0_tell 7 = .ok (.iload 4, 2) := by decide +kernel
theorem dX0_tell_9 : decode cX0_tell 9 = .ok (.iconst (-1), 1) := by decide +kernel
theorem dX0_tell_10 : decode cX0_tell 10 = .ok (.if_icmp .ne 30, 3) := by decide +kernel
theorem dX0_tell_13 : decode cX0_tell 13 = .ok (.aload_n 0, 1) := by decide +kernel
theorem dX0_tell_14 : decode cX0_tell 14 = .ok (.getfield 25, 3) := by decide +kernel
theorem dX0_tell_17 : decode cX0_tell 17 = .ok (.bipush 8, 2) := by decide +kernel
theorem dX0_tell_19 : decode cX0_tell 19 = .ok (.if_icmp .lt 5, 3) := by decide +kernel
theorem dX0_tell_22 : decode cX0_tell 22 = .ok (.iconst (-1), 1) := by decide +kernel
theorem dX0_tell_23 : decode cX0_tell 23 = .ok (.ireturn, 1) := by decide +kernel
theorem dX0_tell_24 : decode cX0_tell 24 = .ok (.aload_n 0, 1) := by decide +kernel
theorem dX0_tell_25 : decode cX0_tell 25 = .ok (.getfield 25, 3) := by decide +kernel
theorem dX0_tell_28 : decode cX0_tell 28 = .ok (.istore 4, 2) := by decide +kernel
theorem dX0_tell_30 : decode cX0_tell 30 = .ok (.aload_n 0, 1) := by decide +kernel
theorem dX0_tell_31 : decode cX0_tell 31 = .ok (.dup, 1) := by decide +kernel
theorem dX0_tell_32 : decode cX0_tell 32 = .ok (.getfield 25, 3) := by decide +kernel
theorem dX0_tell_35 : decode cX0_tell 35 = .ok (.iconst 1, 1) := by decide +kernel
theorem dX0_tell_36 : decode cX0_tell 36 = .ok (.iadd, 1) := by decide +kernel
theorem dX0_tell_37 : decode cX0_tell 37 = .ok (.putfield 25, 3) := by decide +kernel
theorem dX0_tell_40 : decode cX0_tell 40 = .ok (.aload_n 0, 1) := by decide +kernel
theorem dX0_tell_41 : decode cX0_tell 41 = .ok (.getfield 9, 3) := by decide +kernel
theorem dX0_tell_44 : decode cX0_tell 44 = .ok (.iload 4, 2) := by decide +kernel
theorem dX0_tell_46 : decode cX0_tell 46 = .ok (.iload_n 1, 1) := by decide +kernel
theorem dX0_tell_47 : decode cX0_tell 47 = .ok (.iastore, 1) := by decide +kernel
theorem dX0_tell_48 : decode cX0_tell 48 = .ok (.aload_n 0, 1) := by decide +kernel
theorem dX0_tell_49 : decode cX0_tell 49 = .ok (.getfield 15, 3) := by decide +kernel
theorem dX0_tell_52 : decode cX0_tell 52 = .ok (.iload 4, 2) := by decide +kernel
theorem dX0_tell_54 : decode cX0_tell 54 = .ok (.iload_n 2, 1) := by decide +kernel
theorem dX0_tell_55 : decode cX0_tell 55 = .ok (.iastore, 1) := by decide +kernel
theorem dX0_tell_56 : decode cX0_tell 56 = .ok (.aload_n 0, 1) := by decide +kernel
theorem dX0_tell_57 : decode cX0_tell 57 = .ok (.getfield 18, 3) := by decide +kernel
theorem dX0_tell_60 : decode cX0_tell 60 = .ok (.iload 4, 2) := by decide +kernel
theorem dX0_tell_62 : decode cX0_tell 62 = .ok (.iload_n 3, 1) := by decide +kernel
theorem dX0_tell_63 : decode cX0_tell 63 = .ok (.iastore, 1) := by decide +kernel
theorem dX0_tell_64 : decode cX0_tell 64 = .ok (.iconst 0, 1) := by decide +kernel
theorem dX0_tell_65 : decode cX0_tell 65 = .ok (.ireturn, 1) := by decide +kernel
theorem dX0_bytesToWrite_0 : decode cX0_bytesToWrite 0 = .ok (.iconst 4, 1) := by decide +kernel
theorem dX0_bytesToWrite_1 : decode cX0_bytesToWrite 1 = .ok (.istore_n 1, 1) := by decide +kernel
theorem dX0_bytesToWrite_2 : decode cX0_bytesToWrite 2 = .ok (.iconst 0, 1) := by decide +kernel
theorem dX0_bytesToWrite_3 : decode cX0_bytesToWrite 3 = .ok (.istore_n 2, 1) := by decide +kernel
theorem dX0_bytesToWrite_4 : decode cX0_bytesToWrite 4 = .ok (.iload_n 2, 1) := by decide +kernel
theorem dX0_bytesToWrite_5 : decode cX0_bytesToWrite 5 = .ok (.aload_n 0, 1) := by decide +kernel
theorem dX0_bytesToWrite_6 : decode cX0_bytesToWrite 6 = .ok (.getfield 25, 3) := by decide +kernel
theorem dX0_bytesToWrite_9 : decode cX0_bytesToWrite 9 = .ok (.if_icmp .ge 20, 3) := by decide +kernel
theorem dX0_bytesToWrite_12 : decode cX0_bytesToWrite 12 = .ok (.iload_n 1, 1) := by decide +kernel
theorem dX0_bytesToWrite_13 : decode cX0_bytesToWrite 13 = .ok (.iconst 3, 1) := by decide +kernel
theorem dX0_bytesToWrite_14 : decode cX0_bytesToWrite 14 = .ok (.aload_n 0, 1) := by decide +kernel
theorem dX0_bytesToWrite_15 : decode cX0_bytesToWrite 15 = .ok (.getfield 18, 3) := by decide +kernel
theorem dX0_bytesToWrite_18 : decode cX0_bytesToWrite 18 = .ok (.iload_n 2, 1) := by decide +kernel
theorem dX0_bytesToWrite_19 : decode cX0_bytesToWrite 19 = .ok (.iaload, 1) := by decide +kernel
theorem dX0_bytesToWrite_20 : decode cX0_bytesToWrite 20 = .ok (.iadd, 1) := by decide +kernel
theorem dX0_bytesToWrite_21 : decode cX0_bytesToWrite 21 = .ok (.iadd, 1) := by decide +kernel
theorem dX0_bytesToWrite_22 : decode cX0_bytesToWrite 22 = .ok (.istore_n 1, 1) := by decide +kernel
theorem dX0_bytesToWrite_23 : decode cX0_bytesToWrite 23 = .ok (.iinc 2 1, 3) := by decide +kernel
theorem dX0_bytesToWrite_26 : decode cX0_bytesToWrite 26 = .ok (.goto (-22), 3) := by decide +kernel
theorem dX0_bytesToWrite_29 : decode cX0_bytesToWrite 29 = .ok (.iload_n 1, 1) := by decide +kernel
theorem dX0_bytesToWrite_30 : decode cX0_bytesToWrite 30 = .ok (.ireturn, 1) := by decide +kernel
end
section
theorem dX1_init_0 : decode cX1_init 0 = .ok (.aload_n 0, 1) := by decide +kernel
theorem dX1_init_1 : decode cX1_init 1 = .ok (.invokespecial 3, 3) := by decide +kernel
theorem dX1_init_4 : decode cX1_init 4 = .ok (.aload_n 0, 1) := by decide +kernel
theorem dX1_init_5 : decode cX1_init 5 = .ok (.sipush 768, 3) := by decide +kernel
theorem dX1_init_8 : decode cX1_init 8 = .ok (.newarray .int, 2) := by decide +kernel
theorem dX1_init_10 : decode cX1_init 10 = .ok (.putfield 9, 3) := by decide +kernel
theorem dX1_init_13 : decode cX1_init 13 = .ok (.aload_n 0, 1) := by decide +kernel
theorem dX1_init_14 : decode cX1_init 14 = .ok (.bipush 6, 2) := by decide +kernel
theorem dX1_init_16 : decode cX1_init 16 = .ok (.newarray .int, 2) := by decide +kernel
theorem dX1_init_18 : decode cX1_init 18 = .ok (.putfield 15, 3) := by decide +kernel
theorem dX1_init_21 : decode cX1_init 21 = .ok (.return_, 1) := by decide +kernel
theorem dX1_renew_0 : decode cX1_renew 0 = .ok (.aload_n 0, 1) := by decide +kernel
theorem dX1_renew_1 : decode cX1_renew 1 = .ok (.iload_n 1, 1) := by decide +kernel
theorem dX1_renew_2 : decode cX1_renew 2 = .ok (.putfield 18, 3) := by decide +kernel
theorem dX1_renew_5 : decode cX1_renew 5 = .ok (.aload_n 0, 1) := by decide +kernel
theorem dX1_renew_6 : decode cX1_renew 6 = .ok (.iload_n 2, 1) := by decide +kernel
theorem dX1_renew_7 : decode cX1_renew 7 = .ok (.putfield 22, 3) := by decide +kernel
theorem dX1_renew_10 : decode cX1_renew 10 = .ok (.aload_n 0, 1) := by decide +kernel
theorem dX1_renew_11 : decode cX1_renew 11 = .ok (.getfield 9, 3) := by decide +kernel
theorem dX1_renew_14 : decode cX1_renew 14 = .ok (.sipush 255, 3) := by decide +kernel
theorem dX1_renew_17 : decode cX1_renew 17 = .ok (.invokestatic 25, 3) := by decide +kernel
theorem dX1_renew_20 : decode cX1_renew 20 = .ok (.aload_n 0, 1) := by decide +kernel
theorem dX1_renew_21 : decode cX1_renew 21 = .ok (.getfield 15, 3) := by decide +kernel
theorem dX1_renew_24 : decode cX1_renew 24 = .ok (.iconst 0, 1) := by decide +kernel
theorem dX1_renew_25 : decode cX1_renew 25 = .ok (.invokestatic 25, 3) := by decide +kernel
theorem dX1_renew_28 : decode cX1_renew 28 = .ok (.aload_n 0, 1) := by decide +kernel
theorem dX1_renew_29 : decode cX1_renew 29 = .ok (.iconst 0, 1) := by decide +kernel
theorem dX1_renew_30 : decode cX1_renew 30 = .ok (.putfield 31, 3) := by decide +kernel
theorem dX1_renew_33 : decode cX1_renew 33 = .ok (.aload_n 0, 1) := by decide +kernel
theorem dX1_renew_34 : decode cX1_renew 34 = .ok (.iconst 0, 1) := by decide +kernel
theorem dX1_renew_35 : decode cX1_renew 35 = .ok (.putfield 34, 3) := by decide +kernel
theorem dX1_renew_38 : decode cX1_renew 38 = .ok (.aload_n 0, 1) := by decide +kernel
theorem dX1_renew_39 : decode cX1_renew 39 = .ok (.iconst 0, 1) := by decide +kernel
theorem dX1_renew_40 : decode cX1_renew 40 = .ok (.putfield 37, 3) := by decide +kernel
theorem dX1_renew_43 : decode cX1_renew 43 = .ok (.aload_n 0, 1) := by decide +kernel
theorem dX1_renew_44 : decode cX1_renew 44 = .ok (.iconst 0, 1) := by decide +kernel
theorem dX1_renew_45 : decode cX1_renew 45 = .ok (.putfield 41, 3) := by decide +kernel
theorem dX1_renew_48 : decode cX1_renew 48 = .ok (.aload_n 0, 1) := by decide +kernel
theorem dX1_renew_49 : decode cX1_renew 49 = .ok (.iconst 0, 1) := by decide +kernel
theorem dX1_renew_50 : decode cX1_renew 50 = .ok (.putfield 44, 3) := by decide +kernel
theorem dX1_renew_53 : decode cX1_renew 53 = .ok (.aload_n 0, 1) := by decide +kernel
theorem dX1_renew_54 : decode cX1_renew 54 = .ok (.iconst 0, 1) := by decide +kernel
theorem dX1_renew_55 : decode cX1_renew 55 = .ok (.putfield 47, 3) := by decide +kernel
theorem dX1_renew_58 : decode cX1_renew 58 = .ok (.return_, 1) := by decide +kernel
theorem dX1_copyFrom_0 : decode cX1_copyFrom 0 = .ok (.aload_n 0, 1) := by decide +kernel
theorem dX1_copyFrom_1 : decode cX1_copyFrom 1 = .ok (.aload_n 1, 1) := by decide +kernel
theorem dX1_copyFrom_2 : decode cX1_copyFrom 2 = .ok (.getfield 18, 3) := by decide +kernel
theorem dX1_copyFrom_5 : decode cX1_copyFrom 5 = .ok (.putfield 18, 3) := by decide +kernel
theorem dX1_copyFrom_8 : decode cX1_copyFrom 8 = .ok (.aload_n 0, 1) := by decide +kernel
theorem dX1_copyFrom_9 : decode cX1_copyFrom 9 = .ok (.aload_n 1, 1) := by decide +kernel
theorem dX1_copyFrom_10 : decode cX1_copyFrom 10 = .ok (.getfield 22, 3) := by decide +kernel
theorem dX1_copyFrom_13 : decode cX1_copyFrom 13 = .ok (.putfield 22, 3) := by decide +kernel
theorem dX1_copyFrom_16 : decode cX1_copyFrom 16 = .ok (.aload_n 1, 1) := by decide +kernel
theorem dX1_copyFrom_17 : decode cX1_copyFrom 17 = .ok (.getfield 9, 3) := by decide +kernel
theorem dX1_copyFrom_20 : decode cX1_copyFrom 20 = .ok (.iconst 0, 1) := by decide +kernel
theorem dX1_copyFrom_21 : decode cX1_copyFrom 21 = .ok (.aload_n 0, 1) := by decide +kernel
theorem dX1_copyFrom_22 : decode cX1_copyFrom 22 = .ok (.getfield 9, 3) := by decide +kernel
theorem dX1_copyFrom_25 : decode cX1_copyFrom 25 = .ok (.iconst 0, 1) := by decide +kernel
theorem dX1_copyFrom_26 : decode cX1_copyFrom 26 = .ok (.aload_n 0, 1) := by decide +kernel
theorem dX1_copyFrom_27 : decode cX1_copyFrom 27 = .ok (.getfield 9, 3) := by decide +kernel
theorem dX1_copyFrom_30 : decode cX1_copyFrom 30 = .ok (.arraylength, 1) := by decide +kernel
theorem dX1_copyFrom_31 : decode cX1_copyFrom 31 = .ok (.invokestatic 50, 3) := by decide +kernel
theorem dX1_copyFrom_34 : decode cX1_copyFrom 34 = .ok (.aload_n 1, 1) := by decide +kernel
theorem dX1_copyFrom_35 : decode cX1_copyFrom 35 = .ok (.getfield 15, 3) := by decide +kernel
theorem dX1_copyFrom_38 : decode cX1_copyFrom 38 = .ok (.iconst 0, 1) := by decide +kernel
theorem dX1_copyFrom_39 : decode cX1_copyFrom 39 = .ok (.aload_n 0, 1) := by decide +kernel
theorem dX1_copyFrom_40 : decode cX1_copyFrom 40 = .ok (.getfield 15, 3) := by decide +kernel
theorem dX1_copyFrom_43 : decode cX1_copyFrom 43 = .ok (.iconst 0, 1) := by decide +kernel
theorem dX1_copyFrom_44 : decode cX1_copyFrom 44 = .ok (.aload_n 0, 1) := by decide +kernel
theorem dX1_copyFrom_45 : decode cX1_copyFrom 45 = .ok (.getfield 15, 3) := by decide +kernel
theorem dX1_copyFrom_48 : decode cX1_copyFrom 48 = .ok (.arraylength, 1) := by decide +kernel
theorem dX1_copyFrom_49 : decode cX1_copyFrom 49 = .ok (.invokestatic 50, 3) := by decide +kernel
theorem dX1_copyFrom_52 : decode cX1_copyFrom 52 = .ok (.aload_n 0, 1) := by decide +kernel
theorem dX1_copyFrom_53 : decode cX1_copyFrom 53 = .ok (.aload_n 1, 1) := by decide +kernel
theorem dX1_copyFrom_54 : decode cX1_copyFrom 54 = .ok (.getfield 31, 3) := by decide +kernel
theorem dX1_copyFrom_57 : decode cX1_copyFrom 57 = .ok (.putfield 31, 3) := by decide +kernel
theorem dX1_copyFrom_60 : decode cX1_copyFrom 60 = .ok (.aload_n 0, 1) := by decide +kernel
theorem dX1_copyFrom_61 : decode cX1_copyFrom 61 = .ok (.aload_n 1, 1) := by decide +kernel
theorem dX1_copyFrom_62 : decode cX1_copyFrom 62 = .ok (.getfield 34, 3) := by decide +kernel
theorem dX1_copyFrom_65 : decode cX1_copyFrom 65 = .ok (.putfield 34, 3) := by decide +kernel
theorem dX1_copyFrom_68 : decode cX1_copyFrom 68 = .ok (.aload_n 0, 1) := by decide +kernel
theorem dX1_copyFrom_69 : decode cX1_copyFrom 69 = .ok (.aload_n 1, 1) := by decide +kernel
theorem dX1_copyFrom_70 : decode cX1_copyFrom 70 = .ok (.getfield 37, 3) := by decide +kernel
theorem dX1_copyFrom_73 : decode cX1_copyFrom 73 = .ok (.putfield 37, 3) := by decide +kernel
theorem dX1_copyFrom_76 : decode cX1_copyFrom 76 = .ok (.aload_n 0, 1) := by decide +kernel
theorem dX1_copyFrom_77 : decode cX1_copyFrom 77 = .ok (.aload_n 1, 1) := by decide +kernel
theorem dX1_copyFrom_78 : decode cX1_copyFrom 78 = .ok (.getfield 41, 3) := by decide +kernel
theorem dX1_copyFrom_81 : decode cX1_copyFrom 81 = .ok (.putfield 41, 3) := by decide +kernel
theorem dX1_copyFrom_84 : decode cX1_copyFrom 84 = .ok (.aload_n 0, 1) := by decide +kernel
theorem dX1_copyFrom_85 : decode cX1_copyFrom 85 = .ok (.aload_n 1, 1) := by decide +kernel
theorem dX1_copyFrom_86 : decode cX1_copyFrom 86 = .ok (.getfield 44, 3) := by decide +kernel
theorem dX1_copyFrom_89 : decode cX1_copyFrom 89 = .ok (.putfield 44, 3) := by decide +kernel
theorem dX1_copyFrom_92 : decode cX1_copyFrom 92 = .ok (.aload_n 0, 1) := by decide +kernel
theorem dX1_copyFrom_93 : decode cX1_copyFrom 93 = .ok (.aload_n 1, 1) := by decide +kernel
theorem dX1_copyFrom_94 : decode cX1_copyFrom 94 = .ok (.getfield 47, 3) := by decide +kernel
theorem dX1_copyFrom_97 : decode cX1_copyFrom 97 = .ok (.putfield 47, 3) := by decide +kernel
theorem dX1_copyFrom_100 : decode cX1_copyFrom 100 = .ok (.return_, 1) := by decide +kernel
theorem dX1_arm_0 : decode cX1_arm 0 = .ok (.aload_n 0, 1) := by decide +kernel
theorem dX1_arm_1 : decode cX1_arm 1 = .ok (.iload_n 1, 1) := by decide +kernel
theorem dX1_arm_2 : decode cX1_arm 2 = .ok (.putfield 41, 3) := by decide +kernel
theorem dX1_arm_5 : decode cX1_arm 5 = .ok (.aload_n 0, 1) := by decide +kernel
theorem dX1_arm_6 : decode cX1_arm 6 = .ok (.iload_n 2, 1) := by decide +kernel
theorem dX1_arm_7 : decode cX1_arm 7 = .ok (.putfield 44, 3) := by decide +kernel
theorem dX1_arm_10 : decode cX1_arm 10 = .ok (.return_, 1) := by decide +kernel
theorem dX1_hasSector_0 : decode cX1_hasSector 0 = .ok (.iload_n 1, 1) := by decide +kernel
theorem dX1_hasSector_1 : decode cX1_hasSector 1 = .ok (.ifCond .lt 15, 3) := by decide +kernel
theorem dX1_hasSector_4 : decode cX1_hasSector 4 = .ok (.iload_n 1, 1) := by decide +kernel
theorem dX1_hasSector_5 : decode cX1_hasSector 5 = .ok (.aload_n 0, 1) := by decide +kernel
theorem dX1_hasSector_6 : decode cX1_hasSector 6 = .ok (.getfield 18, 3) := by decide +kernel
theorem dX1_hasSector_9 : decode cX1_hasSector 9 = .ok (.if_icmp .ge 7, 3) := by decide +kernel
theorem dX1_hasSector_12 : decode cX1_hasSector 12 = .ok (.iconst 1, 1) := by decide +kernel
theorem dX1_hasSector_13 : decode cX1_hasSector 13 = .ok (.goto 4, 3) := by decide +kernel
theorem dX1_hasSector_16 : decode cX1_hasSector 16 = .ok (.iconst 0, 1) := by decide +kernel
theorem dX1_hasSector_17 : decode cX1_hasSector 17 = .ok (.ireturn, 1) := by decide +kernel
theorem dX1_holds_0 : decode cX1_holds 0 = .ok (.iload_n 1, 1) := by decide +kernel
theorem dX1_holds_1 : decode cX1_holds 1 = .ok (.ifCond .lt 27, 3) := by decide +kernel
theorem dX1_holds_4 : decode cX1_holds 4 = .ok (.iload_n 1, 1) := by decide +kernel
theorem dX1_holds_5 : decode cX1_holds 5 = .ok (.aload_n 0, 1) := by decide +kernel
theorem dX1_holds_6 : decode cX1_holds 6 = .ok (.getfield 18, 3) := by decide +kernel
theorem dX1_holds_9 : decode cX1_holds 9 = .ok (.if_icmp .ge 19, 3) := by decide +kernel
theorem dX1_holds_12 : decode cX1_holds 12 = .ok (.iload_n 2, 1) := by decide +kernel
theorem dX1_holds_13 : decode cX1_holds 13 = .ok (.ifCond .lt 15, 3) := by decide +kernel
theorem dX1_holds_16 : decode cX1_holds 16 = .ok (.iload_n 2, 1) := by decide +kernel
theorem dX1_holds_17 : decode cX1_holds 17 = .ok (.aload_n 0, 1) := by decide +kernel
theorem dX1_holds_18 : decode cX1_holds 18 = .ok (.getfield 22, 3) := by decide +kernel
theorem dX1_holds_21 : decode cX1_holds 21 = .ok (.if_icmp .ge 7, 3) := by decide +kernel
theorem dX1_holds_24 : decode cX1_holds 24 = .ok (.iconst 1, 1) := by decide +kernel
theorem dX1_holds_25 : decode cX1_holds 25 = .ok (.goto 4, 3) := by decide +kernel
theorem dX1_holds_28 : decode cX1_holds 28 = .ok (.iconst 0, 1) := by decide +kernel
theorem dX1_holds_29 : decode cX1_holds 29 = .ok (.ireturn, 1) := by decide +kernel
theorem dX1_peek_0 : decode cX1_peek 0 = .ok (.aload_n 0, 1) := by decide +kernel
theorem dX1_peek_1 : decode cX1_peek 1 = .ok (.iload_n 1, 1) := by decide +kernel
theorem dX1_peek_2 : decode cX1_peek 2 = .ok (.iload_n 2, 1) := by decide +kernel
theorem dX1_peek_3 : decode cX1_peek 3 = .ok (.invokevirtual 56, 3) := by decide +kernel
theorem dX1_peek_6 : decode cX1_peek 6 = .ok (.ifCond .eq 19, 3) := by decide +kernel
theorem dX1_peek_9 : decode cX1_peek 9 = .ok (.aload_n 0, 1) := by decide +kernel
theorem dX1_peek_10 : decode cX1_peek 10 = .ok (.getfield 9, 3) := by decide +kernel
theorem dX1_peek_13 : decode cX1_peek 13 = .ok (.iload_n 1, 1) := by decide +kernel
theorem dX1_peek_14 : decode cX1_peek 14 = .ok (.aload_n 0, 1) := by decide +kernel
theorem dX1_peek_15 : decode cX1_peek 15 = .ok (.getfield 22, 3) := by decide +kernel
theorem dX1_peek_18 : decode cX1_peek 18 = .ok (.imul, 1) := by decide +kernel
theorem dX1_peek_19 : decode cX1_peek 19 = .ok (.iload_n 2, 1) := by decide +kernel
theorem dX1_peek_20 : decode cX1_peek 20 = .ok (.iadd, 1) := by decide +kernel
theorem dX1_peek_21 : decode cX1_peek 21 = .ok (.iaload, 1) := by decide +kernel
theorem dX1_peek_22 : decode cX1_peek 22 = .ok (.goto 6, 3) := by decide +kernel
theorem dX1_peek_25 : decode cX1_peek 25 = .ok (.sipush 255, 3) := by decide +kernel
theorem dX1_peek_28 : decode cX1_peek 28 = .ok (.ireturn, 1) := by decide +kernel
theorem dX1_decay_0 : decode cX1_decay 0 = .ok (.aload_n 0, 1) := by decide +kernel
theorem dX1_decay_1 : decode cX1_decay 1 = .ok (.iload_n 1, 1) := by decide +kernel
theorem dX1_decay_2 : decode cX1_decay 2 = .ok (.iload_n 2, 1) := by decide +kernel
theorem dX1_decay_3 : decode cX1_decay 3 = .ok (.invokevirtual 56, 3) := by decide +kernel
theorem dX1_decay_6 : decode cX1_decay 6 = .ok (.ifCond .ne 5, 3) := by decide +kernel
theorem dX1_decay_9 : decode cX1_decay 9 = .ok (.iconst (-1), 1) := by decide +kernel
theorem dX1_decay_10 : decode cX1_decay 10 = .ok (.ireturn, 1) := by decide +kernel
theorem dX1_decay_11 : decode cX1_decay 11 = .ok (.aload_n 0, 1) := by decide +kernel
theorem dX1_decay_12 : decode cX1_decay 12 = .ok (.getfield 9, 3) := by decide +kernel
theorem dX1_decay_15 : decode cX1_decay 15 = .ok (.iload_n 1, 1) := by decide +kernel
theorem dX1_decay_16 : decode cX1_decay 16 = .ok (.aload_n 0, 1) := by decide +kernel
theorem dX1_decay_17 : decode cX1_decay 17 = .ok (.getfield 22, 3) := by decide +kernel
theorem dX1_decay_20 : decode cX1_decay 20 = .ok (.imul, 1) := by decide +kernel
theorem dX1_decay_21 : decode cX1_decay 21 = .ok (.iload_n 2, 1) := by decide +kernel
theorem dX1_decay_22 : decode cX1_decay 22 = .ok (.iadd, 1) := by decide +kernel
theorem dX1_decay_23 : decode cX1_decay 23 = .ok (.dup2, 1) := by decide +kernel
theorem dX1_decay_24 : decode cX1_decay 24 = .ok (.iaload, 1) := by decide +kernel
theorem dX1_decay_25 : decode cX1_decay 25 = .ok (.iload_n 3, 1) := by decide +kernel
theorem dX1_decay_26 : decode cX1_decay 26 = .ok (.iand, 1) := by decide +kernel
theorem dX1_decay_27 : decode cX1_decay 27 = .ok (.iastore, 1) := by decide +kernel
theorem dX1_decay_28 : decode cX1_decay 28 = .ok (.aload_n 0, 1) := by decide +kernel
theorem dX1_decay_29 : decode cX1_decay 29 = .ok (.getfield 9, 3) := by decide +kernel
theorem dX1_decay_32 : decode cX1_decay 32 = .ok (.iload_n 1, 1) := by decide +kernel
theorem dX1_decay_33 : decode cX1_decay 33 = .ok (.aload_n 0, 1) := by decide +kernel
theorem dX1_decay_34 : decode cX1_decay 34 = .ok (.getfield 22, 3) := by decide +kernel
theorem dX1_decay_37 : decode cX1_decay 37 = .ok (.imul, 1) := by decide +kernel
theorem dX1_decay_38 : decode cX1_decay 38 = .ok (.iload_n 2, 1) := by decide +kernel
theorem dX1_decay_39 : decode cX1_decay 39 = .ok (.iadd, 1) := by decide +kernel
theorem dX1_decay_40 : decode cX1_decay 40 = .ok (.iaload, 1) := by decide +kernel
theorem dX1_decay_41 : decode cX1_decay 41 = .ok (.ireturn, 1) := by decide +kernel
theorem dX1_write_0 : decode cX1_write 0 = .ok (.aload_n 0, 1) := by decide +kernel
theorem dX1_write_1 : decode cX1_write 1 = .ok (.getfield 37, 3) := by decide +kernel
theorem dX1_write_4 : decode cX1_write 4 = .ok (.ifCond .eq 12, 3) := by decide +kernel
theorem dX1_write_7 : decode cX1_write 7 = .ok (.aload_n 0, 1) := by decide +kernel
theorem dX1_write_8 : decode cX1_write 8 = .ok (.iload_n 1, 1) := by decide +kernel
theorem dX1_write_9 : decode cX1_write 9 = .ok (.iload_n 2, 1) := by decide +kernel
theorem dX1_write_10 : decode cX1_write 10 = .ok (.invokevirtual 56, 3) := by decide +kernel
theorem dX1_write_13 : decode cX1_write 13 = .ok (.ifCond .ne 4, 3) := by decide +kernel
theorem dX1_write_16 : decode cX1_write 16 = .ok (.return_, 1) := by decide +kernel
theorem dX1_write_17 : decode cX1_write 17 = .ok (.aload_n 0, 1) := by decide +kernel
theorem dX1_write_18 : decode cX1_write 18 = .ok (.invokevirtual 60, 3) := by decide +kernel
theorem dX1_write_21 : decode cX1_write 21 = .ok (.ifCond .eq 9, 3) := by decide +kernel
theorem dX1_write_24 : decode cX1_write 24 = .ok (.sipush 255, 3) := by decide +kernel
theorem dX1_write_27 : decode cX1_write 27 = .ok (.goto 7, 3) := by decide +kernel
theorem dX1_write_30 : decode cX1_write 30 = .ok (.aload_n 0, 1) := by decide +kernel
theorem dX1_write_31 : decode cX1_write 31 = .ok (.getfield 44, 3) := by decide +kernel
theorem dX1_write_34 : decode cX1_write 34 = .ok (.istore 4, 2) := by decide +kernel
theorem dX1_write_36 : decode cX1_write 36 = .ok (.aload_n 0, 1) := by decide +kernel
theorem dX1_write_37 : decode cX1_write 37 = .ok (.getfield 9, 3) := by decide +kernel
theorem dX1_write_40 : decode cX1_write 40 = .ok (.iload_n 1, 1) := by decide +kernel
theorem dX1_write_41 : decode cX1_write 41 = .ok (.aload_n 0, 1) := by decide +kernel
theorem dX1_write_42 : decode cX1_write 42 = .ok (.getfield 22, 3) := by decide +kernel
theorem dX1_write_45 : decode cX1_write 45 = .ok (.imul, 1) := by decide +kernel
theorem dX1_write_46 : decode cX1_write 46 = .ok (.iload_n 2, 1) := by decide +kernel
theorem dX1_write_47 : decode cX1_write 47 = .ok (.iadd, 1) := by decide +kernel
theorem dX1_write_48 : decode cX1_write 48 = .ok (.dup2, 1) := by decide +kernel
theorem dX1_write_49 : decode cX1_write 49 = .ok (.iaload, 1) := by decide +kernel
theorem dX1_write_50 : decode cX1_write 50 = .ok (.iload_n 3, 1) := by decide +kernel
theorem dX1_write_51 : decode cX1_write 51 = .ok (.sipush 255, 3) := by decide +kernel
theorem dX1_write_54 : decode cX1_write 54 = .ok (.iload 4, 2) := by decide +kernel
theorem dX1_write_56 : decode cX1_write 56 = .ok (.ixor, 1) := by decide +kernel
theorem dX1_write_57 : decode cX1_write 57 = .ok (.ior, 1) := by decide +kernel
theorem dX1_write_58 : decode cX1_write 58 = .ok (.iand, 1) := by decide +kernel
theorem dX1_write_59 : decode cX1_write 59 = .ok (.iastore, 1) := by decide +kernel
theorem dX1_write_60 : decode cX1_write 60 = .ok (.aload_n 0, 1) := by decide +kernel
theorem dX1_write_61 : decode cX1_write 61 = .ok (.dup, 1) := by decide +kernel
theorem dX1_write_62 : decode cX1_write 62 = .ok (.getfield 31, 3) := by decide +kernel
theorem dX1_write_65 : decode cX1_write 65 = .ok (.iconst 1, 1) := by decide +kernel
theorem dX1_write_66 : decode cX1_write 66 = .ok (.iadd, 1) := by decide +kernel
theorem dX1_write_67 : decode cX1_write 67 = .ok (.putfield 31, 3) := by decide +kernel
theorem dX1_write_70 : decode cX1_write 70 = .ok (.return_, 1) := by decide +kernel
theorem dX1_erase_0 : decode cX1_erase 0 = .ok (.aload_n 0, 1) := by decide +kernel
theorem dX1_erase_1 : decode cX1_erase 1 = .ok (.getfield 37, 3) := by decide +kernel
theorem dX1_erase_4 : decode cX1_erase 4 = .ok (.ifCond .eq 11, 3) := by decide +kernel
theorem dX1_erase_7 : decode cX1_erase 7 = .ok (.aload_n 0, 1) := by decide +kernel
theorem dX1_erase_8 : decode cX1_erase 8 = .ok (.iload_n 1, 1) := by decide +kernel
theorem dX1_erase_9 : decode cX1_erase 9 = .ok (.invokevirtual 64, 3) := by decide +kernel
theorem dX1_erase_12 : decode cX1_erase 12 = .ok (.ifCond .ne 4, 3) := by decide +kernel
theorem dX1_erase_15 : decode cX1_erase 15 = .ok (.return_, 1) := by decide +kernel
theorem dX1_erase_16 : decode cX1_erase 16 = .ok (.aload_n 0, 1) := by decide +kernel
theorem dX1_erase_17 : decode cX1_erase 17 = .ok (.invokevirtual 60, 3) := by decide +kernel
theorem dX1_erase_20 : decode cX1_erase 20 = .ok (.ifCond .eq 10, 3) := by decide +kernel
theorem dX1_erase_23 : decode cX1_erase 23 = .ok (.aload_n 0, 1) := by decide +kernel
theorem dX1_erase_24 : decode cX1_erase 24 = .ok (.getfield 22, 3) := by decide +kernel
theorem dX1_erase_27 : decode cX1_erase 27 = .ok (.goto 9, 3) := by decide +kernel
theorem dX1_erase_30 : decode cX1_erase 30 = .ok (.aload_n 0, 1) := by decide +kernel
theorem dX1_erase_31 : decode cX1_erase 31 = .ok (.getfield 22, 3) := by decide +kernel
theorem dX1_erase_34 : decode cX1_erase 34 = .ok (.iconst 2, 1) := by decide +kernel
theorem dX1_erase_35 : decode cX1_erase 35 = .ok (.idiv, 1) := by decide +kernel
theorem dX1_erase_36 : decode cX1_erase 36 = .ok (.istore_n 2, 1) := by decide +kernel
theorem dX1_erase_37 : decode cX1_erase 37 = .ok (.iconst 0, 1) := by decide +kernel
theorem dX1_erase_38 : decode cX1_erase 38 = .ok (.istore_n 3, 1) := by decide +kernel
theorem dX1_erase_39 : decode cX1_erase 39 = .ok (.iload_n 3, 1) := by decide +kernel
theorem dX1_erase_40 : decode cX1_erase 40 = .ok (.iload_n 2, 1) := by decide +kernel
theorem dX1_erase_41 : decode cX1_erase 41 = .ok (.if_icmp .ge 25, 3) := by decide +kernel
theorem dX1_erase_44 : decode cX1_erase 44 = .ok (.aload_n 0, 1) := by decide +kernel
theorem dX1_erase_45 : decode cX1_erase 45 = .ok (.getfield 9, 3) := by decide +kernel
theorem dX1_erase_48 : decode cX1_erase 48 = .ok (.iload_n 1, 1) := by decide +kernel
theorem dX1_erase_49 : decode cX1_erase 49 = .ok (.aload_n 0, 1) := by decide +kernel
theorem dX1_erase_50 : decode cX1_erase 50 = .ok (.getfield 22, 3) := by decide +kernel
theorem dX1_erase_53 : decode cX1_erase 53 = .ok (.imul, 1) := by decide +kernel
theorem dX1_erase_54 : decode cX1_erase 54 = .ok (.iload_n 3, 1) := by decide +kernel
theorem dX1_erase_55 : decode cX1_erase 55 = .ok (.iadd, 1) := by decide +kernel
theorem dX1_erase_56 : decode cX1_erase 56 = .ok (.sipush 255, 3) := by decide +kernel
theorem dX1_erase_59 : decode cX1_erase 59 = .ok (.iastore, 1) := by decide +kernel
theorem dX1_erase_60 : decode cX1_erase 60 = .ok (.iinc 3 1, 3) := by decide +kernel
theorem dX1_erase_63 : decode cX1_erase 63 = .ok (.goto (-24), 3) := by decide +kernel
theorem dX1_erase_66 : decode cX1_erase 66 = .ok (.aload_n 0, 1) := by decide +kernel
theorem dX1_erase_67 : decode cX1_erase 67 = .ok (.getfield 15, 3) := by decide +kernel
theorem dX1_erase_70 : decode cX1_erase 70 = .ok (.iload_n 1, 1) := by decide +kernel
theorem dX1_erase_71 : decode cX1_erase 71 = .ok (.dup2, 1) := by decide +kernel
theorem dX1_erase_72 : decode cX1_erase 72 = .ok (.iaload, 1) := by decide +kernel
theorem dX1_erase_73 : decode cX1_erase 73 = .ok (.iconst 1, 1) := by decide +kernel
theorem dX1_erase_74 : decode cX1_erase 74 = .ok (.iadd, 1) := by decide +kernel
theorem dX1_erase_75 : decode cX1_erase 75 = .ok (.iastore, 1) := by decide +kernel
theorem dX1_erase_76 : decode cX1_erase 76 = .ok (.return_, 1) := by decide +kernel
theorem dX1_endures_0 : decode cX1_endures 0 = .ok (.aload_n 0, 1) := by decide +kernel
theorem dX1_endures_1 : decode cX1_endures 1 = .ok (.dup, 1) := by decide +kernel
theorem dX1_endures_2 : decode cX1_endures 2 = .ok (.getfield 34, 3) := by decide +kernel
theorem dX1_endures_5 : decode cX1_endures 5 = .ok (.iconst 1, 1) := by decide +kernel
theorem dX1_endures_6 : decode cX1_endures 6 = .ok (.iadd, 1) := by decide +kernel
theorem dX1_endures_7 : decode cX1_endures 7 = .ok (.putfield 34, 3) := by decide +kernel
theorem dX1_endures_10 : decode cX1_endures 10 = .ok (.aload_n 0, 1) := by decide +kernel
theorem dX1_endures_11 : decode cX1_endures 11 = .ok (.getfield 41, 3) := by decide +kernel
theorem dX1_endures_14 : decode cX1_endures 14 = .ok (.ifCond .ne 5, 3) := by decide +kernel
theorem dX1_endures_17 : decode cX1_endures 17 = .ok (.iconst 1, 1) := by decide +kernel
theorem dX1_endures_18 : decode cX1_endures 18 = .ok (.ireturn, 1) := by decide +kernel
theorem dX1_endures_19 : decode cX1_endures 19 = .ok (.aload_n 0, 1) := by decide +kernel
theorem dX1_endures_20 : decode cX1_endures 20 = .ok (.dup, 1) := by decide +kernel
theorem dX1_endures_21 : decode cX1_endures 21 = .ok (.getfield 41, 3) := by decide +kernel
theorem dX1_endures_24 : decode cX1_endures 24 = .ok (.iconst 1, 1) := by decide +kernel
theorem dX1_endures_25 : decode cX1_endures 25 = .ok (.isub, 1) := by decide +kernel
theorem dX1_endures_26 : decode cX1_endures 26 = .ok (.putfield 41, 3) := by decide +kernel
theorem dX1_endures_29 : decode cX1_endures 29 = .ok (.aload_n 0, 1) := by decide +kernel
theorem dX1_endures_30 : decode cX1_endures 30 = .ok (.getfield 41, 3) := by decide +kernel
theorem dX1_endures_33 : decode cX1_endures 33 = .ok (.ifCond .le 5, 3) := by decide +kernel
theorem dX1_endures_36 : decode cX1_endures 36 = .ok (.iconst 1, 1) := by decide +kernel
theorem dX1_endures_37 : decode cX1_endures 37 = .ok (.ireturn, 1) := by decide +kernel
theorem dX1_endures_38 : decode cX1_endures 38 = .ok (.aload_n 0, 1) := by decide +kernel
theorem dX1_endures_39 : decode cX1_endures 39 = .ok (.iconst 0, 1) := by decide +kernel
theorem dX1_endures_40 : decode cX1_endures 40 = .ok (.putfield 37, 3) := by decide +kernel
theorem dX1_endures_43 : decode cX1_endures 43 = .ok (.aload_n 0, 1) := by decide +kernel
theorem dX1_endures_44 : decode cX1_endures 44 = .ok (.dup, 1) := by decide +kernel
theorem dX1_endures_45 : decode cX1_endures 45 = .ok (.getfield 47, 3) := by decide +kernel
theorem dX1_endures_48 : decode cX1_endures 48 = .ok (.iconst 1, 1) := by decide +kernel
theorem dX1_endures_49 : decode cX1_endures 49 = .ok (.iadd, 1) := by decide +kernel
theorem dX1_endures_50 : decode cX1_endures 50 = .ok (.putfield 47, 3) := by decide +kernel
theorem dX1_endures_53 : decode cX1_endures 53 = .ok (.iconst 0, 1) := by decide +kernel
theorem dX1_endures_54 : decode cX1_endures 54 = .ok (.ireturn, 1) := by decide +kernel
theorem dX1_makeReady_0 : decode cX1_makeReady 0 = .ok (.iload_n 2, 1) := by decide +kernel
theorem dX1_makeReady_1 : decode cX1_makeReady 1 = .ok (.sipush 256, 3) := by decide +kernel
theorem dX1_makeReady_4 : decode cX1_makeReady 4 = .ok (.idiv, 1) := by decide +kernel
theorem dX1_makeReady_5 : decode cX1_makeReady 5 = .ok (.istore_n 3, 1) := by decide +kernel
theorem dX1_makeReady_6 : decode cX1_makeReady 6 = .ok (.iload_n 2, 1) := by decide +kernel
theorem dX1_makeReady_7 : decode cX1_makeReady 7 = .ok (.sipush 256, 3) := by decide +kernel
theorem dX1_makeReady_10 : decode cX1_makeReady 10 = .ok (.irem, 1) := by decide +kernel
theorem dX1_makeReady_11 : decode cX1_makeReady 11 = .ok (.istore 4, 2) := by decide +kernel
theorem dX1_makeReady_13 : decode cX1_makeReady 13 = .ok (.aload_n 0, 1) := by decide +kernel
theorem dX1_makeReady_14 : decode cX1_makeReady 14 = .ok (.iload_n 1, 1) := by decide +kernel
theorem dX1_makeReady_15 : decode cX1_makeReady 15 = .ok (.iconst 1, 1) := by decide +kernel
theorem dX1_makeReady_16 : decode cX1_makeReady 16 = .ok (.iload_n 3, 1) := by decide +kernel
theorem dX1_makeReady_17 : decode cX1_makeReady 17 = .ok (.invokevirtual 68, 3) := by decide +kernel
theorem dX1_makeReady_20 : decode cX1_makeReady 20 = .ok (.aload_n 0, 1) := by decide +kernel
theorem dX1_makeReady_21 : decode cX1_makeReady 21 = .ok (.iload_n 1, 1) := by decide +kernel
theorem dX1_makeReady_22 : decode cX1_makeReady 22 = .ok (.iconst 2, 1) := by decide +kernel
theorem dX1_makeReady_23 : decode cX1_makeReady 23 = .ok (.iload 4, 2) := by decide +kernel
theorem dX1_makeReady_25 : decode cX1_makeReady 25 = .ok (.invokevirtual 68, 3) := by decide +kernel
theorem dX1_makeReady_28 : decode cX1_makeReady 28 = .ok (.aload_n 0, 1) := by decide +kernel
theorem dX1_makeReady_29 : decode cX1_makeReady 29 = .ok (.iload_n 1, 1) := by decide +kernel
theorem dX1_makeReady_30 : decode cX1_makeReady 30 = .ok (.iconst 3, 1) := by decide +kernel
theorem dX1_makeReady_31 : decode cX1_makeReady 31 = .ok (.iload_n 3, 1) := by decide +kernel
theorem dX1_makeReady_32 : decode cX1_makeReady 32 = .ok (.iload 4, 2) := by decide +kernel
theorem dX1_makeReady_34 : decode cX1_makeReady 34 = .ok (.iadd, 1) := by decide +kernel
theorem dX1_makeReady_35 : decode cX1_makeReady 35 = .ok (.invokestatic 72, 3) := by decide +kernel
theorem dX1_makeReady_38 : decode cX1_makeReady 38 = .ok (.invokevirtual 68, 3) := by decide +kernel
theorem dX1_makeReady_41 : decode cX1_makeReady 41 = .ok (.aload_n 0, 1) := by decide +kernel
theorem dX1_makeReady_42 : decode cX1_makeReady 42 = .ok (.iload_n 1, 1) := by decide +kernel
theorem dX1_makeReady_43 : decode cX1_makeReady 43 = .ok (.iconst 0, 1) := by decide +kernel
theorem dX1_makeReady_44 : decode cX1_makeReady 44 = .ok (.bipush 127, 2) := by decide +kernel
theorem dX1_makeReady_46 : decode cX1_makeReady 46 = .ok (.invokevirtual 68, 3) := by decide +kernel
theorem dX1_makeReady_49 : decode cX1_makeReady 49 = .ok (.return_, 1) := by decide +kernel
theorem dX1_writeDraft_0 : decode cX1_writeDraft 0 = .ok (.iconst 0, 1) := by decide +kernel
theorem dX1_writeDraft_1 : decode cX1_writeDraft 1 = .ok (.istore 4, 2) := by decide +kernel
theorem dX1_writeDraft_3 : decode cX1_writeDraft 3 = .ok (.iload 4, 2) := by decide +kernel
theorem dX1_writeDraft_5 : decode cX1_writeDraft 5 = .ok (.aload_n 3, 1) := by decide +kernel
theorem dX1_writeDraft_6 : decode cX1_writeDraft 6 = .ok (.getfield 76, 3) := by decide +kernel
theorem dX1_writeDraft_9 : decode cX1_writeDraft 9 = .ok (.if_icmp .ge 35, 3) := by decide +kernel
theorem dX1_writeDraft_12 : decode cX1_writeDraft 12 = .ok (.iload 4, 2) := by decide +kernel
theorem dX1_writeDraft_14 : decode cX1_writeDraft 14 = .ok (.aload_n 3, 1) := by decide +kernel
theorem dX1_writeDraft_15 : decode cX1_writeDraft 15 = .ok (.getfield 81, 3) := by decide +kernel
theorem dX1_writeDraft_18 : decode cX1_writeDraft 18 = .ok (.arraylength, 1) := by decide +kernel
theorem dX1_writeDraft_19 : decode cX1_writeDraft 19 = .ok (.if_icmp .ge 25, 3) := by decide +kernel
theorem dX1_writeDraft_22 : decode cX1_writeDraft 22 = .ok (.aload_n 0, 1) := by decide +kernel
theorem dX1_writeDraft_23 : decode cX1_writeDraft 23 = .ok (.iload_n 1, 1) := by decide +kernel
theorem dX1_writeDraft_24 : decode cX1_writeDraft 24 = .ok (.iload_n 2, 1) := by decide +kernel
theorem dX1_writeDraft_25 : decode cX1_writeDraft 25 = .ok (.iload 4, 2) := by decide +kernel
theorem dX1_writeDraft_27 : decode cX1_writeDraft 27 = .ok (.iadd, 1) := by decide +kernel
theorem dX1_writeDraft_28 : decode cX1_writeDraft 28 = .ok (.aload_n 3, 1) := by decide +kernel
theorem dX1_writeDraft_29 : decode cX1_writeDraft 29 = .ok (.getfield 81, 3) := by decide +kernel
theorem dX1_writeDraft_32 : decode cX1_writeDraft 32 = .ok (.iload 4, 2) := by decide +kernel
theorem dX1_writeDraft_34 : decode cX1_writeDraft 34 = .ok (.iaload, 1) := by decide +kernel
theorem dX1_writeDraft_35 : decode cX1_writeDraft 35 = .ok (.invokevirtual 68, 3) := by decide +kernel
theorem dX1_writeDraft_38 : decode cX1_writeDraft 38 = .ok (.iinc 4 1, 3) := by decide +kernel
theorem dX1_writeDraft_41 : decode cX1_writeDraft 41 = .ok (.goto (-38), 3) := by decide +kernel
theorem dX1_writeDraft_44 : decode cX1_writeDraft 44 = .ok (.return_, 1) := by decide +kernel
theorem dX1_eraseAllBut_0 : decode cX1_eraseAllBut 0 = .ok (.iconst 0, 1) := by decide +kernel
theorem dX1_eraseAllBut_1 : decode cX1_eraseAllBut 1 = .ok (.istore_n 2, 1) := by decide +kernel
theorem dX1_eraseAllBut_2 : decode cX1_eraseAllBut 2 = .ok (.iload_n 2, 1) := by decide +kernel
theorem dX1_eraseAllBut_3 : decode cX1_eraseAllBut 3 = .ok (.aload_n 0, 1) := by decide +kernel
theorem dX1_eraseAllBut_4 : decode cX1_eraseAllBut 4 = .ok (.getfield 18, 3) := by decide +kernel
theorem dX1_eraseAllBut_7 : decode cX1_eraseAllBut 7 = .ok (.if_icmp .ge 27, 3) := by decide +kernel
theorem dX1_eraseAllBut_10 : decode cX1_eraseAllBut 10 = .ok (.iload_n 2, 1) := by decide +kernel
theorem dX1_eraseAllBut_11 : decode cX1_eraseAllBut 11 = .ok (.iload_n 1, 1) := by decide +kernel
theorem dX1_eraseAllBut_12 : decode cX1_eraseAllBut 12 = .ok (.if_icmp .eq 16, 3) := by decide +kernel
theorem dX1_eraseAllBut_15 : decode cX1_eraseAllBut 15 = .ok (.aload_n 0, 1) := by decide +kernel
theorem dX1_eraseAllBut_16 : decode cX1_eraseAllBut 16 = .ok (.iload_n 2, 1) := by decide +kernel
theorem dX1_eraseAllBut_17 : decode cX1_eraseAllBut 17 = .ok (.invokevirtual 84, 3) := by decide +kernel
theorem dX1_eraseAllBut_20 : decode cX1_eraseAllBut 20 = .ok (.ifCond .ne 8, 3) := by decide +kernel
theorem dX1_eraseAllBut_23 : decode cX1_eraseAllBut 23 = .ok (.aload_n 0, 1) := by decide +kernel
theorem dX1_eraseAllBut_24 : decode cX1_eraseAllBut 24 = .ok (.iload_n 2, 1) := by decide +kernel
theorem dX1_eraseAllBut_25 : decode cX1_eraseAllBut 25 = .ok (.invokevirtual 87, 3) := by decide +kernel
theorem dX1_eraseAllBut_28 : decode cX1_eraseAllBut 28 = .ok (.iinc 2 1, 3) := by decide +kernel
theorem dX1_eraseAllBut_31 : decode cX1_eraseAllBut 31 = .ok (.goto (-29), 3) := by decide +kernel
theorem dX1_eraseAllBut_34 : decode cX1_eraseAllBut 34 = .ok (.return_, 1) := by decide +kernel
theorem dX1_isBlank_0 : decode cX1_isBlank 0 = .ok (.aload_n 0, 1) := by decide +kernel
theorem dX1_isBlank_1 : decode cX1_isBlank 1 = .ok (.iload_n 1, 1) := by decide +kernel
theorem dX1_isBlank_2 : decode cX1_isBlank 2 = .ok (.invokevirtual 91, 3) := by decide +kernel
theorem dX1_isBlank_5 : decode cX1_isBlank 5 = .ok (.ifCond .ne 7, 3) := by decide +kernel
theorem dX1_isBlank_8 : decode cX1_isBlank 8 = .ok (.iconst 1, 1) := by decide +kernel
theorem dX1_isBlank_9 : decode cX1_isBlank 9 = .ok (.goto 4, 3) := by decide +kernel
theorem dX1_isBlank_12 : decode cX1_isBlank 12 = .ok (.iconst 0, 1) := by decide +kernel
theorem dX1_isBlank_13 : decode cX1_isBlank 13 = .ok (.ireturn, 1) := by decide +kernel
theorem dX1_usedEnd_0 : decode cX1_usedEnd 0 = .ok (.aload_n 0, 1) := by decide +kernel
theorem dX1_usedEnd_1 : decode cX1_usedEnd 1 = .ok (.iload_n 1, 1) := by decide +kernel
theorem dX1_usedEnd_2 : decode cX1_usedEnd 2 = .ok (.invokevirtual 64, 3) := by decide +kernel
theorem dX1_usedEnd_5 : decode cX1_usedEnd 5 = .ok (.ifCond .ne 5, 3) := by decide +kernel
theorem dX1_usedEnd_8 : decode cX1_usedEnd 8 = .ok (.iconst 0, 1) := by decide +kernel
theorem dX1_usedEnd_9 : decode cX1_usedEnd 9 = .ok (.ireturn, 1) := by decide +kernel
theorem dX1_usedEnd_10 : decode cX1_usedEnd 10 = .ok (.aload_n 0, 1) := by decide +kernel
theorem dX1_usedEnd_11 : decode cX1_usedEnd 11 = .ok (.getfield 22, 3) := by decide +kernel
theorem dX1_usedEnd_14 : decode cX1_usedEnd 14 = .ok (.istore_n 2, 1) := by decide +kernel
theorem dX1_usedEnd_15 : decode cX1_usedEnd 15 = .ok (.iload_n 2, 1) := by decide +kernel
theorem dX1_usedEnd_16 : decode cX1_usedEnd 16 = .ok (.ifCond .le 30, 3) := by decide +kernel
theorem dX1_usedEnd_19 : decode cX1_usedEnd 19 = .ok (.aload_n 0, 1) := by decide +kernel
theorem dX1_usedEnd_20 : decode cX1_usedEnd 20 = .ok (.getfield 9, 3) := by decide +kernel
theorem dX1_usedEnd_23 : decode cX1_usedEnd 23 = .ok (.iload_n 1, 1) := by decide +kernel
theorem dX1_usedEnd_24 : decode cX1_usedEnd 24 = .ok (.aload_n 0, 1) := by decide +kernel
theorem dX1_usedEnd_25 : decode cX1_usedEnd 25 = .ok (.getfield 22, 3) := by decide +kernel
theorem dX1_usedEnd_28 : decode cX1_usedEnd 28 = .ok (.imul, 1) := by decide +kernel
theorem dX1_usedEnd_29 : decode cX1_usedEnd 29 = .ok (.iload_n 2, 1) := by decide +kernel
theorem dX1_usedEnd_30 : decode cX1_usedEnd 30 = .ok (.iadd, 1) := by decide +kernel
theorem dX1_usedEnd_31 : decode cX1_usedEnd 31 = .ok (.iconst 1, 1) := by decide +kernel
theorem dX1_usedEnd_32 : decode cX1_usedEnd 32 = .ok (.isub, 1) := by decide +kernel
theorem dX1_usedEnd_33 : decode cX1_usedEnd 33 = .ok (.iaload, 1) := by decide +kernel
theorem dX1_usedEnd_34 : decode cX1_usedEnd 34 = .ok (.sipush 255, 3) := by decide +kernel
theorem dX1_usedEnd_37 : decode cX1_usedEnd 37 = .ok (.if_icmp .ne 9, 3) := by decide +kernel
theorem dX1_usedEnd_40 : decode cX1_usedEnd 40 = .ok (.iinc 2 (-1), 3) := by decide +kernel
theorem dX1_usedEnd_43 : decode cX1_usedEnd 43 = .ok (.goto (-28), 3) := by decide +kernel
theorem dX1_usedEnd_46 : decode cX1_usedEnd 46 = .ok (.iload_n 2, 1) := by decide +kernel
theorem dX1_usedEnd_47 : decode cX1_usedEnd 47 = .ok (.ireturn, 1) := by decide +kernel
theorem dX1_copySector_0 : decode cX1_copySector 0 = .ok (.aload_n 0, 1) := by decide +kernel
theorem dX1_copySector_1 : decode cX1_copySector 1 = .ok (.iload_n 1, 1) := by decide +kernel
theorem dX1_copySector_2 : decode cX1_copySector 2 = .ok (.invokevirtual 64, 3) := by decide +kernel
theorem dX1_copySector_5 : decode cX1_copySector 5 = .ok (.ifCond .ne 4, 3) := by decide +kernel
theorem dX1_copySector_8 : decode cX1_copySector 8 = .ok (.return_, 1) := by decide +kernel
theorem dX1_copySector_9 : decode cX1_copySector 9 = .ok (.iconst 0, 1) := by decide +kernel
theorem dX1_copySector_10 : decode cX1_copySector 10 = .ok (.istore_n 3, 1) := by decide +kernel
theorem dX1_copySector_11 : decode cX1_copySector 11 = .ok (.iload_n 3, 1) := by decide +kernel
theorem dX1_copySector_12 : decode cX1_copySector 12 = .ok (.aload_n 0, 1) := by decide +kernel
theorem dX1_copySector_13 : decode cX1_copySector 13 = .ok (.getfield 22, 3) := by decide +kernel
theorem dX1_copySector_16 : decode cX1_copySector 16 = .ok (.if_icmp .ge 31, 3) := by decide +kernel
theorem dX1_copySector_19 : decode cX1_copySector 19 = .ok (.iload_n 3, 1) := by decide +kernel
theorem dX1_copySector_20 : decode cX1_copySector 20 = .ok (.aload_n 2, 1) := by decide +kernel
theorem dX1_copySector_21 : decode cX1_copySector 21 = .ok (.arraylength, 1) := by decide +kernel
theorem dX1_copySector_22 : decode cX1_copySector 22 = .ok (.if_icmp .ge 25, 3) := by decide +kernel
theorem dX1_copySector_25 : decode cX1_copySector 25 = .ok (.aload_n 2, 1) := by decide +kernel
theorem dX1_copySector_26 : decode cX1_copySector 26 = .ok (.iload_n 3, 1) := by decide +kernel
theorem dX1_copySector_27 : decode cX1_copySector 27 = .ok (.aload_n 0, 1) := by decide +kernel
theorem dX1_copySector_28 : decode cX1_copySector 28 = .ok (.getfield 9, 3) := by decide +kernel
theorem dX1_copySector_31 : decode cX1_copySector 31 = .ok (.iload_n 1, 1) := by decide +kernel
theorem dX1_copySector_32 : decode cX1_copySector 32 = .ok (.aload_n 0, 1) := by decide +kernel
theorem dX1_copySector_33 : decode cX1_copySector 33 = .ok (.getfield 22, 3) := by decide +kernel
theorem dX1_copySector_36 : decode cX1_copySector 36 = .ok (.imul, 1) := by decide +kernel
theorem dX1_copySector_37 : decode cX1_copySector 37 = .ok (.iload_n 3, 1) := by decide +kernel
theorem dX1_copySector_38 : decode cX1_copySector 38 = .ok (.iadd, 1) := by decide +kernel
theorem dX1_copySector_39 : decode cX1_copySector 39 = .ok (.iaload, 1) := by decide +kernel
theorem dX1_copySector_40 : decode cX1_copySector 40 = .ok (.iastore, 1) := by decide +kernel
theorem dX1_copySector_41 : decode cX1_copySector 41 = .ok (.iinc 3 1, 3) := by decide +kernel
theorem dX1_copySector_44 : decode cX1_copySector 44 = .ok (.goto (-33), 3) := by decide +kernel
theorem dX1_copySector_47 : decode cX1_copySector 47 = .ok (.return_, 1) := by decide +kernel
theorem dX1_numberOf_0 : decode cX1_numberOf 0 = .ok (.aload_n 0, 1) := by decide +kernel
theorem dX1_numberOf_1 : decode cX1_numberOf 1 = .ok (.iload_n 1, 1) := by decide +kernel
theorem dX1_numberOf_2 : decode cX1_numberOf 2 = .ok (.iconst 1, 1) := by decide +kernel
theorem dX1_numberOf_3 : decode cX1_numberOf 3 = .ok (.invokevirtual 94, 3) := by decide +kernel
theorem dX1_numberOf_6 : decode cX1_numberOf 6 = .ok (.sipush 256, 3) := by decide +kernel
theorem dX1_numberOf_9 : decode cX1_numberOf 9 = .ok (.imul, 1) := by decide +kernel
theorem dX1_numberOf_10 : decode cX1_numberOf 10 = .ok (.aload_n 0, 1) := by decide +kernel
theorem dX1_numberOf_11 : decode cX1_numberOf 11 = .ok (.iload_n 1, 1) := by decide +kernel
theorem dX1_numberOf_12 : decode cX1_numberOf 12 = .ok (.iconst 2, 1) := by decide +kernel
theorem dX1_numberOf_13 : decode cX1_numberOf 13 = .ok (.invokevirtual 94, 3) := by decide +kernel
theorem dX1_numberOf_16 : decode cX1_numberOf 16 = .ok (.iadd, 1) := by decide +kernel
theorem dX1_numberOf_17 : decode cX1_numberOf 17 = .ok (.ireturn, 1) := by decide +kernel
theorem dX1_isActive_0 : decode cX1_isActive 0 = .ok (.aload_n 0, 1) := by decide +kernel
theorem dX1_isActive_1 : decode cX1_isActive 1 = .ok (.iload_n 1, 1) := by decide +kernel
theorem dX1_isActive_2 : decode cX1_isActive 2 = .ok (.iconst 1, 1) := by decide +kernel
theorem dX1_isActive_3 : decode cX1_isActive 3 = .ok (.invokevirtual 94, 3) := by decide +kernel
theorem dX1_isActive_6 : decode cX1_isActive 6 = .ok (.aload_n 0, 1) := by decide +kernel
theorem dX1_isActive_7 : decode cX1_isActive 7 = .ok (.iload_n 1, 1) := by decide +kernel
theorem dX1_isActive_8 : decode cX1_isActive 8 = .ok (.iconst 2, 1) := by decide +kernel
theorem dX1_isActive_9 : decode cX1_isActive 9 = .ok (.invokevirtual 94, 3) := by decide +kernel
theorem dX1_isActive_12 : decode cX1_isActive 12 = .ok (.iadd, 1) := by decide +kernel
theorem dX1_isActive_13 : decode cX1_isActive 13 = .ok (.istore_n 2, 1) := by decide +kernel
theorem dX1_isActive_14 : decode cX1_isActive 14 = .ok (.aload_n 0, 1) := by decide +kernel
theorem dX1_isActive_15 : decode cX1_isActive 15 = .ok (.iload_n 1, 1) := by decide +kernel
theorem dX1_isActive_16 : decode cX1_isActive 16 = .ok (.iconst 0, 1) := by decide +kernel
theorem dX1_isActive_17 : decode cX1_isActive 17 = .ok (.invokevirtual 94, 3) := by decide +kernel
theorem dX1_isActive_20 : decode cX1_isActive 20 = .ok (.bipush 63, 2) := by decide +kernel
theorem dX1_isActive_22 : decode cX1_isActive 22 = .ok (.if_icmp .ne 20, 3) := by decide +kernel
theorem dX1_isActive_25 : decode cX1_isActive 25 = .ok (.aload_n 0, 1) := by decide +kernel
theorem dX1_isActive_26 : decode cX1_isActive 26 = .ok (.iload_n 1, 1) := by decide +kernel
theorem dX1_isActive_27 : decode cX1_isActive 27 = .ok (.iconst 3, 1) := by decide +kernel
theorem dX1_isActive_28 : decode cX1_isActive 28 = .ok (.invokevirtual 94, 3) := by decide +kernel
theorem dX1_isActive_31 : decode cX1_isActive 31 = .ok (.iload_n 2, 1) := by decide +kernel
theorem dX1_isActive_32 : decode cX1_isActive 32 = .ok (.invokestatic 72, 3) := by decide +kernel
theorem dX1_isActive_35 : decode cX1_isActive 35 = .ok (.if_icmp .ne 7, 3) := by decide +kernel
theorem dX1_isActive_38 : decode cX1_isActive 38 = .ok (.iconst 1, 1) := by decide +kernel
theorem dX1_isActive_39 : decode cX1_isActive 39 = .ok (.goto 4, 3) := by decide +kernel
theorem dX1_isActive_42 : decode cX1_isActive 42 = .ok (.iconst 0, 1) := by decide +kernel
theorem dX1_isActive_43 : decode cX1_isActive 43 = .ok (.ireturn, 1) := by decide +kernel
theorem dX1_greatestActive_0 : decode cX1_greatestActive 0 = .ok (.iconst (-1), 1) := by decide +kernel
theorem dX1_greatestActive_1 : decode cX1_greatestActive 1 = .ok (.istore_n 1, 1) := by decide +kernel
theorem dX1_greatestActive_2 : decode cX1_greatestActive 2 = .ok (.iconst 0, 1) := by decide +kernel
theorem dX1_greatestActive_3 : decode cX1_greatestActive 3 = .ok (.istore_n 2, 1) := by decide +kernel
theorem dX1_greatestActive_4 : decode cX1_greatestActive 4 = .ok (.iload_n 2, 1) := by decide +kernel
theorem dX1_greatestActive_5 : decode cX1_greatestActive 5 = .ok (.aload_n 0, 1) := by decide +kernel
theorem dX1_greatestActive_6 : decode cX1_greatestActive 6 = .ok (.getfield 18, 3) := by decide +kernel
theorem dX1_greatestActive_9 : decode cX1_greatestActive 9 = .ok (.if_icmp .ge 37, 3) := by decide +kernel
theorem dX1_greatestActive_12 : decode cX1_greatestActive 12 = .ok (.aload_n 0, 1) := by decide +kernel
theorem dX1_greatestActive_13 : decode cX1_greatestActive 13 = .ok (.iload_n 2, 1) := by decide +kernel
theorem dX1_greatestActive_14 : decode cX1_greatestActive 14 = .ok (.invokevirtual 98, 3) := by decide +kernel
theorem dX1_greatestActive_17 : decode cX1_greatestActive 17 = .ok (.ifCond .eq 23, 3) := by decide +kernel
theorem dX1_greatestActive_20 : decode cX1_greatestActive 20 = .ok (.iload_n 1, 1) := by decide +kernel
theorem dX1_greatestActive_21 : decode cX1_greatestActive 21 = .ok (.iconst (-1), 1) := by decide +kernel
theorem dX1_greatestActive_22 : decode cX1_greatestActive 22 = .ok (.if_icmp .eq 16, 3) := by decide +kernel
theorem dX1_greatestActive_25 : decode cX1_greatestActive 25 = .ok (.aload_n 0, 1) := by decide +kernel
theorem dX1_greatestActive_26 : decode cX1_greatestActive 26 = .ok (.iload_n 2, 1) := by decide +kernel
theorem dX1_greatestActive_27 : decode cX1_greatestActive 27 = .ok (.invokevirtual 101, 3) := by decide +kernel
theorem dX1_greatestActive_30 : decode cX1_greatestActive 30 = .ok (.aload_n 0, 1) := by decide +kernel
theorem dX1_greatestActive_31 : decode cX1_greatestActive 31 = .ok (.iload_n 1, 1) := by decide +kernel
theorem dX1_greatestActive_32 : decode cX1_greatestActive 32 = .ok (.invokevirtual 101, 3) := by decide +kernel
theorem dX1_greatestActive_35 : decode cX1_greatestActive 35 = .ok (.if_icmp .le 5, 3) := by decide +kernel
theorem dX1_greatestActive_38 : decode cX1_greatestActive 38 = .ok (.iload_n 2, 1) := by decide +kernel
theorem dX1_greatestActive_39 : decode cX1_greatestActive 39 = .ok (.istore_n 1, 1) := by decide +kernel
theorem dX1_greatestActive_40 : decode cX1_greatestActive 40 = .ok (.iinc 2 1, 3) := by decide +kernel
theorem dX1_greatestActive_43 : decode cX1_greatestActive 43 = .ok (.goto (-39), 3) := by decide +kernel
theorem dX1_greatestActive_46 : decode cX1_greatestActive 46 = .ok (.iload_n 1, 1) := by decide +kernel
theorem dX1_greatestActive_47 : decode cX1_greatestActive 47 = .ok (.ireturn, 1) := by decide +kernel
theorem dX1_leastErased_0 : decode cX1_leastErased 0 = .ok (.iconst (-1), 1) := by decide +kernel
theorem dX1_leastErased_1 : decode cX1_leastErased 1 = .ok (.istore_n 2, 1) := by decide +kernel
theorem dX1_leastErased_2 : decode cX1_leastErased 2 = .ok (.iconst 0, 1) := by decide +kernel
theorem dX1_leastErased_3 : decode cX1_leastErased 3 = .ok (.istore_n 3, 1) := by decide +kernel
theorem dX1_leastErased_4 : decode cX1_leastErased 4 = .ok (.iload_n 3, 1) := by decide +kernel
theorem dX1_leastErased_5 : decode cX1_leastErased 5 = .ok (.aload_n 0, 1) := by decide +kernel
theorem dX1_leastErased_6 : decode cX1_leastErased 6 = .ok (.getfield 18, 3) := by decide +kernel
theorem dX1_leastErased_9 : decode cX1_leastErased 9 = .ok (.if_icmp .ge 34, 3) := by decide +kernel
theorem dX1_leastErased_12 : decode cX1_leastErased 12 = .ok (.iload_n 3, 1) := by decide +kernel
theorem dX1_leastErased_13 : decode cX1_leastErased 13 = .ok (.iload_n 1, 1) := by decide +kernel
theorem dX1_leastErased_14 : decode cX1_leastErased 14 = .ok (.if_icmp .eq 23, 3) := by decide +kernel
theorem dX1_leastErased_17 : decode cX1_leastErased 17 = .ok (.iload_n 2, 1) := by decide +kernel
theorem dX1_leastErased_18 : decode cX1_leastErased 18 = .ok (.iconst (-1), 1) := by decide +kernel
theorem dX1_leastErased_19 : decode cX1_leastErased 19 = .ok (.if_icmp .eq 16, 3) := by decide +kernel
theorem dX1_leastErased_22 : decode cX1_leastErased 22 = .ok (.aload_n 0, 1) := by decide +kernel
theorem dX1_leastErased_23 : decode cX1_leastErased 23 = .ok (.iload_n 3, 1) := by decide +kernel
theorem dX1_leastErased_24 : decode cX1_leastErased 24 = .ok (.invokevirtual 104, 3) := by decide +kernel
theorem dX1_leastErased_27 : decode cX1_leastErased 27 = .ok (.aload_n 0, 1) := by decide +kernel
theorem dX1_leastErased_28 : decode cX1_leastErased 28 = .ok (.iload_n 2, 1) := by decide +kernel
theorem dX1_leastErased_29 : decode cX1_leastErased 29 = .ok (.invokevirtual 104, 3) := by decide +kernel
theorem dX1_leastErased_32 : decode cX1_leastErased 32 = .ok (.if_icmp .ge 5, 3) := by decide +kernel
theorem dX1_leastErased_35 : decode cX1_leastErased 35 = .ok (.iload_n 3, 1) := by decide +kernel
theorem dX1_leastErased_36 : decode cX1_leastErased 36 = .ok (.istore_n 2, 1) := by decide +kernel
theorem dX1_leastErased_37 : decode cX1_leastErased 37 = .ok (.iinc 3 1, 3) := by decide +kernel
theorem dX1_leastErased_40 : decode cX1_leastErased 40 = .ok (.goto (-36), 3) := by decide +kernel
theorem dX1_leastErased_43 : decode cX1_leastErased 43 = .ok (.iload_n 2, 1) := by decide +kernel
theorem dX1_leastErased_44 : decode cX1_leastErased 44 = .ok (.ireturn, 1) := by decide +kernel
theorem dX1_erasesOf_0 : decode cX1_erasesOf 0 = .ok (.aload_n 0, 1) := by decide +kernel
theorem dX1_erasesOf_1 : decode cX1_erasesOf 1 = .ok (.iload_n 1, 1) := by decide +kernel
theorem dX1_erasesOf_2 : decode cX1_erasesOf 2 = .ok (.invokevirtual 64, 3) := by decide +kernel
theorem dX1_erasesOf_5 : decode cX1_erasesOf 5 = .ok (.ifCond .eq 12, 3) := by decide +kernel
theorem dX1_erasesOf_8 : decode cX1_erasesOf 8 = .ok (.aload_n 0, 1) := by decide +kernel
theorem dX1_erasesOf_9 : decode cX1_erasesOf 9 = .ok (.getfield 15, 3) := by decide +kernel
theorem dX1_erasesOf_12 : decode cX1_erasesOf 12 = .ok (.iload_n 1, 1) := by decide +kernel
theorem dX1_erasesOf_13 : decode cX1_erasesOf 13 = .ok (.iaload, 1) := by decide +kernel
theorem dX1_erasesOf_14 : decode cX1_erasesOf 14 = .ok (.goto 4, 3) := by decide +kernel
theorem dX1_erasesOf_17 : decode cX1_erasesOf 17 = .ok (.iconst 0, 1) := by decide +kernel
theorem dX1_erasesOf_18 : decode cX1_erasesOf 18 = .ok (.ireturn, 1) := by decide +kernel
theorem dX1_mostErases_0 : decode cX1_mostErases 0 = .ok (.iconst 0, 1) := by decide +kernel
theorem dX1_mostErases_1 : decode cX1_mostErases 1 = .ok (.istore_n 1, 1) := by decide +kernel
theorem dX1_mostErases_2 : decode cX1_mostErases 2 = .ok (.iconst 0, 1) := by decide +kernel
theorem dX1_mostErases_3 : decode cX1_mostErases 3 = .ok (.istore_n 2, 1) := by decide +kernel
theorem dX1_mostErases_4 : decode cX1_mostErases 4 = .ok (.iload_n 2, 1) := by decide +kernel
theorem dX1_mostErases_5 : decode cX1_mostErases 5 = .ok (.aload_n 0, 1) := by decide +kernel
theorem dX1_mostErases_6 : decode cX1_mostErases 6 = .ok (.getfield 18, 3) := by decide +kernel
theorem dX1_mostErases_9 : decode cX1_mostErases 9 = .ok (.if_icmp .ge 20, 3) := by decide +kernel
theorem dX1_mostErases_12 : decode cX1_mostErases 12 = .ok (.iload_n 1, 1) := by decide +kernel
theorem dX1_mostErases_13 : decode cX1_mostErases 13 = .ok (.aload_n 0, 1) := by decide +kernel
theorem dX1_mostErases_14 : decode cX1_mostErases 14 = .ok (.getfield 15, 3) := by decide +kernel
theorem dX1_mostErases_17 : decode cX1_mostErases 17 = .ok (.iload_n 2, 1) := by decide +kernel
theorem dX1_mostErases_18 : decode cX1_mostErases 18 = .ok (.iaload, 1) := by decide +kernel
theorem dX1_mostErases_19 : decode cX1_mostErases 19 = .ok (.invokestatic 107, 3) := by decide +kernel
theorem dX1_mostErases_22 : decode cX1_mostErases 22 = .ok (.istore_n 1, 1) := by decide +kernel
theorem dX1_mostErases_23 : decode cX1_mostErases 23 = .ok (.iinc 2 1, 3) := by decide +kernel
theorem dX1_mostErases_26 : decode cX1_mostErases 26 = .ok (.goto (-22), 3) := by decide +kernel
theorem dX1_mostErases_29 : decode cX1_mostErases 29 = .ok (.iload_n 1, 1) := by decide +kernel
theorem dX1_mostErases_30 : decode cX1_mostErases 30 = .ok (.ireturn, 1) := by decide +kernel
theorem dX1_fewestErases_0 : decode cX1_fewestErases 0 = .ok (.aload_n 0, 1) := by decide +kernel
theorem dX1_fewestErases_1 : decode cX1_fewestErases 1 = .ok (.aload_n 0, 1) := by decide +kernel
theorem dX1_fewestErases_2 : decode cX1_fewestErases 2 = .ok (.iconst (-1), 1) := by decide +kernel
theorem dX1_fewestErases_3 : decode cX1_fewestErases 3 = .ok (.invokevirtual 112, 3) := by decide +kernel
theorem dX1_fewestErases_6 : decode cX1_fewestErases 6 = .ok (.invokevirtual 104, 3) := by decide +kernel
theorem dX1_fewestErases_9 : decode cX1_fewestErases 9 = .ok (.ireturn, 1) := by decide +kernel
theorem dX1_allErases_0 : decode cX1_allErases 0 = .ok (.iconst 0, 1) := by decide +kernel
theorem dX1_allErases_1 : decode cX1_allErases 1 = .ok (.istore_n 1, 1) := by decide +kernel
theorem dX1_allErases_2 : decode cX1_allErases 2 = .ok (.iconst 0, 1) := by decide +kernel
theorem dX1_allErases_3 : decode cX1_allErases 3 = .ok (.istore_n 2, 1) := by decide +kernel
theorem dX1_allErases_4 : decode cX1_allErases 4 = .ok (.iload_n 2, 1) := by decide +kernel
theorem dX1_allErases_5 : decode cX1_allErases 5 = .ok (.aload_n 0, 1) := by decide +kernel
theorem dX1_allErases_6 : decode cX1_allErases 6 = .ok (.getfield 18, 3) := by decide +kernel
theorem dX1_allErases_9 : decode cX1_allErases 9 = .ok (.if_icmp .ge 18, 3) := by decide +kernel
theorem dX1_allErases_12 : decode cX1_allErases 12 = .ok (.iload_n 1, 1) := by decide +kernel
theorem dX1_allErases_13 : decode cX1_allErases 13 = .ok (.aload_n 0, 1) := by decide +kernel
theorem dX1_allErases_14 : decode cX1_allErases 14 = .ok (.getfield 15, 3) := by decide +kernel
theorem dX1_allErases_17 : decode cX1_allErases 17 = .ok (.iload_n 2, 1) := by decide +kernel
theorem dX1_allErases_18 : decode cX1_allErases 18 = .ok (.iaload, 1) := by decide +kernel
theorem dX1_allErases_19 : decode cX1_allErases 19 = .ok (.iadd, 1) := by decide +kernel
theorem dX1_allErases_20 : decode cX1_allErases 20 = .ok (.istore_n 1, 1) := by decide +kernel
theorem dX1_allErases_21 : decode cX1_allErases 21 = .ok (.iinc 2 1, 3) := by decide +kernel
theorem dX1_allErases_24 : decode cX1_allErases 24 = .ok (.goto (-20), 3) := by decide +kernel
theorem dX1_allErases_27 : decode cX1_allErases 27 = .ok (.iload_n 1, 1) := by decide +kernel
theorem dX1_allErases_28 : decode cX1_allErases 28 = .ok (.ireturn, 1) := by decide +kernel
end
section
theorem dX2_init_0 : decode cX2_init 0 = .ok (.aload_n 0, 1) := by decide +kernel
theorem dX2_init_1 : decode cX2_init 1 = .ok (.invokespecial 3, 3) := by decide +kernel
theorem dX2_init_4 : decode cX2_init 4 = .ok (.aload_n 0, 1) := by decide +kernel
theorem dX2_init_5 : decode cX2_init 5 = .ok (.bipush 7, 2) := by decide +kernel
theorem dX2_init_7 : decode cX2_init 7 = .ok (.newarray .int, 2) := by decide +kernel
theorem dX2_init_9 : decode cX2_init 9 = .ok (.putfield 9, 3) := by decide +kernel
theorem dX2_init_12 : decode cX2_init 12 = .ok (.return_, 1) := by decide +kernel
theorem dX2_fillSetting_0 : decode cX2_fillSetting 0 = .ok (.aload_n 0, 1) := by decide +kernel
theorem dX2_fillSetting_1 : decode cX2_fillSetting 1 = .ok (.iload_n 1, 1) := by decide +kernel
theorem dX2_fillSetting_2 : decode cX2_fillSetting 2 = .ok (.iload_n 2, 1) := by decide +kernel
theorem dX2_fillSetting_3 : decode cX2_fillSetting 3 = .ok (.iload 4, 2) := by decide +kernel
theorem dX2_fillSetting_5 : decode cX2_fillSetting 5 = .ok (.iadd, 1) := by decide +kernel
theorem dX2_fillSetting_6 : decode cX2_fillSetting 6 = .ok (.invokevirtual 15, 3) := by decide +kernel
theorem dX2_fillSetting_9 : decode cX2_fillSetting 9 = .ok (.aload_n 0, 1) := by decide +kernel
theorem dX2_fillSetting_10 : decode cX2_fillSetting 10 = .ok (.iload_n 3, 1) := by decide +kernel
theorem dX2_fillSetting_11 : decode cX2_fillSetting 11 = .ok (.iload 4, 2) := by decide +kernel
theorem dX2_fillSetting_13 : decode cX2_fillSetting 13 = .ok (.invokevirtual 19, 3) := by decide +kernel
theorem dX2_fillSetting_16 : decode cX2_fillSetting 16 = .ok (.aload_n 0, 1) := by decide +kernel
theorem dX2_fillSetting_17 : decode cX2_fillSetting 17 = .ok (.aload_n 0, 1) := by decide +kernel
theorem dX2_fillSetting_18 : decode cX2_fillSetting 18 = .ok (.getfield 22, 3) := by decide +kernel
theorem dX2_fillSetting_21 : decode cX2_fillSetting 21 = .ok (.invokestatic 26, 3) := by decide +kernel
theorem dX2_fillSetting_24 : decode cX2_fillSetting 24 = .ok (.invokevirtual 30, 3) := by decide +kernel
theorem dX2_fillSetting_27 : decode cX2_fillSetting 27 = .ok (.return_, 1) := by decide +kernel
theorem dX2_fillCounter_0 : decode cX2_fillCounter 0 = .ok (.aload_n 0, 1) := by decide +kernel
theorem dX2_fillCounter_1 : decode cX2_fillCounter 1 = .ok (.iload_n 1, 1) := by decide +kernel
theorem dX2_fillCounter_2 : decode cX2_fillCounter 2 = .ok (.bipush 43, 2) := by decide +kernel
theorem dX2_fillCounter_4 : decode cX2_fillCounter 4 = .ok (.invokevirtual 15, 3) := by decide +kernel
theorem dX2_fillCounter_7 : decode cX2_fillCounter 7 = .ok (.aload_n 0, 1) := by decide +kernel
theorem dX2_fillCounter_8 : decode cX2_fillCounter 8 = .ok (.iload_n 2, 1) := by decide +kernel
theorem dX2_fillCounter_9 : decode cX2_fillCounter 9 = .ok (.iconst 3, 1) := by decide +kernel
theorem dX2_fillCounter_10 : decode cX2_fillCounter 10 = .ok (.invokevirtual 19, 3) := by decide +kernel
theorem dX2_fillCounter_13 : decode cX2_fillCounter 13 = .ok (.aload_n 0, 1) := by decide +kernel
theorem dX2_fillCounter_14 : decode cX2_fillCounter 14 = .ok (.aload_n 0, 1) := by decide +kernel
theorem dX2_fillCounter_15 : decode cX2_fillCounter 15 = .ok (.getfield 22, 3) := by decide +kernel
theorem dX2_fillCounter_18 : decode cX2_fillCounter 18 = .ok (.invokestatic 26, 3) := by decide +kernel
theorem dX2_fillCounter_21 : decode cX2_fillCounter 21 = .ok (.invokevirtual 30, 3) := by decide +kernel
theorem dX2_fillCounter_24 : decode cX2_fillCounter 24 = .ok (.return_, 1) := by decide +kernel
theorem dX2_fillCommit_0 : decode cX2_fillCommit 0 = .ok (.aload_n 0, 1) := by decide +kernel
theorem dX2_fillCommit_1 : decode cX2_fillCommit 1 = .ok (.bipush 63, 2) := by decide +kernel
theorem dX2_fillCommit_3 : decode cX2_fillCommit 3 = .ok (.bipush 65, 2) := by decide +kernel
theorem dX2_fillCommit_5 : decode cX2_fillCommit 5 = .ok (.invokevirtual 15, 3) := by decide +kernel
theorem dX2_fillCommit_8 : decode cX2_fillCommit 8 = .ok (.aload_n 0, 1) := by decide +kernel
theorem dX2_fillCommit_9 : decode cX2_fillCommit 9 = .ok (.iload_n 1, 1) := by decide +kernel
theorem dX2_fillCommit_10 : decode cX2_fillCommit 10 = .ok (.invokevirtual 30, 3) := by decide +kernel
theorem dX2_fillCommit_13 : decode cX2_fillCommit 13 = .ok (.aload_n 0, 1) := by decide +kernel
theorem dX2_fillCommit_14 : decode cX2_fillCommit 14 = .ok (.aload_n 0, 1) := by decide +kernel
theorem dX2_fillCommit_15 : decode cX2_fillCommit 15 = .ok (.getfield 22, 3) := by decide +kernel
theorem dX2_fillCommit_18 : decode cX2_fillCommit 18 = .ok (.invokestatic 26, 3) := by decide +kernel
theorem dX2_fillCommit_21 : decode cX2_fillCommit 21 = .ok (.invokevirtual 30, 3) := by decide +kernel
theorem dX2_fillCommit_24 : decode cX2_fillCommit 24 = .ok (.return_, 1) := by decide +kernel
theorem dX2_start_0 : decode cX2_start 0 = .ok (.aload_n 0, 1) := by decide +kernel
theorem dX2_start_1 : decode cX2_start 1 = .ok (.iconst 0, 1) := by decide +kernel
theorem dX2_start_2 : decode cX2_start 2 = .ok (.putfield 34, 3) := by decide +kernel
theorem dX2_start_5 : decode cX2_start 5 = .ok (.aload_n 0, 1) := by decide +kernel
theorem dX2_start_6 : decode cX2_start 6 = .ok (.iconst 0, 1) := by decide +kernel
theorem dX2_start_7 : decode cX2_start 7 = .ok (.putfield 22, 3) := by decide +kernel
theorem dX2_start_10 : decode cX2_start 10 = .ok (.aload_n 0, 1) := by decide +kernel
theorem dX2_start_11 : decode cX2_start 11 = .ok (.iload_n 1, 1) := by decide +kernel
theorem dX2_start_12 : decode cX2_start 12 = .ok (.invokevirtual 30, 3) := by decide +kernel
theorem dX2_start_15 : decode cX2_start 15 = .ok (.aload_n 0, 1) := by decide +kernel
theorem dX2_start_16 : decode cX2_start 16 = .ok (.iload_n 2, 1) := by decide +kernel
theorem dX2_start_17 : decode cX2_start 17 = .ok (.invokevirtual 30, 3) := by decide +kernel
theorem dX2_start_20 : decode cX2_start 20 = .ok (.return_, 1) := by decide +kernel
theorem dX2_putBytes_0 : decode cX2_putBytes 0 = .ok (.iload_n 2, 1) := by decide +kernel
theorem dX2_putBytes_1 : decode cX2_putBytes 1 = .ok (.iconst 1, 1) := by decide +kernel
theorem dX2_putBytes_2 : decode cX2_putBytes 2 = .ok (.isub, 1) := by decide +kernel
theorem dX2_putBytes_3 : decode cX2_putBytes 3 = .ok (.istore_n 3, 1) := by decide +kernel
theorem dX2_putBytes_4 : decode cX2_putBytes 4 = .ok (.iload_n 3, 1) := by decide +kernel
theorem dX2_putBytes_5 : decode cX2_putBytes 5 = .ok (.ifCond .lt 23, 3) := by decide +kernel
theorem dX2_putBytes_8 : decode cX2_putBytes 8 = .ok (.aload_n 0, 1) := by decide +kernel
theorem dX2_putBytes_9 : decode cX2_putBytes 9 = .ok (.iload_n 1, 1) := by decide +kernel
theorem dX2_putBytes_10 : decode cX2_putBytes 10 = .ok (.bipush 8, 2) := by decide +kernel
theorem dX2_putBytes_12 : decode cX2_putBytes 12 = .ok (.iload_n 3, 1) := by decide +kernel
theorem dX2_putBytes_13 : decode cX2_putBytes 13 = .ok (.imul, 1) := by decide +kernel
theorem dX2_putBytes_14 : decode cX2_putBytes 14 = .ok (.ishr, 1) := by decide +kernel
theorem dX2_putBytes_15 : decode cX2_putBytes 15 = .ok (.sipush 255, 3) := by decide +kernel
theorem dX2_putBytes_18 : decode cX2_putBytes 18 = .ok (.iand, 1) := by decide +kernel
theorem dX2_putBytes_19 : decode cX2_putBytes 19 = .ok (.invokevirtual 30, 3) := by decide +kernel
theorem dX2_putBytes_22 : decode cX2_putBytes 22 = .ok (.iinc 3 (-1), 3) := by decide +kernel
theorem dX2_putBytes_25 : decode cX2_putBytes 25 = .ok (.goto (-21), 3) := by decide +kernel
theorem dX2_putBytes_28 : decode cX2_putBytes 28 = .ok (.return_, 1) := by decide +kernel
theorem dX2_put_0 : decode cX2_put 0 = .ok (.aload_n 0, 1) := by decide +kernel
theorem dX2_put_1 : decode cX2_put 1 = .ok (.getfield 34, 3) := by decide +kernel
theorem dX2_put_4 : decode cX2_put 4 = .ok (.aload_n 0, 1) := by decide +kernel
theorem dX2_put_5 : decode cX2_put 5 = .ok (.getfield 9, 3) := by decide +kernel
theorem dX2_put_8 : decode cX2_put 8 = .ok (.arraylength, 1) := by decide +kernel
theorem dX2_put_9 : decode cX2_put 9 = .ok (.if_icmp .ge 33, 3) := by decide +kernel
theorem dX2_put_12 : decode cX2_put 12 = .ok (.aload_n 0, 1) := by decide +kernel
theorem dX2_put_13 : decode cX2_put 13 = .ok (.getfield 9, 3) := by decide +kernel
theorem dX2_put_16 : decode cX2_put 16 = .ok (.aload_n 0, 1) := by decide +kernel
theorem dX2_put_17 : decode cX2_put 17 = .ok (.getfield 34, 3) := by decide +kernel
theorem dX2_put_20 : decode cX2_put 20 = .ok (.iload_n 1, 1) := by decide +kernel
theorem dX2_put_21 : decode cX2_put 21 = .ok (.iastore, 1) := by decide +kernel
theorem dX2_put_22 : decode cX2_put 22 = .ok (.aload_n 0, 1) := by decide +kernel
theorem dX2_put_23 : decode cX2_put 23 = .ok (.dup, 1) := by decide +kernel
theorem dX2_put_24 : decode cX2_put 24 = .ok (.getfield 34, 3) := by decide +kernel
theorem dX2_put_27 : decode cX2_put 27 = .ok (.iconst 1, 1) := by decide +kernel
theorem dX2_put_28 : decode cX2_put 28 = .ok (.iadd, 1) := by decide +kernel
theorem dX2_put_29 : decode cX2_put 29 = .ok (.putfield 34, 3) := by decide +kernel
theorem dX2_put_32 : decode cX2_put 32 = .ok (.aload_n 0, 1) := by decide +kernel
theorem dX2_put_33 : decode cX2_put 33 = .ok (.dup, 1) := by decide +kernel
theorem dX2_put_34 : decode cX2_put 34 = .ok (.getfield 22, 3) := by decide +kernel
theorem dX2_put_37 : decode cX2_put 37 = .ok (.iload_n 1, 1) := by decide +kernel
theorem dX2_put_38 : decode cX2_put 38 = .ok (.iadd, 1) := by decide +kernel
theorem dX2_put_39 : decode cX2_put 39 = .ok (.putfield 22, 3) := by decide +kernel
theorem dX2_put_42 : decode cX2_put 42 = .ok (.return_, 1) := by decide +kernel
end
section
theorem dX3_init_0 : decode cX3_init 0 = .ok (.aload_n 0, 1) := by decide +kernel
theorem dX3_init_1 : decode cX3_init 1 = .ok (.invokespecial 3, 3) := by decide +kernel
theorem dX3_init_4 : decode cX3_init 4 = .ok (.aload_n 0, 1) := by decide +kernel
theorem dX3_init_5 : decode cX3_init 5 = .ok (.sipush 128, 3) := by decide +kernel
theorem dX3_init_8 : decode cX3_init 8 = .ok (.newarray .int, 2) := by decide +kernel
theorem dX3_init_10 : decode cX3_init 10 = .ok (.putfield 9, 3) := by decide +kernel
theorem dX3_init_13 : decode cX3_init 13 = .ok (.aload_n 0, 1) := by decide +kernel
theorem dX3_init_14 : decode cX3_init 14 = .ok (.bipush 41, 2) := by decide +kernel
theorem dX3_init_16 : decode cX3_init 16 = .ok (.newarray .int, 2) := by decide +kernel
theorem dX3_init_18 : decode cX3_init 18 = .ok (.putfield 15, 3) := by decide +kernel
theorem dX3_init_21 : decode cX3_init 21 = .ok (.aload_n 0, 1) := by decide +kernel
theorem dX3_init_22 : decode cX3_init 22 = .ok (.bipush 41, 2) := by decide +kernel
theorem dX3_init_24 : decode cX3_init 24 = .ok (.newarray .int, 2) := by decide +kernel
theorem dX3_init_26 : decode cX3_init 26 = .ok (.putfield 18, 3) := by decide +kernel
theorem dX3_init_29 : decode cX3_init 29 = .ok (.aload_n 0, 1) := by decide +kernel
theorem dX3_init_30 : decode cX3_init 30 = .ok (.bipush 41, 2) := by decide +kernel
theorem dX3_init_32 : decode cX3_init 32 = .ok (.newarray .int, 2) := by decide +kernel
theorem dX3_init_34 : decode cX3_init 34 = .ok (.putfield 21, 3) := by decide +kernel
theorem dX3_init_37 : decode cX3_init 37 = .ok (.aload_n 0, 1) := by decide +kernel
theorem dX3_init_38 : decode cX3_init 38 = .ok (.bipush 41, 2) := by decide +kernel
theorem dX3_init_40 : decode cX3_init 40 = .ok (.newarray .int, 2) := by decide +kernel
theorem dX3_init_42 : decode cX3_init 42 = .ok (.putfield 24, 3) := by decide +kernel
theorem dX3_init_45 : decode cX3_init 45 = .ok (.aload_n 0, 1) := by decide +kernel
theorem dX3_init_46 : decode cX3_init 46 = .ok (.bipush 41, 2) := by decide +kernel
theorem dX3_init_48 : decode cX3_init 48 = .ok (.newarray .int, 2) := by decide +kernel
theorem dX3_init_50 : decode cX3_init 50 = .ok (.putfield 27, 3) := by decide +kernel
theorem dX3_init_53 : decode cX3_init 53 = .ok (.aload_n 0, 1) := by decide +kernel
theorem dX3_init_54 : decode cX3_init 54 = .ok (.bipush 48, 2) := by decide +kernel
theorem dX3_init_56 : decode cX3_init 56 = .ok (.newarray .int, 2) := by decide +kernel
theorem dX3_init_58 : decode cX3_init 58 = .ok (.putfield 30, 3) := by decide +kernel
theorem dX3_init_61 : decode cX3_init 61 = .ok (.return_, 1) := by decide +kernel
theorem dX3_scan_0 : decode cX3_scan 0 = .ok (.aload_n 0, 1) := by decide +kernel
theorem dX3_scan_1 : decode cX3_scan 1 = .ok (.aload_n 1, 1) := by decide +kernel
theorem dX3_scan_2 : decode cX3_scan 2 = .ok (.getfield 33, 3) := by decide +kernel
theorem dX3_scan_5 : decode cX3_scan 5 = .ok (.putfield 39, 3) := by decide +kernel
theorem dX3_scan_8 : decode cX3_scan 8 = .ok (.aload_n 1, 1) := by decide +kernel
theorem dX3_scan_9 : decode cX3_scan 9 = .ok (.iload_n 2, 1) := by decide +kernel
theorem dX3_scan_10 : decode cX3_scan 10 = .ok (.aload_n 0, 1) := by decide +kernel
theorem dX3_scan_11 : decode cX3_scan 11 = .ok (.getfield 9, 3) := by decide +kernel
theorem dX3_scan_14 : decode cX3_scan 14 = .ok (.invokevirtual 40, 3) := by decide +kernel
theorem dX3_scan_17 : decode cX3_scan 17 = .ok (.aload_n 0, 1) := by decide +kernel
theorem dX3_scan_18 : decode cX3_scan 18 = .ok (.iconst 0, 1) := by decide +kernel
theorem dX3_scan_19 : decode cX3_scan 19 = .ok (.putfield 44, 3) := by decide +kernel
theorem dX3_scan_22 : decode cX3_scan 22 = .ok (.aload_n 0, 1) := by decide +kernel
theorem dX3_scan_23 : decode cX3_scan 23 = .ok (.iconst 0, 1) := by decide +kernel
theorem dX3_scan_24 : decode cX3_scan 24 = .ok (.putfield 47, 3) := by decide +kernel
theorem dX3_scan_27 : decode cX3_scan 27 = .ok (.aload_n 1, 1) := by decide +kernel
theorem dX3_scan_28 : decode cX3_scan 28 = .ok (.iload_n 2, 1) := by decide +kernel
theorem dX3_scan_29 : decode cX3_scan 29 = .ok (.invokevirtual 50, 3) := by decide +kernel
theorem dX3_scan_32 : decode cX3_scan 32 = .ok (.istore_n 3, 1) := by decide +kernel
theorem dX3_scan_33 : decode cX3_scan 33 = .ok (.iconst 4, 1) := by decide +kernel
theorem dX3_scan_34 : decode cX3_scan 34 = .ok (.istore 4, 2) := by decide +kernel
theorem dX3_scan_36 : decode cX3_scan 36 = .ok (.iconst 0, 1) := by decide +kernel
theorem dX3_scan_37 : decode cX3_scan 37 = .ok (.istore 5, 2) := by decide +kernel
theorem dX3_scan_39 : decode cX3_scan 39 = .ok (.iload 5, 2) := by decide +kernel
theorem dX3_scan_41 : decode cX3_scan 41 = .ok (.bipush 41, 2) := by decide +kernel
theorem dX3_scan_43 : decode cX3_scan 43 = .ok (.if_icmp .gt 30, 3) := by decide +kernel
theorem dX3_scan_46 : decode cX3_scan 46 = .ok (.iload 4, 2) := by decide +kernel
theorem dX3_scan_48 : decode cX3_scan 48 = .ok (.iload_n 3, 1) := by decide +kernel
theorem dX3_scan_49 : decode cX3_scan 49 = .ok (.if_icmp .ge 24, 3) := by decide +kernel
theorem dX3_scan_52 : decode cX3_scan 52 = .ok (.aload_n 0, 1) := by decide +kernel
theorem dX3_scan_53 : decode cX3_scan 53 = .ok (.getfield 47, 3) := by decide +kernel
theorem dX3_scan_56 : decode cX3_scan 56 = .ok (.ifCond .ne 17, 3) := by decide +kernel
theorem dX3_scan_59 : decode cX3_scan 59 = .ok (.aload_n 0, 1) := by decide +kernel
theorem dX3_scan_60 : decode cX3_scan 60 = .ok (.iload 4, 2) := by decide +kernel
theorem dX3_scan_62 : decode cX3_scan 62 = .ok (.invokevirtual 54, 3) := by decide +kernel
theorem dX3_scan_65 : decode cX3_scan 65 = .ok (.istore 4, 2) := by decide +kernel
theorem dX3_scan_67 : decode cX3_scan 67 = .ok (.iinc 5 1, 3) := by decide +kernel
theorem dX3_scan_70 : decode cX3_scan 70 = .ok (.goto (-31), 3) := by decide +kernel
theorem dX3_scan_73 : decode cX3_scan 73 = .ok (.aload_n 0, 1) := by decide +kernel
theorem dX3_scan_74 : decode cX3_scan 74 = .ok (.aload_n 0, 1) := by decide +kernel
theorem dX3_scan_75 : decode cX3_scan 75 = .ok (.getfield 47, 3) := by decide +kernel
theorem dX3_scan_78 : decode cX3_scan 78 = .ok (.ifCond .le 10, 3) := by decide +kernel
theorem dX3_scan_81 : decode cX3_scan 81 = .ok (.aload_n 0, 1) := by decide +kernel
theorem dX3_scan_82 : decode cX3_scan 82 = .ok (.getfield 39, 3) := by decide +kernel
theorem dX3_scan_85 : decode cX3_scan 85 = .ok (.goto 5, 3) := by decide +kernel
theorem dX3_scan_88 : decode cX3_scan 88 = .ok (.iload 4, 2) := by decide +kernel
theorem dX3_scan_90 : decode cX3_scan 90 = .ok (.putfield 57, 3) := by decide +kernel
theorem dX3_scan_93 : decode cX3_scan 93 = .ok (.aload_n 0, 1) := by decide +kernel
theorem dX3_scan_94 : decode cX3_scan 94 = .ok (.invokevirtual 60, 3) := by decide +kernel
theorem dX3_scan_97 : decode cX3_scan 97 = .ok (.return_, 1) := by decide +kernel
theorem dX3_takeEntry_0 : decode cX3_takeEntry 0 = .ok (.aload_n 0, 1) := by decide +kernel
theorem dX3_takeEntry_1 : decode cX3_takeEntry 1 = .ok (.iload_n 1, 1) := by decide +kernel
theorem dX3_takeEntry_2 : decode cX3_takeEntry 2 = .ok (.invokevirtual 63, 3) := by decide +kernel
theorem dX3_takeEntry_5 : decode cX3_takeEntry 5 = .ok (.istore_n 2, 1) := by decide +kernel
theorem dX3_takeEntry_6 : decode cX3_takeEntry 6 = .ok (.aload_n 0, 1) := by decide +kernel
theorem dX3_takeEntry_7 : decode cX3_takeEntry 7 = .ok (.iload_n 1, 1) := by decide +kernel
theorem dX3_takeEntry_8 : decode cX3_takeEntry 8 = .ok (.iconst 1, 1) := by decide +kernel
theorem dX3_takeEntry_9 : decode cX3_takeEntry 9 = .ok (.iadd, 1) := by decide +kernel
theorem dX3_takeEntry_10 : decode cX3_takeEntry 10 = .ok (.invokevirtual 63, 3) := by decide +kernel
theorem dX3_takeEntry_13 : decode cX3_takeEntry 13 = .ok (.istore_n 3, 1) := by decide +kernel
theorem dX3_takeEntry_14 : decode cX3_takeEntry 14 = .ok (.iload_n 2, 1) := by decide +kernel
theorem dX3_takeEntry_15 : decode cX3_takeEntry 15 = .ok (.iload_n 3, 1) := by decide +kernel
theorem dX3_takeEntry_16 : decode cX3_takeEntry 16 = .ok (.invokestatic 66, 3) := by decide +kernel
theorem dX3_takeEntry_19 : decode cX3_takeEntry 19 = .ok (.istore 4, 2) := by decide +kernel
theorem dX3_takeEntry_21 : decode cX3_takeEntry 21 = .ok (.iload 4, 2) := by decide +kernel
theorem dX3_takeEntry_23 : decode cX3_takeEntry 23 = .ok (.iload_n 3, 1) := by decide +kernel
theorem dX3_takeEntry_24 : decode cX3_takeEntry 24 = .ok (.invokestatic 70, 3) := by decide +kernel
theorem dX3_takeEntry_27 : decode cX3_takeEntry 27 = .ok (.istore 5, 2) := by decide +kernel
theorem dX3_takeEntry_29 : decode cX3_takeEntry 29 = .ok (.iload 4, 2) := by decide +kernel
theorem dX3_takeEntry_31 : decode cX3_takeEntry 31 = .ok (.iconst (-1), 1) := by decide +kernel
theorem dX3_takeEntry_32 : decode cX3_takeEntry 32 = .ok (.if_icmp .eq 23, 3) := by decide +kernel
theorem dX3_takeEntry_35 : decode cX3_takeEntry 35 = .ok (.iload_n 1, 1) := by decide +kernel
theorem dX3_takeEntry_36 : decode cX3_takeEntry 36 = .ok (.iload 5, 2) := by decide +kernel
theorem dX3_takeEntry_38 : decode cX3_takeEntry 38 = .ok (.iadd, 1) := by decide +kernel
theorem dX3_takeEntry_39 : decode cX3_takeEntry 39 = .ok (.aload_n 0, 1) := by decide +kernel
theorem dX3_takeEntry_40 : decode cX3_takeEntry 40 = .ok (.getfield 39, 3) := by decide +kernel
theorem dX3_takeEntry_43 : decode cX3_takeEntry 43 = .ok (.if_icmp .gt 12, 3) := by decide +kernel
theorem dX3_takeEntry_46 : decode cX3_takeEntry 46 = .ok (.aload_n 0, 1) := by decide +kernel
theorem dX3_takeEntry_47 : decode cX3_takeEntry 47 = .ok (.getfield 44, 3) := by decide +kernel
theorem dX3_takeEntry_50 : decode cX3_takeEntry 50 = .ok (.bipush 41, 2) := by decide +kernel
theorem dX3_takeEntry_52 : decode cX3_takeEntry 52 = .ok (.if_icmp .lt 15, 3) := by decide +kernel
theorem dX3_takeEntry_55 : decode cX3_takeEntry 55 = .ok (.aload_n 0, 1) := by decide +kernel
theorem dX3_takeEntry_56 : decode cX3_takeEntry 56 = .ok (.aload_n 0, 1) := by decide +kernel
theorem dX3_takeEntry_57 : decode cX3_takeEntry 57 = .ok (.getfield 39, 3) := by decide +kernel
theorem dX3_takeEntry_60 : decode cX3_takeEntry 60 = .ok (.iload_n 1, 1) := by decide +kernel
theorem dX3_takeEntry_61 : decode cX3_takeEntry 61 = .ok (.isub, 1) := by decide +kernel
theorem dX3_takeEntry_62 : decode cX3_takeEntry 62 = .ok (.putfield 47, 3) := by decide +kernel
theorem dX3_takeEntry_65 : decode cX3_takeEntry 65 = .ok (.iload_n 1, 1) := by decide +kernel
theorem dX3_takeEntry_66 : decode cX3_takeEntry 66 = .ok (.ireturn, 1) := by decide +kernel
theorem dX3_takeEntry_67 : decode cX3_takeEntry 67 = .ok (.aload_n 0, 1) := by decide +kernel
theorem dX3_takeEntry_68 : decode cX3_takeEntry 68 = .ok (.getfield 15, 3) := by decide +kernel
theorem dX3_takeEntry_71 : decode cX3_takeEntry 71 = .ok (.aload_n 0, 1) := by decide +kernel
theorem dX3_takeEntry_72 : decode cX3_takeEntry 72 = .ok (.getfield 44, 3) := by decide +kernel
theorem dX3_takeEntry_75 : decode cX3_takeEntry 75 = .ok (.iload_n 1, 1) := by decide +kernel
theorem dX3_takeEntry_76 : decode cX3_takeEntry 76 = .ok (.iastore, 1) := by decide +kernel
theorem dX3_takeEntry_77 : decode cX3_takeEntry 77 = .ok (.aload_n 0, 1) := by decide +kernel
theorem dX3_takeEntry_78 : decode cX3_takeEntry 78 = .ok (.getfield 18, 3) := by decide +kernel
theorem dX3_takeEntry_81 : decode cX3_takeEntry 81 = .ok (.aload_n 0, 1) := by decide +kernel
theorem dX3_takeEntry_82 : decode cX3_takeEntry 82 = .ok (.getfield 44, 3) := by decide +kernel
theorem dX3_takeEntry_85 : decode cX3_takeEntry 85 = .ok (.iload 4, 2) := by decide +kernel
theorem dX3_takeEntry_87 : decode cX3_takeEntry 87 = .ok (.iastore, 1) := by decide +kernel
theorem dX3_takeEntry_88 : decode cX3_takeEntry 88 = .ok (.aload_n 0, 1) := by decide +kernel
theorem dX3_takeEntry_89 : decode cX3_takeEntry 89 = .ok (.getfield 21, 3) := by decide +kernel
theorem dX3_takeEntry_92 : decode cX3_takeEntry 92 = .ok (.aload_n 0, 1) := by decide +kernel
theorem dX3_takeEntry_93 : decode cX3_takeEntry 93 = .ok (.getfield 44, 3) := by decide +kernel
theorem dX3_takeEntry_96 : decode cX3_takeEntry 96 = .ok (.iload_n 2, 1) := by decide +kernel
theorem dX3_takeEntry_97 : decode cX3_takeEntry 97 = .ok (.iastore, 1) := by decide +kernel
theorem dX3_takeEntry_98 : decode cX3_takeEntry 98 = .ok (.aload_n 0, 1) := by decide +kernel
theorem dX3_takeEntry_99 : decode cX3_takeEntry 99 = .ok (.getfield 24, 3) := by decide +kernel
theorem dX3_takeEntry_102 : decode cX3_takeEntry 102 = .ok (.aload_n 0, 1) := by decide +kernel
theorem dX3_takeEntry_103 : decode cX3_takeEntry 103 = .ok (.getfield 44, 3) := by decide +kernel
theorem dX3_takeEntry_106 : decode cX3_takeEntry 106 = .ok (.iload 5, 2) := by decide +kernel
theorem dX3_takeEntry_108 : decode cX3_takeEntry 108 = .ok (.iastore, 1) := by decide +kernel
theorem dX3_takeEntry_109 : decode cX3_takeEntry 109 = .ok (.aload_n 0, 1) := by decide +kernel
theorem dX3_takeEntry_110 : decode cX3_takeEntry 110 = .ok (.getfield 27, 3) := by decide +kernel
theorem dX3_takeEntry_113 : decode cX3_takeEntry 113 = .ok (.aload_n 0, 1) := by decide +kernel
theorem dX3_takeEntry_114 : decode cX3_takeEntry 114 = .ok (.getfield 44, 3) := by decide +kernel
theorem dX3_takeEntry_117 : decode cX3_takeEntry 117 = .ok (.aload_n 0, 1) := by decide +kernel
theorem dX3_takeEntry_118 : decode cX3_takeEntry 118 = .ok (.iload 4, 2) := by decide +kernel
theorem dX3_takeEntry_120 : decode cX3_takeEntry 120 = .ok (.iload_n 1, 1) := by decide +kernel
theorem dX3_takeEntry_121 : decode cX3_takeEntry 121 = .ok (.iload 5, 2) := by decide +kernel
theorem dX3_takeEntry_123 : decode cX3_takeEntry 123 = .ok (.invokevirtual 73, 3) := by decide +kernel
theorem dX3_takeEntry_126 : decode cX3_takeEntry 126 = .ok (.iastore, 1) := by decide +kernel
theorem dX3_takeEntry_127 : decode cX3_takeEntry 127 = .ok (.aload_n 0, 1) := by decide +kernel
theorem dX3_takeEntry_128 : decode cX3_takeEntry 128 = .ok (.dup, 1) := by decide +kernel
theorem dX3_takeEntry_129 : decode cX3_takeEntry 129 = .ok (.getfield 44, 3) := by decide +kernel
theorem dX3_takeEntry_132 : decode cX3_takeEntry 132 = .ok (.iconst 1, 1) := by decide +kernel
theorem dX3_takeEntry_133 : decode cX3_takeEntry 133 = .ok (.iadd, 1) := by decide +kernel
theorem dX3_takeEntry_134 : decode cX3_takeEntry 134 = .ok (.putfield 44, 3) := by decide +kernel
theorem dX3_takeEntry_137 : decode cX3_takeEntry 137 = .ok (.iload 4, 2) := by decide +kernel
theorem dX3_takeEntry_139 : decode cX3_takeEntry 139 = .ok (.iconst 3, 1) := by decide +kernel
theorem dX3_takeEntry_140 : decode cX3_takeEntry 140 = .ok (.if_icmp .ne 13, 3) := by decide +kernel
theorem dX3_takeEntry_143 : decode cX3_takeEntry 143 = .ok (.aload_n 0, 1) := by decide +kernel
theorem dX3_takeEntry_144 : decode cX3_takeEntry 144 = .ok (.aload_n 0, 1) := by decide +kernel
theorem dX3_takeEntry_145 : decode cX3_takeEntry 145 = .ok (.getfield 44, 3) := by decide +kernel
theorem dX3_takeEntry_148 : decode cX3_takeEntry 148 = .ok (.iconst 1, 1) := by decide +kernel
theorem dX3_takeEntry_149 : decode cX3_takeEntry 149 = .ok (.isub, 1) := by decide +kernel
theorem dX3_takeEntry_150 : decode cX3_takeEntry 150 = .ok (.invokevirtual 77, 3) := by decide +kernel
theorem dX3_takeEntry_153 : decode cX3_takeEntry 153 = .ok (.iload_n 1, 1) := by decide +kernel
theorem dX3_takeEntry_154 : decode cX3_takeEntry 154 = .ok (.iload 5, 2) := by decide +kernel
theorem dX3_takeEntry_156 : decode cX3_takeEntry 156 = .ok (.iadd, 1) := by decide +kernel
theorem dX3_takeEntry_157 : decode cX3_takeEntry 157 = .ok (.ireturn, 1) := by decide +kernel
theorem dX3_kindOf_0 : decode cX3_kindOf 0 = .ok (.iload_n 0, 1) := by decide +kernel
theorem dX3_kindOf_1 : decode cX3_kindOf 1 = .ok (.bipush 63, 2) := by decide +kernel
theorem dX3_kindOf_3 : decode cX3_kindOf 3 = .ok (.if_icmp .ne 11, 3) := by decide +kernel
theorem dX3_kindOf_6 : decode cX3_kindOf 6 = .ok (.iload_n 1, 1) := by decide +kernel
theorem dX3_kindOf_7 : decode cX3_kindOf 7 = .ok (.bipush 65, 2) := by decide +kernel
theorem dX3_kindOf_9 : decode cX3_kindOf 9 = .ok (.if_icmp .ne 5, 3) := by decide +kernel
theorem dX3_kindOf_12 : decode cX3_kindOf 12 = .ok (.iconst 3, 1) := by decide +kernel
theorem dX3_kindOf_13 : decode cX3_kindOf 13 = .ok (.ireturn, 1) := by decide +kernel
theorem dX3_kindOf_14 : decode cX3_kindOf 14 = .ok (.iload_n 0, 1) := by decide +kernel
theorem dX3_kindOf_15 : decode cX3_kindOf 15 = .ok (.bipush 32, 2) := by decide +kernel
theorem dX3_kindOf_17 : decode cX3_kindOf 17 = .ok (.bipush 47, 2) := by decide +kernel
theorem dX3_kindOf_19 : decode cX3_kindOf 19 = .ok (.invokestatic 81, 3) := by decide +kernel
theorem dX3_kindOf_22 : decode cX3_kindOf 22 = .ok (.ifCond .eq 11, 3) := by decide +kernel
theorem dX3_kindOf_25 : decode cX3_kindOf 25 = .ok (.iload_n 1, 1) := by decide +kernel
theorem dX3_kindOf_26 : decode cX3_kindOf 26 = .ok (.bipush 43, 2) := by decide +kernel
theorem dX3_kindOf_28 : decode cX3_kindOf 28 = .ok (.if_icmp .ne 5, 3) := by decide +kernel
theorem dX3_kindOf_31 : decode cX3_kindOf 31 = .ok (.iconst 1, 1) := by decide +kernel
theorem dX3_kindOf_32 : decode cX3_kindOf 32 = .ok (.ireturn, 1) := by decide +kernel
theorem dX3_kindOf_33 : decode cX3_kindOf 33 = .ok (.iload_n 0, 1) := by decide +kernel
theorem dX3_kindOf_34 : decode cX3_kindOf 34 = .ok (.iconst 0, 1) := by decide +kernel
theorem dX3_kindOf_35 : decode cX3_kindOf 35 = .ok (.bipush 31, 2) := by decide +kernel
theorem dX3_kindOf_37 : decode cX3_kindOf 37 = .ok (.invokestatic 81, 3) := by decide +kernel
theorem dX3_kindOf_40 : decode cX3_kindOf 40 = .ok (.ifCond .ne 5, 3) := by decide +kernel
theorem dX3_kindOf_43 : decode cX3_kindOf 43 = .ok (.iconst (-1), 1) := by decide +kernel
theorem dX3_kindOf_44 : decode cX3_kindOf 44 = .ok (.ireturn, 1) := by decide +kernel
theorem dX3_kindOf_45 : decode cX3_kindOf 45 = .ok (.iload_n 1, 1) := by decide +kernel
theorem dX3_kindOf_46 : decode cX3_kindOf 46 = .ok (.bipush 16, 2) := by decide +kernel
theorem dX3_kindOf_48 : decode cX3_kindOf 48 = .ok (.bipush 20, 2) := by decide +kernel
theorem dX3_kindOf_50 : decode cX3_kindOf 50 = .ok (.invokestatic 81, 3) := by decide +kernel
theorem dX3_kindOf_53 : decode cX3_kindOf 53 = .ok (.ifCond .eq 5, 3) := by decide +kernel
theorem dX3_kindOf_56 : decode cX3_kindOf 56 = .ok (.iconst 0, 1) := by decide +kernel
theorem dX3_kindOf_57 : decode cX3_kindOf 57 = .ok (.ireturn, 1) := by decide +kernel
theorem dX3_kindOf_58 : decode cX3_kindOf 58 = .ok (.iload_n 1, 1) := by decide +kernel
theorem dX3_kindOf_59 : decode cX3_kindOf 59 = .ok (.bipush 48, 2) := by decide +kernel
theorem dX3_kindOf_61 : decode cX3_kindOf 61 = .ok (.bipush 52, 2) := by decide +kernel
theorem dX3_kindOf_63 : decode cX3_kindOf 63 = .ok (.invokestatic 81, 3) := by decide +kernel
theorem dX3_kindOf_66 : decode cX3_kindOf 66 = .ok (.ifCond .eq 7, 3) := by decide +kernel
theorem dX3_kindOf_69 : decode cX3_kindOf 69 = .ok (.iconst 2, 1) := by decide +kernel
theorem dX3_kindOf_70 : decode cX3_kindOf 70 = .ok (.goto 4, 3) := by decide +kernel
theorem dX3_kindOf_73 : decode cX3_kindOf 73 = .ok (.iconst (-1), 1) := by decide +kernel
theorem dX3_kindOf_74 : decode cX3_kindOf 74 = .ok (.ireturn, 1) := by decide +kernel
theorem dX3_sizeOf_0 : decode cX3_sizeOf 0 = .ok (.iload_n 0, 1) := by decide +kernel
theorem dX3_sizeOf_1 : decode cX3_sizeOf 1 = .ok (.tableswitch 44 0 2 #[27, 41, 34], 27) := by decide +kernel
theorem dX3_sizeOf_28 : decode cX3_sizeOf 28 = .ok (.iconst 3, 1) := by decide +kernel
theorem dX3_sizeOf_29 : decode cX3_sizeOf 29 = .ok (.iload_n 1, 1) := by decide +kernel
theorem dX3_sizeOf_30 : decode cX3_sizeOf 30 = .ok (.iadd, 1) := by decide +kernel
theorem dX3_sizeOf_31 : decode cX3_sizeOf 31 = .ok (.bipush 16, 2) := by decide +kernel
theorem dX3_sizeOf_33 : decode cX3_sizeOf 33 = .ok (.isub, 1) := by decide +kernel
theorem dX3_sizeOf_34 : decode cX3_sizeOf 34 = .ok (.ireturn, 1) := by decide +kernel
theorem dX3_sizeOf_35 : decode cX3_sizeOf 35 = .ok (.iconst 3, 1) := by decide +kernel
theorem dX3_sizeOf_36 : decode cX3_sizeOf 36 = .ok (.iload_n 1, 1) := by decide +kernel
theorem dX3_sizeOf_37 : decode cX3_sizeOf 37 = .ok (.iadd, 1) := by decide +kernel
theorem dX3_sizeOf_38 : decode cX3_sizeOf 38 = .ok (.bipush 48, 2) := by decide +kernel
theorem dX3_sizeOf_40 : decode cX3_sizeOf 40 = .ok (.isub, 1) := by decide +kernel
theorem dX3_sizeOf_41 : decode cX3_sizeOf 41 = .ok (.ireturn, 1) := by decide +kernel
theorem dX3_sizeOf_42 : decode cX3_sizeOf 42 = .ok (.bipush 14, 2) := by decide +kernel
theorem dX3_sizeOf_44 : decode cX3_sizeOf 44 = .ok (.ireturn, 1) := by decide +kernel
theorem dX3_sizeOf_45 : decode cX3_sizeOf 45 = .ok (.iconst 4, 1) := by decide +kernel
theorem dX3_sizeOf_46 : decode cX3_sizeOf 46 = .ok (.ireturn, 1) := by decide +kernel
theorem dX3_firstMark_0 : decode cX3_firstMark 0 = .ok (.iload_n 1, 1) := by decide +kernel
theorem dX3_firstMark_1 : decode cX3_firstMark 1 = .ok (.iconst 1, 1) := by decide +kernel
theorem dX3_firstMark_2 : decode cX3_firstMark 2 = .ok (.if_icmp .ne 8, 3) := by decide +kernel
theorem dX3_firstMark_5 : decode cX3_firstMark 5 = .ok (.bipush 6, 2) := by decide +kernel
theorem dX3_firstMark_7 : decode cX3_firstMark 7 = .ok (.goto 4, 3) := by decide +kernel
theorem dX3_firstMark_10 : decode cX3_firstMark 10 = .ok (.iload_n 3, 1) := by decide +kernel
theorem dX3_firstMark_11 : decode cX3_firstMark 11 = .ok (.iconst 1, 1) := by decide +kernel
theorem dX3_firstMark_12 : decode cX3_firstMark 12 = .ok (.isub, 1) := by decide +kernel
theorem dX3_firstMark_13 : decode cX3_firstMark 13 = .ok (.istore 4, 2) := by decide +kernel
theorem dX3_firstMark_15 : decode cX3_firstMark 15 = .ok (.iconst 0, 1) := by decide +kernel
theorem dX3_firstMark_16 : decode cX3_firstMark 16 = .ok (.istore 5, 2) := by decide +kernel
theorem dX3_firstMark_18 : decode cX3_firstMark 18 = .ok (.iconst 0, 1) := by decide +kernel
theorem dX3_firstMark_19 : decode cX3_firstMark 19 = .ok (.istore 6, 2) := by decide +kernel
theorem dX3_firstMark_21 : decode cX3_firstMark 21 = .ok (.iload 6, 2) := by decide +kernel
theorem dX3_firstMark_23 : decode cX3_firstMark 23 = .ok (.iload 4, 2) := by decide +kernel
theorem dX3_firstMark_25 : decode cX3_firstMark 25 = .ok (.if_icmp .ge 22, 3) := by decide +kernel
theorem dX3_firstMark_28 : decode cX3_firstMark 28 = .ok (.iload 5, 2) := by decide +kernel
theorem dX3_firstMark_30 : decode cX3_firstMark 30 = .ok (.aload_n 0, 1) := by decide +kernel
theorem dX3_firstMark_31 : decode cX3_firstMark 31 = .ok (.iload_n 2, 1) := by decide +kernel
theorem dX3_firstMark_32 : decode cX3_firstMark 32 = .ok (.iload 6, 2) := by decide +kernel
theorem dX3_firstMark_34 : decode cX3_firstMark 34 = .ok (.iadd, 1) := by decide +kernel
theorem dX3_firstMark_35 : decode cX3_firstMark 35 = .ok (.invokevirtual 63, 3) := by decide +kernel
theorem dX3_firstMark_38 : decode cX3_firstMark 38 = .ok (.iadd, 1) := by decide +kernel
theorem dX3_firstMark_39 : decode cX3_firstMark 39 = .ok (.istore 5, 2) := by decide +kernel
theorem dX3_firstMark_41 : decode cX3_firstMark 41 = .ok (.iinc 6 1, 3) := by decide +kernel
theorem dX3_firstMark_44 : decode cX3_firstMark 44 = .ok (.goto (-23), 3) := by decide +kernel
theorem dX3_firstMark_47 : decode cX3_firstMark 47 = .ok (.aload_n 0, 1) := by decide +kernel
theorem dX3_firstMark_48 : decode cX3_firstMark 48 = .ok (.iload_n 2, 1) := by decide +kernel
theorem dX3_firstMark_49 : decode cX3_firstMark 49 = .ok (.iload 4, 2) := by decide +kernel
theorem dX3_firstMark_51 : decode cX3_firstMark 51 = .ok (.iadd, 1) := by decide +kernel
theorem dX3_firstMark_52 : decode cX3_firstMark 52 = .ok (.invokevirtual 63, 3) := by decide +kernel
theorem dX3_firstMark_55 : decode cX3_firstMark 55 = .ok (.iload 5, 2) := by decide +kernel
theorem dX3_firstMark_57 : decode cX3_firstMark 57 = .ok (.invokestatic 85, 3) := by decide +kernel
theorem dX3_firstMark_60 : decode cX3_firstMark 60 = .ok (.if_icmp .eq 5, 3) := by decide +kernel
theorem dX3_firstMark_63 : decode cX3_firstMark 63 = .ok (.iconst 2, 1) := by decide +kernel
theorem dX3_firstMark_64 : decode cX3_firstMark 64 = .ok (.ireturn, 1) := by decide +kernel
theorem dX3_firstMark_65 : decode cX3_firstMark 65 = .ok (.iload_n 1, 1) := by decide +kernel
theorem dX3_firstMark_66 : decode cX3_firstMark 66 = .ok (.iconst 2, 1) := by decide +kernel
theorem dX3_firstMark_67 : decode cX3_firstMark 67 = .ok (.if_icmp .eq 8, 3) := by decide +kernel
theorem dX3_firstMark_70 : decode cX3_firstMark 70 = .ok (.iload_n 1, 1) := by decide +kernel
theorem dX3_firstMark_71 : decode cX3_firstMark 71 = .ok (.iconst 3, 1) := by decide +kernel
theorem dX3_firstMark_72 : decode cX3_firstMark 72 = .ok (.if_icmp .ne 7, 3) := by decide +kernel
theorem dX3_firstMark_75 : decode cX3_firstMark 75 = .ok (.iconst 3, 1) := by decide +kernel
theorem dX3_firstMark_76 : decode cX3_firstMark 76 = .ok (.goto 4, 3) := by decide +kernel
theorem dX3_firstMark_79 : decode cX3_firstMark 79 = .ok (.iconst 1, 1) := by decide +kernel
theorem dX3_firstMark_80 : decode cX3_firstMark 80 = .ok (.ireturn, 1) := by decide +kernel
theorem dX3_settleParts_0 : decode cX3_settleParts 0 = .ok (.aload_n 0, 1) := by decide +kernel
theorem dX3_settleParts_1 : decode cX3_settleParts 1 = .ok (.iload_n 1, 1) := by decide +kernel
theorem dX3_settleParts_2 : decode cX3_settleParts 2 = .ok (.invokevirtual 88, 3) := by decide +kernel
theorem dX3_settleParts_5 : decode cX3_settleParts 5 = .ok (.ifCond .eq 13, 3) := by decide +kernel
theorem dX3_settleParts_8 : decode cX3_settleParts 8 = .ok (.aload_n 0, 1) := by decide +kernel
theorem dX3_settleParts_9 : decode cX3_settleParts 9 = .ok (.getfield 27, 3) := by decide +kernel
theorem dX3_settleParts_12 : decode cX3_settleParts 12 = .ok (.iload_n 1, 1) := by decide +kernel
theorem dX3_settleParts_13 : decode cX3_settleParts 13 = .ok (.iaload, 1) := by decide +kernel
theorem dX3_settleParts_14 : decode cX3_settleParts 14 = .ok (.iconst 2, 1) := by decide +kernel
theorem dX3_settleParts_15 : decode cX3_settleParts 15 = .ok (.if_icmp .ne 4, 3) := by decide +kernel
theorem dX3_settleParts_18 : decode cX3_settleParts 18 = .ok (.return_, 1) := by decide +kernel
theorem dX3_settleParts_19 : decode cX3_settleParts 19 = .ok (.aload_n 0, 1) := by decide +kernel
theorem dX3_settleParts_20 : decode cX3_settleParts 20 = .ok (.aload_n 0, 1) := by decide +kernel
theorem dX3_settleParts_21 : decode cX3_settleParts 21 = .ok (.getfield 15, 3) := by decide +kernel
theorem dX3_settleParts_24 : decode cX3_settleParts 24 = .ok (.iload_n 1, 1) := by decide +kernel
theorem dX3_settleParts_25 : decode cX3_settleParts 25 = .ok (.iaload, 1) := by decide +kernel
theorem dX3_settleParts_26 : decode cX3_settleParts 26 = .ok (.iconst 2, 1) := by decide +kernel
theorem dX3_settleParts_27 : decode cX3_settleParts 27 = .ok (.iadd, 1) := by decide +kernel
theorem dX3_settleParts_28 : decode cX3_settleParts 28 = .ok (.invokevirtual 63, 3) := by decide +kernel
theorem dX3_settleParts_31 : decode cX3_settleParts 31 = .ok (.istore_n 2, 1) := by decide +kernel
theorem dX3_settleParts_32 : decode cX3_settleParts 32 = .ok (.iload_n 2, 1) := by decide +kernel
theorem dX3_settleParts_33 : decode cX3_settleParts 33 = .ok (.iconst 1, 1) := by decide +kernel
theorem dX3_settleParts_34 : decode cX3_settleParts 34 = .ok (.bipush 8, 2) := by decide +kernel
theorem dX3_settleParts_36 : decode cX3_settleParts 36 = .ok (.invokestatic 81, 3) := by decide +kernel
theorem dX3_settleParts_39 : decode cX3_settleParts 39 = .ok (.ifCond .eq 8, 3) := by decide +kernel
theorem dX3_settleParts_42 : decode cX3_settleParts 42 = .ok (.iload_n 2, 1) := by decide +kernel
theorem dX3_settleParts_43 : decode cX3_settleParts 43 = .ok (.iload_n 1, 1) := by decide +kernel
theorem dX3_settleParts_44 : decode cX3_settleParts 44 = .ok (.if_icmp .le 4, 3) := by decide +kernel
theorem dX3_settleParts_47 : decode cX3_settleParts 47 = .ok (.return_, 1) := by decide +kernel
theorem dX3_settleParts_48 : decode cX3_settleParts 48 = .ok (.iload_n 1, 1) := by decide +kernel
theorem dX3_settleParts_49 : decode cX3_settleParts 49 = .ok (.iload_n 2, 1) := by decide +kernel
theorem dX3_settleParts_50 : decode cX3_settleParts 50 = .ok (.isub, 1) := by decide +kernel
theorem dX3_settleParts_51 : decode cX3_settleParts 51 = .ok (.istore_n 3, 1) := by decide +kernel
theorem dX3_settleParts_52 : decode cX3_settleParts 52 = .ok (.iload_n 3, 1) := by decide +kernel
theorem dX3_settleParts_53 : decode cX3_settleParts 53 = .ok (.iload_n 1, 1) := by decide +kernel
theorem dX3_settleParts_54 : decode cX3_settleParts 54 = .ok (.if_icmp .ge 30, 3) := by decide +kernel
theorem dX3_settleParts_57 : decode cX3_settleParts 57 = .ok (.aload_n 0, 1) := by decide +kernel
theorem dX3_settleParts_58 : decode cX3_settleParts 58 = .ok (.getfield 18, 3) := by decide +kernel
theorem dX3_settleParts_61 : decode cX3_settleParts 61 = .ok (.iload_n 3, 1) := by decide +kernel
theorem dX3_settleParts_62 : decode cX3_settleParts 62 = .ok (.iaload, 1) := by decide +kernel
theorem dX3_settleParts_63 : decode cX3_settleParts 63 = .ok (.iconst 2, 1) := by decide +kernel
theorem dX3_settleParts_64 : decode cX3_settleParts 64 = .ok (.if_icmp .ne 13, 3) := by decide +kernel
theorem dX3_settleParts_67 : decode cX3_settleParts 67 = .ok (.aload_n 0, 1) := by decide +kernel
theorem dX3_settleParts_68 : decode cX3_settleParts 68 = .ok (.getfield 27, 3) := by decide +kernel
theorem dX3_settleParts_71 : decode cX3_settleParts 71 = .ok (.iload_n 3, 1) := by decide +kernel
theorem dX3_settleParts_72 : decode cX3_settleParts 72 = .ok (.iaload, 1) := by decide +kernel
theorem dX3_settleParts_73 : decode cX3_settleParts 73 = .ok (.iconst 2, 1) := by decide +kernel
theorem dX3_settleParts_74 : decode cX3_settleParts 74 = .ok (.if_icmp .ne 4, 3) := by decide +kernel
theorem dX3_settleParts_77 : decode cX3_settleParts 77 = .ok (.return_, 1) := by decide +kernel
theorem dX3_settleParts_78 : decode cX3_settleParts 78 = .ok (.iinc 3 1, 3) := by decide +kernel
theorem dX3_settleParts_81 : decode cX3_settleParts 81 = .ok (.goto (-29), 3) := by decide +kernel
theorem dX3_settleParts_84 : decode cX3_settleParts 84 = .ok (.iload_n 1, 1) := by decide +kernel
theorem dX3_settleParts_85 : decode cX3_settleParts 85 = .ok (.iload_n 2, 1) := by decide +kernel
theorem dX3_settleParts_86 : decode cX3_settleParts 86 = .ok (.isub, 1) := by decide +kernel
theorem dX3_settleParts_87 : decode cX3_settleParts 87 = .ok (.istore_n 3, 1) := by decide +kernel
theorem dX3_settleParts_88 : decode cX3_settleParts 88 = .ok (.iload_n 3, 1) := by decide +kernel
theorem dX3_settleParts_89 : decode cX3_settleParts 89 = .ok (.iload_n 1, 1) := by decide +kernel
theorem dX3_settleParts_90 : decode cX3_settleParts 90 = .ok (.if_icmp .ge 16, 3) := by decide +kernel
theorem dX3_settleParts_93 : decode cX3_settleParts 93 = .ok (.aload_n 0, 1) := by decide +kernel
theorem dX3_settleParts_94 : decode cX3_settleParts 94 = .ok (.getfield 27, 3) := by decide +kernel
theorem dX3_settleParts_97 : decode cX3_settleParts 97 = .ok (.iload_n 3, 1) := by decide +kernel
theorem dX3_settleParts_98 : decode cX3_settleParts 98 = .ok (.iconst 1, 1) := by decide +kernel
theorem dX3_settleParts_99 : decode cX3_settleParts 99 = .ok (.iastore, 1) := by decide +kernel
theorem dX3_settleParts_100 : decode cX3_settleParts 100 = .ok (.iinc 3 1, 3) := by decide +kernel
theorem dX3_settleParts_103 : decode cX3_settleParts 103 = .ok (.goto (-15), 3) := by decide +kernel
theorem dX3_settleParts_106 : decode cX3_settleParts 106 = .ok (.aload_n 0, 1) := by decide +kernel
theorem dX3_settleParts_107 : decode cX3_settleParts 107 = .ok (.getfield 27, 3) := by decide +kernel
theorem dX3_settleParts_110 : decode cX3_settleParts 110 = .ok (.iload_n 1, 1) := by decide +kernel
theorem dX3_settleParts_111 : decode cX3_settleParts 111 = .ok (.iconst 0, 1) := by decide +kernel
theorem dX3_settleParts_112 : decode cX3_settleParts 112 = .ok (.iastore, 1) := by decide +kernel
theorem dX3_settleParts_113 : decode cX3_settleParts 113 = .ok (.return_, 1) := by decide +kernel
theorem dX3_markNewest_0 : decode cX3_markNewest 0 = .ok (.aload_n 0, 1) := by decide +kernel
theorem dX3_markNewest_1 : decode cX3_markNewest 1 = .ok (.getfield 30, 3) := by decide +kernel
theorem dX3_markNewest_4 : decode cX3_markNewest 4 = .ok (.iconst (-1), 1) := by decide +kernel
theorem dX3_markNewest_5 : decode cX3_markNewest 5 = .ok (.invokestatic 92, 3) := by decide +kernel
theorem dX3_markNewest_8 : decode cX3_markNewest 8 = .ok (.iconst 0, 1) := by decide +kernel
theorem dX3_markNewest_9 : decode cX3_markNewest 9 = .ok (.istore_n 1, 1) := by decide +kernel
theorem dX3_markNewest_10 : decode cX3_markNewest 10 = .ok (.iload_n 1, 1) := by decide +kernel
theorem dX3_markNewest_11 : decode cX3_markNewest 11 = .ok (.aload_n 0, 1) := by decide +kernel
theorem dX3_markNewest_12 : decode cX3_markNewest 12 = .ok (.getfield 44, 3) := by decide +kernel
theorem dX3_markNewest_15 : decode cX3_markNewest 15 = .ok (.if_icmp .ge 43, 3) := by decide +kernel
theorem dX3_markNewest_18 : decode cX3_markNewest 18 = .ok (.aload_n 0, 1) := by decide +kernel
theorem dX3_markNewest_19 : decode cX3_markNewest 19 = .ok (.getfield 27, 3) := by decide +kernel
theorem dX3_markNewest_22 : decode cX3_markNewest 22 = .ok (.iload_n 1, 1) := by decide +kernel
theorem dX3_markNewest_23 : decode cX3_markNewest 23 = .ok (.iaload, 1) := by decide +kernel
theorem dX3_markNewest_24 : decode cX3_markNewest 24 = .ok (.iconst 1, 1) := by decide +kernel
theorem dX3_markNewest_25 : decode cX3_markNewest 25 = .ok (.if_icmp .ne 27, 3) := by decide +kernel
theorem dX3_markNewest_28 : decode cX3_markNewest 28 = .ok (.aload_n 0, 1) := by decide +kernel
theorem dX3_markNewest_29 : decode cX3_markNewest 29 = .ok (.getfield 21, 3) := by decide +kernel
theorem dX3_markNewest_32 : decode cX3_markNewest 32 = .ok (.iload_n 1, 1) := by decide +kernel
theorem dX3_markNewest_33 : decode cX3_markNewest 33 = .ok (.iaload, 1) := by decide +kernel
theorem dX3_markNewest_34 : decode cX3_markNewest 34 = .ok (.invokestatic 98, 3) := by decide +kernel
theorem dX3_markNewest_37 : decode cX3_markNewest 37 = .ok (.ifCond .eq 15, 3) := by decide +kernel
theorem dX3_markNewest_40 : decode cX3_markNewest 40 = .ok (.aload_n 0, 1) := by decide +kernel
theorem dX3_markNewest_41 : decode cX3_markNewest 41 = .ok (.getfield 30, 3) := by decide +kernel
theorem dX3_markNewest_44 : decode cX3_markNewest 44 = .ok (.aload_n 0, 1) := by decide +kernel
theorem dX3_markNewest_45 : decode cX3_markNewest 45 = .ok (.getfield 21, 3) := by decide +kernel
theorem dX3_markNewest_48 : decode cX3_markNewest 48 = .ok (.iload_n 1, 1) := by decide +kernel
theorem dX3_markNewest_49 : decode cX3_markNewest 49 = .ok (.iaload, 1) := by decide +kernel
theorem dX3_markNewest_50 : decode cX3_markNewest 50 = .ok (.iload_n 1, 1) := by decide +kernel
theorem dX3_markNewest_51 : decode cX3_markNewest 51 = .ok (.iastore, 1) := by decide +kernel
theorem dX3_markNewest_52 : decode cX3_markNewest 52 = .ok (.iinc 1 1, 3) := by decide +kernel
theorem dX3_markNewest_55 : decode cX3_markNewest 55 = .ok (.goto (-45), 3) := by decide +kernel
theorem dX3_markNewest_58 : decode cX3_markNewest 58 = .ok (.iconst 0, 1) := by decide +kernel
theorem dX3_markNewest_59 : decode cX3_markNewest 59 = .ok (.istore_n 1, 1) := by decide +kernel
theorem dX3_markNewest_60 : decode cX3_markNewest 60 = .ok (.iload_n 1, 1) := by decide +kernel
theorem dX3_markNewest_61 : decode cX3_markNewest 61 = .ok (.bipush 48, 2) := by decide +kernel
theorem dX3_markNewest_63 : decode cX3_markNewest 63 = .ok (.if_icmp .ge 34, 3) := by decide +kernel
theorem dX3_markNewest_66 : decode cX3_markNewest 66 = .ok (.aload_n 0, 1) := by decide +kernel
theorem dX3_markNewest_67 : decode cX3_markNewest 67 = .ok (.aload_n 0, 1) := by decide +kernel
theorem dX3_markNewest_68 : decode cX3_markNewest 68 = .ok (.getfield 30, 3) := by decide +kernel
theorem dX3_markNewest_71 : decode cX3_markNewest 71 = .ok (.iload_n 1, 1) := by decide +kernel
theorem dX3_markNewest_72 : decode cX3_markNewest 72 = .ok (.iaload, 1) := by decide +kernel
theorem dX3_markNewest_73 : decode cX3_markNewest 73 = .ok (.invokevirtual 88, 3) := by decide +kernel
theorem dX3_markNewest_76 : decode cX3_markNewest 76 = .ok (.ifCond .eq 15, 3) := by decide +kernel
theorem dX3_markNewest_79 : decode cX3_markNewest 79 = .ok (.aload_n 0, 1) := by decide +kernel
theorem dX3_markNewest_80 : decode cX3_markNewest 80 = .ok (.getfield 27, 3) := by decide +kernel
theorem dX3_markNewest_83 : decode cX3_markNewest 83 = .ok (.aload_n 0, 1) := by decide +kernel
theorem dX3_markNewest_84 : decode cX3_markNewest 84 = .ok (.getfield 30, 3) := by decide +kernel
theorem dX3_markNewest_87 : decode cX3_markNewest 87 = .ok (.iload_n 1, 1) := by decide +kernel
theorem dX3_markNewest_88 : decode cX3_markNewest 88 = .ok (.iaload, 1) := by decide +kernel
theorem dX3_markNewest_89 : decode cX3_markNewest 89 = .ok (.iconst 0, 1) := by decide +kernel
theorem dX3_markNewest_90 : decode cX3_markNewest 90 = .ok (.iastore, 1) := by decide +kernel
theorem dX3_markNewest_91 : decode cX3_markNewest 91 = .ok (.iinc 1 1, 3) := by decide +kernel
theorem dX3_markNewest_94 : decode cX3_markNewest 94 = .ok (.goto (-34), 3) := by decide +kernel
theorem dX3_markNewest_97 : decode cX3_markNewest 97 = .ok (.return_, 1) := by decide +kernel
theorem dX3_byteAt_0 : decode cX3_byteAt 0 = .ok (.iload_n 1, 1) := by decide +kernel
theorem dX3_byteAt_1 : decode cX3_byteAt 1 = .ok (.ifCond .lt 29, 3) := by decide +kernel
theorem dX3_byteAt_4 : decode cX3_byteAt 4 = .ok (.iload_n 1, 1) := by decide +kernel
theorem dX3_byteAt_5 : decode cX3_byteAt 5 = .ok (.aload_n 0, 1) := by decide +kernel
theorem dX3_byteAt_6 : decode cX3_byteAt 6 = .ok (.getfield 39, 3) := by decide +kernel
theorem dX3_byteAt_9 : decode cX3_byteAt 9 = .ok (.if_icmp .ge 21, 3) := by decide +kernel
theorem dX3_byteAt_12 : decode cX3_byteAt 12 = .ok (.iload_n 1, 1) := by decide +kernel
theorem dX3_byteAt_13 : decode cX3_byteAt 13 = .ok (.aload_n 0, 1) := by decide +kernel
theorem dX3_byteAt_14 : decode cX3_byteAt 14 = .ok (.getfield 9, 3) := by decide +kernel
theorem dX3_byteAt_17 : decode cX3_byteAt 17 = .ok (.arraylength, 1) := by decide +kernel
theorem dX3_byteAt_18 : decode cX3_byteAt 18 = .ok (.if_icmp .ge 12, 3) := by decide +kernel
theorem dX3_byteAt_21 : decode cX3_byteAt 21 = .ok (.aload_n 0, 1) := by decide +kernel
theorem dX3_byteAt_22 : decode cX3_byteAt 22 = .ok (.getfield 9, 3) := by decide +kernel
theorem dX3_byteAt_25 : decode cX3_byteAt 25 = .ok (.iload_n 1, 1) := by decide +kernel
theorem dX3_byteAt_26 : decode cX3_byteAt 26 = .ok (.iaload, 1) := by decide +kernel
theorem dX3_byteAt_27 : decode cX3_byteAt 27 = .ok (.goto 6, 3) := by decide +kernel
theorem dX3_byteAt_30 : decode cX3_byteAt 30 = .ok (.sipush 255, 3) := by decide +kernel
theorem dX3_byteAt_33 : decode cX3_byteAt 33 = .ok (.ireturn, 1) := by decide +kernel
theorem dX3_has_0 : decode cX3_has 0 = .ok (.iload_n 1, 1) := by decide +kernel
theorem dX3_has_1 : decode cX3_has 1 = .ok (.ifCond .lt 15, 3) := by decide +kernel
theorem dX3_has_4 : decode cX3_has 4 = .ok (.iload_n 1, 1) := by decide +kernel
theorem dX3_has_5 : decode cX3_has 5 = .ok (.aload_n 0, 1) := by decide +kernel
theorem dX3_has_6 : decode cX3_has 6 = .ok (.getfield 44, 3) := by decide +kernel
theorem dX3_has_9 : decode cX3_has 9 = .ok (.if_icmp .ge 7, 3) := by decide +kernel
theorem dX3_has_12 : decode cX3_has 12 = .ok (.iconst 1, 1) := by decide +kernel
theorem dX3_has_13 : decode cX3_has 13 = .ok (.goto 4, 3) := by decide +kernel
theorem dX3_has_16 : decode cX3_has 16 = .ok (.iconst 0, 1) := by decide +kernel
theorem dX3_has_17 : decode cX3_has 17 = .ok (.ireturn, 1) := by decide +kernel
theorem dX3_tell_0 : decode cX3_tell 0 = .ok (.aload_n 0, 1) := by decide +kernel
theorem dX3_tell_1 : decode cX3_tell 1 = .ok (.iload_n 1, 1) := by decide +kernel
theorem dX3_tell_2 : decode cX3_tell 2 = .ok (.invokevirtual 88, 3) := by decide +kernel
theorem dX3_tell_5 : decode cX3_tell 5 = .ok (.ifCond .ne 5, 3) := by decide +kernel
theorem dX3_tell_8 : decode cX3_tell 8 = .ok (.iconst (-1), 1) := by decide +kernel
theorem dX3_tell_9 : decode cX3_tell 9 = .ok (.ireturn, 1) := by decide +kernel
theorem dX3_tell_10 : decode cX3_tell 10 = .ok (.iload_n 2, 1) := by decide +kernel
theorem dX3_tell_11 : decode cX3_tell 11 = .ok (.tableswitch 68 0 4 #[33, 40, 47, 54, 61], 33) := by decide +kernel
theorem dX3_tell_44 : decode cX3_tell 44 = .ok (.aload_n 0, 1) := by decide +kernel
theorem dX3_tell_45 : decode cX3_tell 45 = .ok (.getfield 15, 3) := by decide +kernel
theorem dX3_tell_48 : decode cX3_tell 48 = .ok (.iload_n 1, 1) := by decide +kernel
theorem dX3_tell_49 : decode cX3_tell 49 = .ok (.iaload, 1) := by decide +kernel
theorem dX3_tell_50 : decode cX3_tell 50 = .ok (.ireturn, 1) := by decide +kernel
theorem dX3_tell_51 : decode cX3_tell 51 = .ok (.aload_n 0, 1) := by decide +kernel
theorem dX3_tell_52 : decode cX3_tell 52 = .ok (.getfield 21, 3) := by decide +kernel
theorem dX3_tell_55 : decode cX3_tell 55 = .ok (.iload_n 1, 1) := by decide +kernel
theorem dX3_tell_56 : decode cX3_tell 56 = .ok (.iaload, 1) := by decide +kernel
theorem dX3_tell_57 : decode cX3_tell 57 = .ok (.ireturn, 1) := by decide +kernel
theorem dX3_tell_58 : decode cX3_tell 58 = .ok (.aload_n 0, 1) := by decide +kernel
theorem dX3_tell_59 : decode cX3_tell 59 = .ok (.getfield 18, 3) := by decide +kernel
theorem dX3_tell_62 : decode cX3_tell 62 = .ok (.iload_n 1, 1) := by decide +kernel
theorem dX3_tell_63 : decode cX3_tell 63 = .ok (.iaload, 1) := by decide +kernel
theorem dX3_tell_64 : decode cX3_tell 64 = .ok (.ireturn, 1) := by decide +kernel
theorem dX3_tell_65 : decode cX3_tell 65 = .ok (.aload_n 0, 1) := by decide +kernel
theorem dX3_tell_66 : decode cX3_tell 66 = .ok (.getfield 24, 3) := by decide +kernel
theorem dX3_tell_69 : decode cX3_tell 69 = .ok (.iload_n 1, 1) := by decide +kernel
theorem dX3_tell_70 : decode cX3_tell 70 = .ok (.iaload, 1) := by decide +kernel
theorem dX3_tell_71 : decode cX3_tell 71 = .ok (.ireturn, 1) := by decide +kernel
theorem dX3_tell_72 : decode cX3_tell 72 = .ok (.aload_n 0, 1) := by decide +kernel
theorem dX3_tell_73 : decode cX3_tell 73 = .ok (.getfield 27, 3) := by decide +kernel
theorem dX3_tell_76 : decode cX3_tell 76 = .ok (.iload_n 1, 1) := by decide +kernel
theorem dX3_tell_77 : decode cX3_tell 77 = .ok (.iaload, 1) := by decide +kernel
theorem dX3_tell_78 : decode cX3_tell 78 = .ok (.ireturn, 1) := by decide +kernel
theorem dX3_tell_79 : decode cX3_tell 79 = .ok (.iconst (-1), 1) := by decide +kernel
theorem dX3_tell_80 : decode cX3_tell 80 = .ok (.ireturn, 1) := by decide +kernel
theorem dX3_freeBytes_0 : decode cX3_freeBytes 0 = .ok (.aload_n 0, 1) := by decide +kernel
theorem dX3_freeBytes_1 : decode cX3_freeBytes 1 = .ok (.getfield 39, 3) := by decide +kernel
theorem dX3_freeBytes_4 : decode cX3_freeBytes 4 = .ok (.aload_n 0, 1) := by decide +kernel
theorem dX3_freeBytes_5 : decode cX3_freeBytes 5 = .ok (.getfield 57, 3) := by decide +kernel
theorem dX3_freeBytes_8 : decode cX3_freeBytes 8 = .ok (.isub, 1) := by decide +kernel
theorem dX3_freeBytes_9 : decode cX3_freeBytes 9 = .ok (.ireturn, 1) := by decide +kernel
theorem dX3_freeBehindHandover_0 : decode cX3_freeBehindHandover 0 = .ok (.aload_n 0, 1) := by decide +kernel
theorem dX3_freeBehindHandover_1 : decode cX3_freeBehindHandover 1 = .ok (.getfield 39, 3) := by decide +kernel
theorem dX3_freeBehindHandover_4 : decode cX3_freeBehindHandover 4 = .ok (.iconst 4, 1) := by decide +kernel
theorem dX3_freeBehindHandover_5 : decode cX3_freeBehindHandover 5 = .ok (.isub, 1) := by decide +kernel
theorem dX3_freeBehindHandover_6 : decode cX3_freeBehindHandover 6 = .ok (.aload_n 0, 1) := by decide +kernel
theorem dX3_freeBehindHandover_7 : decode cX3_freeBehindHandover 7 = .ok (.invokevirtual 101, 3) := by decide +kernel
theorem dX3_freeBehindHandover_10 : decode cX3_freeBehindHandover 10 = .ok (.isub, 1) := by decide +kernel
theorem dX3_freeBehindHandover_11 : decode cX3_freeBehindHandover 11 = .ok (.ireturn, 1) := by decide +kernel
theorem dX3_newestOf_0 : decode cX3_newestOf 0 = .ok (.iload_n 1, 1) := by decide +kernel
theorem dX3_newestOf_1 : decode cX3_newestOf 1 = .ok (.ifCond .lt 21, 3) := by decide +kernel
theorem dX3_newestOf_4 : decode cX3_newestOf 4 = .ok (.iload_n 1, 1) := by decide +kernel
theorem dX3_newestOf_5 : decode cX3_newestOf 5 = .ok (.aload_n 0, 1) := by decide +kernel
theorem dX3_newestOf_6 : decode cX3_newestOf 6 = .ok (.getfield 30, 3) := by decide +kernel
theorem dX3_newestOf_9 : decode cX3_newestOf 9 = .ok (.arraylength, 1) := by decide +kernel
theorem dX3_newestOf_10 : decode cX3_newestOf 10 = .ok (.if_icmp .ge 12, 3) := by decide +kernel
theorem dX3_newestOf_13 : decode cX3_newestOf 13 = .ok (.aload_n 0, 1) := by decide +kernel
theorem dX3_newestOf_14 : decode cX3_newestOf 14 = .ok (.getfield 30, 3) := by decide +kernel
theorem dX3_newestOf_17 : decode cX3_newestOf 17 = .ok (.iload_n 1, 1) := by decide +kernel
theorem dX3_newestOf_18 : decode cX3_newestOf 18 = .ok (.iaload, 1) := by decide +kernel
theorem dX3_newestOf_19 : decode cX3_newestOf 19 = .ok (.goto 4, 3) := by decide +kernel
theorem dX3_newestOf_22 : decode cX3_newestOf 22 = .ok (.iconst (-1), 1) := by decide +kernel
theorem dX3_newestOf_23 : decode cX3_newestOf 23 = .ok (.ireturn, 1) := by decide +kernel
theorem dX3_hasValue_0 : decode cX3_hasValue 0 = .ok (.aload_n 0, 1) := by decide +kernel
theorem dX3_hasValue_1 : decode cX3_hasValue 1 = .ok (.iload_n 1, 1) := by decide +kernel
theorem dX3_hasValue_2 : decode cX3_hasValue 2 = .ok (.invokevirtual 105, 3) := by decide +kernel
theorem dX3_hasValue_5 : decode cX3_hasValue 5 = .ok (.ifCond .le 7, 3) := by decide +kernel
theorem dX3_hasValue_8 : decode cX3_hasValue 8 = .ok (.iconst 1, 1) := by decide +kernel
theorem dX3_hasValue_9 : decode cX3_hasValue 9 = .ok (.goto 4, 3) := by decide +kernel
theorem dX3_hasValue_12 : decode cX3_hasValue 12 = .ok (.iconst 0, 1) := by decide +kernel
theorem dX3_hasValue_13 : decode cX3_hasValue 13 = .ok (.ireturn, 1) := by decide +kernel
theorem dX3_valuedSize_0 : decode cX3_valuedSize 0 = .ok (.aload_n 0, 1) := by decide +kernel
theorem dX3_valuedSize_1 : decode cX3_valuedSize 1 = .ok (.iload_n 1, 1) := by decide +kernel
theorem dX3_valuedSize_2 : decode cX3_valuedSize 2 = .ok (.invokevirtual 108, 3) := by decide +kernel
theorem dX3_valuedSize_5 : decode cX3_valuedSize 5 = .ok (.istore_n 2, 1) := by decide +kernel
theorem dX3_valuedSize_6 : decode cX3_valuedSize 6 = .ok (.aload_n 0, 1) := by decide +kernel
theorem dX3_valuedSize_7 : decode cX3_valuedSize 7 = .ok (.iload_n 2, 1) := by decide +kernel
theorem dX3_valuedSize_8 : decode cX3_valuedSize 8 = .ok (.invokevirtual 88, 3) := by decide +kernel
theorem dX3_valuedSize_11 : decode cX3_valuedSize 11 = .ok (.ifCond .eq 22, 3) := by decide +kernel
theorem dX3_valuedSize_14 : decode cX3_valuedSize 14 = .ok (.aload_n 0, 1) := by decide +kernel
theorem dX3_valuedSize_15 : decode cX3_valuedSize 15 = .ok (.getfield 24, 3) := by decide +kernel
theorem dX3_valuedSize_18 : decode cX3_valuedSize 18 = .ok (.iload_n 2, 1) := by decide +kernel
theorem dX3_valuedSize_19 : decode cX3_valuedSize 19 = .ok (.iaload, 1) := by decide +kernel
theorem dX3_valuedSize_20 : decode cX3_valuedSize 20 = .ok (.iconst 3, 1) := by decide +kernel
theorem dX3_valuedSize_21 : decode cX3_valuedSize 21 = .ok (.if_icmp .le 12, 3) := by decide +kernel
theorem dX3_valuedSize_24 : decode cX3_valuedSize 24 = .ok (.aload_n 0, 1) := by decide +kernel
theorem dX3_valuedSize_25 : decode cX3_valuedSize 25 = .ok (.getfield 24, 3) := by decide +kernel
theorem dX3_valuedSize_28 : decode cX3_valuedSize 28 = .ok (.iload_n 2, 1) := by decide +kernel
theorem dX3_valuedSize_29 : decode cX3_valuedSize 29 = .ok (.iaload, 1) := by decide +kernel
theorem dX3_valuedSize_30 : decode cX3_valuedSize 30 = .ok (.goto 4, 3) := by decide +kernel
theorem dX3_valuedSize_33 : decode cX3_valuedSize 33 = .ok (.iconst 0, 1) := by decide +kernel
theorem dX3_valuedSize_34 : decode cX3_valuedSize 34 = .ok (.ireturn, 1) := by decide +kernel
theorem dX3_newestValue_0 : decode cX3_newestValue 0 = .ok (.aload_n 0, 1) := by decide +kernel
theorem dX3_newestValue_1 : decode cX3_newestValue 1 = .ok (.aload_n 0, 1) := by decide +kernel
theorem dX3_newestValue_2 : decode cX3_newestValue 2 = .ok (.iload_n 1, 1) := by decide +kernel
theorem dX3_newestValue_3 : decode cX3_newestValue 3 = .ok (.invokevirtual 108, 3) := by decide +kernel
theorem dX3_newestValue_6 : decode cX3_newestValue 6 = .ok (.invokevirtual 111, 3) := by decide +kernel
theorem dX3_newestValue_9 : decode cX3_newestValue 9 = .ok (.lreturn, 1) := by decide +kernel
theorem dX3_newestLength_0 : decode cX3_newestLength 0 = .ok (.aload_n 0, 1) := by decide +kernel
theorem dX3_newestLength_1 : decode cX3_newestLength 1 = .ok (.iload_n 1, 1) := by decide +kernel
theorem dX3_newestLength_2 : decode cX3_newestLength 2 = .ok (.invokevirtual 108, 3) := by decide +kernel
theorem dX3_newestLength_5 : decode cX3_newestLength 5 = .ok (.istore_n 2, 1) := by decide +kernel
theorem dX3_newestLength_6 : decode cX3_newestLength 6 = .ok (.aload_n 0, 1) := by decide +kernel
theorem dX3_newestLength_7 : decode cX3_newestLength 7 = .ok (.iload_n 2, 1) := by decide +kernel
theorem dX3_newestLength_8 : decode cX3_newestLength 8 = .ok (.invokevirtual 88, 3) := by decide +kernel
theorem dX3_newestLength_11 : decode cX3_newestLength 11 = .ok (.ifCond .ne 5, 3) := by decide +kernel
theorem dX3_newestLength_14 : decode cX3_newestLength 14 = .ok (.iconst 0, 1) := by decide +kernel
theorem dX3_newestLength_15 : decode cX3_newestLength 15 = .ok (.ireturn, 1) := by decide +kernel
theorem dX3_newestLength_16 : decode cX3_newestLength 16 = .ok (.aload_n 0, 1) := by decide +kernel
theorem dX3_newestLength_17 : decode cX3_newestLength 17 = .ok (.getfield 18, 3) := by decide +kernel
theorem dX3_newestLength_20 : decode cX3_newestLength 20 = .ok (.iload_n 2, 1) := by decide +kernel
theorem dX3_newestLength_21 : decode cX3_newestLength 21 = .ok (.iaload, 1) := by decide +kernel
theorem dX3_newestLength_22 : decode cX3_newestLength 22 = .ok (.iconst 1, 1) := by decide +kernel
theorem dX3_newestLength_23 : decode cX3_newestLength 23 = .ok (.if_icmp .ne 7, 3) := by decide +kernel
theorem dX3_newestLength_26 : decode cX3_newestLength 26 = .ok (.iconst 3, 1) := by decide +kernel
theorem dX3_newestLength_27 : decode cX3_newestLength 27 = .ok (.goto 11, 3) := by decide +kernel
theorem dX3_newestLength_30 : decode cX3_newestLength 30 = .ok (.aload_n 0, 1) := by decide +kernel
theorem dX3_newestLength_31 : decode cX3_newestLength 31 = .ok (.getfield 24, 3) := by decide +kernel
theorem dX3_newestLength_34 : decode cX3_newestLength 34 = .ok (.iload_n 2, 1) := by decide +kernel
theorem dX3_newestLength_35 : decode cX3_newestLength 35 = .ok (.iaload, 1) := by decide +kernel
theorem dX3_newestLength_36 : decode cX3_newestLength 36 = .ok (.iconst 3, 1) := by decide +kernel
theorem dX3_newestLength_37 : decode cX3_newestLength 37 = .ok (.isub, 1) := by decide +kernel
theorem dX3_newestLength_38 : decode cX3_newestLength 38 = .ok (.ireturn, 1) := by decide +kernel
theorem dX3_valueOf_0 : decode cX3_valueOf 0 = .ok (.aload_n 0, 1) := by decide +kernel
theorem dX3_valueOf_1 : decode cX3_valueOf 1 = .ok (.iload_n 1, 1) := by decide +kernel
theorem dX3_valueOf_2 : decode cX3_valueOf 2 = .ok (.invokevirtual 88, 3) := by decide +kernel
theorem dX3_valueOf_5 : decode cX3_valueOf 5 = .ok (.ifCond .eq 13, 3) := by decide +kernel
theorem dX3_valueOf_8 : decode cX3_valueOf 8 = .ok (.aload_n 0, 1) := by decide +kernel
theorem dX3_valueOf_9 : decode cX3_valueOf 9 = .ok (.getfield 24, 3) := by decide +kernel
theorem dX3_valueOf_12 : decode cX3_valueOf 12 = .ok (.iload_n 1, 1) := by decide +kernel
theorem dX3_valueOf_13 : decode cX3_valueOf 13 = .ok (.iaload, 1) := by decide +kernel
theorem dX3_valueOf_14 : decode cX3_valueOf 14 = .ok (.iconst 3, 1) := by decide +kernel
theorem dX3_valueOf_15 : decode cX3_valueOf 15 = .ok (.if_icmp .ne 7, 3) := by decide +kernel
theorem dX3_valueOf_18 : decode cX3_valueOf 18 = .ok (.ldc2_w 115, 3) := by decide +kernel
theorem dX3_valueOf_21 : decode cX3_valueOf 21 = .ok (.lreturn, 1) := by decide +kernel
theorem dX3_valueOf_22 : decode cX3_valueOf 22 = .ok (.aload_n 0, 1) := by decide +kernel
theorem dX3_valueOf_23 : decode cX3_valueOf 23 = .ok (.getfield 18, 3) := by decide +kernel
theorem dX3_valueOf_26 : decode cX3_valueOf 26 = .ok (.iload_n 1, 1) := by decide +kernel
theorem dX3_valueOf_27 : decode cX3_valueOf 27 = .ok (.iaload, 1) := by decide +kernel
theorem dX3_valueOf_28 : decode cX3_valueOf 28 = .ok (.iconst 1, 1) := by decide +kernel
theorem dX3_valueOf_29 : decode cX3_valueOf 29 = .ok (.if_icmp .ne 32, 3) := by decide +kernel
theorem dX3_valueOf_32 : decode cX3_valueOf 32 = .ok (.aload_n 0, 1) := by decide +kernel
theorem dX3_valueOf_33 : decode cX3_valueOf 33 = .ok (.aload_n 0, 1) := by decide +kernel
theorem dX3_valueOf_34 : decode cX3_valueOf 34 = .ok (.getfield 15, 3) := by decide +kernel
theorem dX3_valueOf_37 : decode cX3_valueOf 37 = .ok (.iload_n 1, 1) := by decide +kernel
theorem dX3_valueOf_38 : decode cX3_valueOf 38 = .ok (.iaload, 1) := by decide +kernel
theorem dX3_valueOf_39 : decode cX3_valueOf 39 = .ok (.iconst 2, 1) := by decide +kernel
theorem dX3_valueOf_40 : decode cX3_valueOf 40 = .ok (.iadd, 1) := by decide +kernel
theorem dX3_valueOf_41 : decode cX3_valueOf 41 = .ok (.iconst 3, 1) := by decide +kernel
theorem dX3_valueOf_42 : decode cX3_valueOf 42 = .ok (.invokevirtual 117, 3) := by decide +kernel
theorem dX3_valueOf_45 : decode cX3_valueOf 45 = .ok (.aload_n 0, 1) := by decide +kernel
theorem dX3_valueOf_46 : decode cX3_valueOf 46 = .ok (.aload_n 0, 1) := by decide +kernel
theorem dX3_valueOf_47 : decode cX3_valueOf 47 = .ok (.getfield 15, 3) := by decide +kernel
theorem dX3_valueOf_50 : decode cX3_valueOf 50 = .ok (.iload_n 1, 1) := by decide +kernel
theorem dX3_valueOf_51 : decode cX3_valueOf 51 = .ok (.iaload, 1) := by decide +kernel
theorem dX3_valueOf_52 : decode cX3_valueOf 52 = .ok (.bipush 6, 2) := by decide +kernel
theorem dX3_valueOf_54 : decode cX3_valueOf 54 = .ok (.iadd, 1) := by decide +kernel
theorem dX3_valueOf_55 : decode cX3_valueOf 55 = .ok (.invokevirtual 121, 3) := by decide +kernel
theorem dX3_valueOf_58 : decode cX3_valueOf 58 = .ok (.i2l, 1) := by decide +kernel
theorem dX3_valueOf_59 : decode cX3_valueOf 59 = .ok (.ladd, 1) := by decide +kernel
theorem dX3_valueOf_60 : decode cX3_valueOf 60 = .ok (.lreturn, 1) := by decide +kernel
theorem dX3_valueOf_61 : decode cX3_valueOf 61 = .ok (.aload_n 0, 1) := by decide +kernel
theorem dX3_valueOf_62 : decode cX3_valueOf 62 = .ok (.aload_n 0, 1) := by decide +kernel
theorem dX3_valueOf_63 : decode cX3_valueOf 63 = .ok (.getfield 15, 3) := by decide +kernel
theorem dX3_valueOf_66 : decode cX3_valueOf 66 = .ok (.iload_n 1, 1) := by decide +kernel
theorem dX3_valueOf_67 : decode cX3_valueOf 67 = .ok (.iaload, 1) := by decide +kernel
theorem dX3_valueOf_68 : decode cX3_valueOf 68 = .ok (.iconst 2, 1) := by decide +kernel
theorem dX3_valueOf_69 : decode cX3_valueOf 69 = .ok (.iadd, 1) := by decide +kernel
theorem dX3_valueOf_70 : decode cX3_valueOf 70 = .ok (.aload_n 0, 1) := by decide +kernel
theorem dX3_valueOf_71 : decode cX3_valueOf 71 = .ok (.getfield 24, 3) := by decide +kernel
theorem dX3_valueOf_74 : decode cX3_valueOf 74 = .ok (.iload_n 1, 1) := by decide +kernel
theorem dX3_valueOf_75 : decode cX3_valueOf 75 = .ok (.iaload, 1) := by decide +kernel
theorem dX3_valueOf_76 : decode cX3_valueOf 76 = .ok (.iconst 3, 1) := by decide +kernel
theorem dX3_valueOf_77 : decode cX3_valueOf 77 = .ok (.isub, 1) := by decide +kernel
theorem dX3_valueOf_78 : decode cX3_valueOf 78 = .ok (.invokevirtual 117, 3) := by decide +kernel
theorem dX3_valueOf_81 : decode cX3_valueOf 81 = .ok (.lreturn, 1) := by decide +kernel
theorem dX3_numberAt_0 : decode cX3_numberAt 0 = .ok (.lconst 0, 1) := by decide +kernel
theorem dX3_numberAt_1 : decode cX3_numberAt 1 = .ok (.lstore_n 3, 1) := by decide +kernel
theorem dX3_numberAt_2 : decode cX3_numberAt 2 = .ok (.iconst 0, 1) := by decide +kernel
theorem dX3_numberAt_3 : decode cX3_numberAt 3 = .ok (.istore 5, 2) := by decide +kernel
theorem dX3_numberAt_5 : decode cX3_numberAt 5 = .ok (.iload 5, 2) := by decide +kernel
theorem dX3_numberAt_7 : decode cX3_numberAt 7 = .ok (.iload_n 2, 1) := by decide +kernel
theorem dX3_numberAt_8 : decode cX3_numberAt 8 = .ok (.if_icmp .ge 25, 3) := by decide +kernel
theorem dX3_numberAt_11 : decode cX3_numberAt 11 = .ok (.lload_n 3, 1) := by decide +kernel
theorem dX3_numberAt_12 : decode cX3_numberAt 12 = .ok (.ldc2_w 124, 3) := by decide +kernel
theorem dX3_numberAt_15 : decode cX3_numberAt 15 = .ok (.lmul, 1) := by decide +kernel
theorem dX3_numberAt_16 : decode cX3_numberAt 16 = .ok (.aload_n 0, 1) := by decide +kernel
theorem dX3_numberAt_17 : decode cX3_numberAt 17 = .ok (.iload_n 1, 1) := by decide +kernel
theorem dX3_numberAt_18 : decode cX3_numberAt 18 = .ok (.iload 5, 2) := by decide +kernel
theorem dX3_numberAt_20 : decode cX3_numberAt 20 = .ok (.iadd, 1) := by decide +kernel
theorem dX3_numberAt_21 : decode cX3_numberAt 21 = .ok (.invokevirtual 63, 3) := by decide +kernel
theorem dX3_numberAt_24 : decode cX3_numberAt 24 = .ok (.i2l, 1) := by decide +kernel
theorem dX3_numberAt_25 : decode cX3_numberAt 25 = .ok (.ladd, 1) := by decide +kernel
theorem dX3_numberAt_26 : decode cX3_numberAt 26 = .ok (.lstore_n 3, 1) := by decide +kernel
theorem dX3_numberAt_27 : decode cX3_numberAt 27 = .ok (.iinc 5 1, 3) := by decide +kernel
theorem dX3_numberAt_30 : decode cX3_numberAt 30 = .ok (.goto (-25), 3) := by decide +kernel
theorem dX3_numberAt_33 : decode cX3_numberAt 33 = .ok (.lload_n 3, 1) := by decide +kernel
theorem dX3_numberAt_34 : decode cX3_numberAt 34 = .ok (.lreturn, 1) := by decide +kernel
theorem dX3_clearedBits_0 : decode cX3_clearedBits 0 = .ok (.iconst 0, 1) := by decide +kernel
theorem dX3_clearedBits_1 : decode cX3_clearedBits 1 = .ok (.istore_n 2, 1) := by decide +kernel
theorem dX3_clearedBits_2 : decode cX3_clearedBits 2 = .ok (.iconst 0, 1) := by decide +kernel
theorem dX3_clearedBits_3 : decode cX3_clearedBits 3 = .ok (.istore_n 3, 1) := by decide +kernel
theorem dX3_clearedBits_4 : decode cX3_clearedBits 4 = .ok (.iload_n 3, 1) := by decide +kernel
theorem dX3_clearedBits_5 : decode cX3_clearedBits 5 = .ok (.bipush 8, 2) := by decide +kernel
theorem dX3_clearedBits_7 : decode cX3_clearedBits 7 = .ok (.if_icmp .ge 25, 3) := by decide +kernel
theorem dX3_clearedBits_10 : decode cX3_clearedBits 10 = .ok (.iload_n 2, 1) := by decide +kernel
theorem dX3_clearedBits_11 : decode cX3_clearedBits 11 = .ok (.bipush 8, 2) := by decide +kernel
theorem dX3_clearedBits_13 : decode cX3_clearedBits 13 = .ok (.aload_n 0, 1) := by decide +kernel
theorem dX3_clearedBits_14 : decode cX3_clearedBits 14 = .ok (.iload_n 1, 1) := by decide +kernel
theorem dX3_clearedBits_15 : decode cX3_clearedBits 15 = .ok (.iload_n 3, 1) := by decide +kernel
theorem dX3_clearedBits_16 : decode cX3_clearedBits 16 = .ok (.iadd, 1) := by decide +kernel
theorem dX3_clearedBits_17 : decode cX3_clearedBits 17 = .ok (.invokevirtual 63, 3) := by decide +kernel
theorem dX3_clearedBits_20 : decode cX3_clearedBits 20 = .ok (.invokestatic 126, 3) := by decide +kernel
theorem dX3_clearedBits_23 : decode cX3_clearedBits 23 = .ok (.isub, 1) := by decide +kernel
theorem dX3_clearedBits_24 : decode cX3_clearedBits 24 = .ok (.iadd, 1) := by decide +kernel
theorem dX3_clearedBits_25 : decode cX3_clearedBits 25 = .ok (.istore_n 2, 1) := by decide +kernel
theorem dX3_clearedBits_26 : decode cX3_clearedBits 26 = .ok (.iinc 3 1, 3) := by decide +kernel
theorem dX3_clearedBits_29 : decode cX3_clearedBits 29 = .ok (.goto (-25), 3) := by decide +kernel
theorem dX3_clearedBits_32 : decode cX3_clearedBits 32 = .ok (.iload_n 2, 1) := by decide +kernel
theorem dX3_clearedBits_33 : decode cX3_clearedBits 33 = .ok (.ireturn, 1) := by decide +kernel
theorem dX3_unspentPlace_0 : decode cX3_unspentPlace 0 = .ok (.aload_n 0, 1) := by decide +kernel
theorem dX3_unspentPlace_1 : decode cX3_unspentPlace 1 = .ok (.iload_n 1, 1) := by decide +kernel
theorem dX3_unspentPlace_2 : decode cX3_unspentPlace 2 = .ok (.invokevirtual 108, 3) := by decide +kernel
theorem dX3_unspentPlace_5 : decode cX3_unspentPlace 5 = .ok (.istore_n 2, 1) := by decide +kernel
theorem dX3_unspentPlace_6 : decode cX3_unspentPlace 6 = .ok (.aload_n 0, 1) := by decide +kernel
theorem dX3_unspentPlace_7 : decode cX3_unspentPlace 7 = .ok (.iload_n 2, 1) := by decide +kernel
theorem dX3_unspentPlace_8 : decode cX3_unspentPlace 8 = .ok (.invokevirtual 88, 3) := by decide +kernel
theorem dX3_unspentPlace_11 : decode cX3_unspentPlace 11 = .ok (.ifCond .eq 13, 3) := by decide +kernel
theorem dX3_unspentPlace_14 : decode cX3_unspentPlace 14 = .ok (.aload_n 0, 1) := by decide +kernel
theorem dX3_unspentPlace_15 : decode cX3_unspentPlace 15 = .ok (.getfield 18, 3) := by decide +kernel
theorem dX3_unspentPlace_18 : decode cX3_unspentPlace 18 = .ok (.iload_n 2, 1) := by decide +kernel
theorem dX3_unspentPlace_19 : decode cX3_unspentPlace 19 = .ok (.iaload, 1) := by decide +kernel
theorem dX3_unspentPlace_20 : decode cX3_unspentPlace 20 = .ok (.iconst 1, 1) := by decide +kernel
theorem dX3_unspentPlace_21 : decode cX3_unspentPlace 21 = .ok (.if_icmp .eq 5, 3) := by decide +kernel
theorem dX3_unspentPlace_24 : decode cX3_unspentPlace 24 = .ok (.iconst (-1), 1) := by decide +kernel
theorem dX3_unspentPlace_25 : decode cX3_unspentPlace 25 = .ok (.ireturn, 1) := by decide +kernel
theorem dX3_unspentPlace_26 : decode cX3_unspentPlace 26 = .ok (.bipush 6, 2) := by decide +kernel
theorem dX3_unspentPlace_28 : decode cX3_unspentPlace 28 = .ok (.istore_n 3, 1) := by decide +kernel
theorem dX3_unspentPlace_29 : decode cX3_unspentPlace 29 = .ok (.iload_n 3, 1) := by decide +kernel
theorem dX3_unspentPlace_30 : decode cX3_unspentPlace 30 = .ok (.bipush 14, 2) := by decide +kernel
theorem dX3_unspentPlace_32 : decode cX3_unspentPlace 32 = .ok (.if_icmp .ge 33, 3) := by decide +kernel
theorem dX3_unspentPlace_35 : decode cX3_unspentPlace 35 = .ok (.aload_n 0, 1) := by decide +kernel
theorem dX3_unspentPlace_36 : decode cX3_unspentPlace 36 = .ok (.aload_n 0, 1) := by decide +kernel
theorem dX3_unspentPlace_37 : decode cX3_unspentPlace 37 = .ok (.getfield 15, 3) := by decide +kernel
theorem dX3_unspentPlace_40 : decode cX3_unspentPlace 40 = .ok (.iload_n 2, 1) := by decide +kernel
theorem dX3_unspentPlace_41 : decode cX3_unspentPlace 41 = .ok (.iaload, 1) := by decide +kernel
theorem dX3_unspentPlace_42 : decode cX3_unspentPlace 42 = .ok (.iload_n 3, 1) := by decide +kernel
theorem dX3_unspentPlace_43 : decode cX3_unspentPlace 43 = .ok (.iadd, 1) := by decide +kernel
theorem dX3_unspentPlace_44 : decode cX3_unspentPlace 44 = .ok (.invokevirtual 63, 3) := by decide +kernel
theorem dX3_unspentPlace_47 : decode cX3_unspentPlace 47 = .ok (.ifCond .eq 12, 3) := by decide +kernel
theorem dX3_unspentPlace_50 : decode cX3_unspentPlace 50 = .ok (.aload_n 0, 1) := by decide +kernel
theorem dX3_unspentPlace_51 : decode cX3_unspentPlace 51 = .ok (.getfield 15, 3) := by decide +kernel
theorem dX3_unspentPlace_54 : decode cX3_unspentPlace 54 = .ok (.iload_n 2, 1) := by decide +kernel
theorem dX3_unspentPlace_55 : decode cX3_unspentPlace 55 = .ok (.iaload, 1) := by decide +kernel
theorem dX3_unspentPlace_56 : decode cX3_unspentPlace 56 = .ok (.iload_n 3, 1) := by decide +kernel
theorem dX3_unspentPlace_57 : decode cX3_unspentPlace 57 = .ok (.iadd, 1) := by decide +kernel
theorem dX3_unspentPlace_58 : decode cX3_unspentPlace 58 = .ok (.ireturn, 1) := by decide +kernel
theorem dX3_unspentPlace_59 : decode cX3_unspentPlace 59 = .ok (.iinc 3 1, 3) := by decide +kernel
theorem dX3_unspentPlace_62 : decode cX3_unspentPlace 62 = .ok (.goto (-33), 3) := by decide +kernel
theorem dX3_unspentPlace_65 : decode cX3_unspentPlace 65 = .ok (.iconst (-1), 1) := by decide +kernel
theorem dX3_unspentPlace_66 : decode cX3_unspentPlace 66 = .ok (.ireturn, 1) := by decide +kernel
theorem dX3_tells_0 : decode cX3_tells 0 = .ok (.aload_n 0, 1) := by decide +kernel
theorem dX3_tells_1 : decode cX3_tells 1 = .ok (.iload_n 1, 1) := by decide +kernel
theorem dX3_tells_2 : decode cX3_tells 2 = .ok (.invokevirtual 88, 3) := by decide +kernel
theorem dX3_tells_5 : decode cX3_tells 5 = .ok (.ifCond .eq 36, 3) := by decide +kernel
theorem dX3_tells_8 : decode cX3_tells 8 = .ok (.aload_n 0, 1) := by decide +kernel
theorem dX3_tells_9 : decode cX3_tells 9 = .ok (.getfield 21, 3) := by decide +kernel
theorem dX3_tells_12 : decode cX3_tells 12 = .ok (.iload_n 1, 1) := by decide +kernel
theorem dX3_tells_13 : decode cX3_tells 13 = .ok (.iaload, 1) := by decide +kernel
theorem dX3_tells_14 : decode cX3_tells 14 = .ok (.iload_n 2, 1) := by decide +kernel
theorem dX3_tells_15 : decode cX3_tells 15 = .ok (.if_icmp .ne 26, 3) := by decide +kernel
theorem dX3_tells_18 : decode cX3_tells 18 = .ok (.aload_n 0, 1) := by decide +kernel
theorem dX3_tells_19 : decode cX3_tells 19 = .ok (.getfield 27, 3) := by decide +kernel
theorem dX3_tells_22 : decode cX3_tells 22 = .ok (.iload_n 1, 1) := by decide +kernel
theorem dX3_tells_23 : decode cX3_tells 23 = .ok (.iaload, 1) := by decide +kernel
theorem dX3_tells_24 : decode cX3_tells 24 = .ok (.ifCond .eq 13, 3) := by decide +kernel
theorem dX3_tells_27 : decode cX3_tells 27 = .ok (.aload_n 0, 1) := by decide +kernel
theorem dX3_tells_28 : decode cX3_tells 28 = .ok (.getfield 27, 3) := by decide +kernel
theorem dX3_tells_31 : decode cX3_tells 31 = .ok (.iload_n 1, 1) := by decide +kernel
theorem dX3_tells_32 : decode cX3_tells 32 = .ok (.iaload, 1) := by decide +kernel
theorem dX3_tells_33 : decode cX3_tells 33 = .ok (.iconst 1, 1) := by decide +kernel
theorem dX3_tells_34 : decode cX3_tells 34 = .ok (.if_icmp .ne 7, 3) := by decide +kernel
theorem dX3_tells_37 : decode cX3_tells 37 = .ok (.iconst 1, 1) := by decide +kernel
theorem dX3_tells_38 : decode cX3_tells 38 = .ok (.goto 4, 3) := by decide +kernel
theorem dX3_tells_41 : decode cX3_tells 41 = .ok (.iconst 0, 1) := by decide +kernel
theorem dX3_tells_42 : decode cX3_tells 42 = .ok (.ireturn, 1) := by decide +kernel
theorem dX3_tellingOf_0 : decode cX3_tellingOf 0 = .ok (.iconst 0, 1) := by decide +kernel
theorem dX3_tellingOf_1 : decode cX3_tellingOf 1 = .ok (.istore_n 2, 1) := by decide +kernel
theorem dX3_tellingOf_2 : decode cX3_tellingOf 2 = .ok (.iconst 0, 1) := by decide +kernel
theorem dX3_tellingOf_3 : decode cX3_tellingOf 3 = .ok (.istore_n 3, 1) := by decide +kernel
theorem dX3_tellingOf_4 : decode cX3_tellingOf 4 = .ok (.iload_n 3, 1) := by decide +kernel
theorem dX3_tellingOf_5 : decode cX3_tellingOf 5 = .ok (.aload_n 0, 1) := by decide +kernel
theorem dX3_tellingOf_6 : decode cX3_tellingOf 6 = .ok (.getfield 44, 3) := by decide +kernel
theorem dX3_tellingOf_9 : decode cX3_tellingOf 9 = .ok (.if_icmp .ge 26, 3) := by decide +kernel
theorem dX3_tellingOf_12 : decode cX3_tellingOf 12 = .ok (.iload_n 2, 1) := by decide +kernel
theorem dX3_tellingOf_13 : decode cX3_tellingOf 13 = .ok (.aload_n 0, 1) := by decide +kernel
theorem dX3_tellingOf_14 : decode cX3_tellingOf 14 = .ok (.iload_n 3, 1) := by decide +kernel
theorem dX3_tellingOf_15 : decode cX3_tellingOf 15 = .ok (.iload_n 1, 1) := by decide +kernel
theorem dX3_tellingOf_16 : decode cX3_tellingOf 16 = .ok (.invokevirtual 131, 3) := by decide +kernel
theorem dX3_tellingOf_19 : decode cX3_tellingOf 19 = .ok (.ifCond .eq 7, 3) := by decide +kernel
theorem dX3_tellingOf_22 : decode cX3_tellingOf 22 = .ok (.iconst 1, 1) := by decide +kernel
theorem dX3_tellingOf_23 : decode cX3_tellingOf 23 = .ok (.goto 4, 3) := by decide +kernel
theorem dX3_tellingOf_26 : decode cX3_tellingOf 26 = .ok (.iconst 0, 1) := by decide +kernel
theorem dX3_tellingOf_27 : decode cX3_tellingOf 27 = .ok (.iadd, 1) := by decide +kernel
theorem dX3_tellingOf_28 : decode cX3_tellingOf 28 = .ok (.istore_n 2, 1) := by decide +kernel
theorem dX3_tellingOf_29 : decode cX3_tellingOf 29 = .ok (.iinc 3 1, 3) := by decide +kernel
theorem dX3_tellingOf_32 : decode cX3_tellingOf 32 = .ok (.goto (-28), 3) := by decide +kernel
theorem dX3_tellingOf_35 : decode cX3_tellingOf 35 = .ok (.iload_n 2, 1) := by decide +kernel
theorem dX3_tellingOf_36 : decode cX3_tellingOf 36 = .ok (.ireturn, 1) := by decide +kernel
theorem dX3_earlierValue_0 : decode cX3_earlierValue 0 = .ok (.iconst 0, 1) := by decide +kernel
theorem dX3_earlierValue_1 : decode cX3_earlierValue 1 = .ok (.istore_n 3, 1) := by decide +kernel
theorem dX3_earlierValue_2 : decode cX3_earlierValue 2 = .ok (.aload_n 0, 1) := by decide +kernel
theorem dX3_earlierValue_3 : decode cX3_earlierValue 3 = .ok (.getfield 44, 3) := by decide +kernel
theorem dX3_earlierValue_6 : decode cX3_earlierValue 6 = .ok (.iconst 1, 1) := by decide +kernel
theorem dX3_earlierValue_7 : decode cX3_earlierValue 7 = .ok (.isub, 1) := by decide +kernel
theorem dX3_earlierValue_8 : decode cX3_earlierValue 8 = .ok (.istore 4, 2) := by decide +kernel
theorem dX3_earlierValue_10 : decode cX3_earlierValue 10 = .ok (.iload 4, 2) := by decide +kernel
theorem dX3_earlierValue_12 : decode cX3_earlierValue 12 = .ok (.ifCond .lt 37, 3) := by decide +kernel
theorem dX3_earlierValue_15 : decode cX3_earlierValue 15 = .ok (.aload_n 0, 1) := by decide +kernel
theorem dX3_earlierValue_16 : decode cX3_earlierValue 16 = .ok (.iload 4, 2) := by decide +kernel
theorem dX3_earlierValue_18 : decode cX3_earlierValue 18 = .ok (.iload_n 1, 1) := by decide +kernel
theorem dX3_earlierValue_19 : decode cX3_earlierValue 19 = .ok (.invokevirtual 131, 3) := by decide +kernel
theorem dX3_earlierValue_22 : decode cX3_earlierValue 22 = .ok (.ifCond .ne 6, 3) := by decide +kernel
theorem dX3_earlierValue_25 : decode cX3_earlierValue 25 = .ok (.goto 18, 3) := by decide +kernel
theorem dX3_earlierValue_28 : decode cX3_earlierValue 28 = .ok (.iload_n 3, 1) := by decide +kernel
theorem dX3_earlierValue_29 : decode cX3_earlierValue 29 = .ok (.iload_n 2, 1) := by decide +kernel
theorem dX3_earlierValue_30 : decode cX3_earlierValue 30 = .ok (.if_icmp .ne 10, 3) := by decide +kernel
theorem dX3_earlierValue_33 : decode cX3_earlierValue 33 = .ok (.aload_n 0, 1) := by decide +kernel
theorem dX3_earlierValue_34 : decode cX3_earlierValue 34 = .ok (.iload 4, 2) := by decide +kernel
theorem dX3_earlierValue_36 : decode cX3_earlierValue 36 = .ok (.invokevirtual 111, 3) := by decide +kernel
theorem dX3_earlierValue_39 : decode cX3_earlierValue 39 = .ok (.lreturn, 1) := by decide +kernel
theorem dX3_earlierValue_40 : decode cX3_earlierValue 40 = .ok (.iinc 3 1, 3) := by decide +kernel
theorem dX3_earlierValue_43 : decode cX3_earlierValue 43 = .ok (.iinc 4 (-1), 3) := by decide +kernel
theorem dX3_earlierValue_46 : decode cX3_earlierValue 46 = .ok (.goto (-36), 3) := by decide +kernel
theorem dX3_earlierValue_49 : decode cX3_earlierValue 49 = .ok (.ldc2_w 135, 3) := by decide +kernel
theorem dX3_earlierValue_52 : decode cX3_earlierValue 52 = .ok (.lreturn, 1) := by decide +kernel
theorem dX3_allBytes_0 : decode cX3_allBytes 0 = .ok (.iconst 0, 1) := by decide +kernel
theorem dX3_allBytes_1 : decode cX3_allBytes 1 = .ok (.istore_n 1, 1) := by decide +kernel
theorem dX3_allBytes_2 : decode cX3_allBytes 2 = .ok (.iconst 0, 1) := by decide +kernel
theorem dX3_allBytes_3 : decode cX3_allBytes 3 = .ok (.istore_n 2, 1) := by decide +kernel
theorem dX3_allBytes_4 : decode cX3_allBytes 4 = .ok (.iload_n 2, 1) := by decide +kernel
theorem dX3_allBytes_5 : decode cX3_allBytes 5 = .ok (.aload_n 0, 1) := by decide +kernel
theorem dX3_allBytes_6 : decode cX3_allBytes 6 = .ok (.getfield 44, 3) := by decide +kernel
theorem dX3_allBytes_9 : decode cX3_allBytes 9 = .ok (.if_icmp .ge 18, 3) := by decide +kernel
theorem dX3_allBytes_12 : decode cX3_allBytes 12 = .ok (.iload_n 1, 1) := by decide +kernel
theorem dX3_allBytes_13 : decode cX3_allBytes 13 = .ok (.aload_n 0, 1) := by decide +kernel
theorem dX3_allBytes_14 : decode cX3_allBytes 14 = .ok (.getfield 24, 3) := by decide +kernel
theorem dX3_allBytes_17 : decode cX3_allBytes 17 = .ok (.iload_n 2, 1) := by decide +kernel
theorem dX3_allBytes_18 : decode cX3_allBytes 18 = .ok (.iaload, 1) := by decide +kernel
theorem dX3_allBytes_19 : decode cX3_allBytes 19 = .ok (.iadd, 1) := by decide +kernel
theorem dX3_allBytes_20 : decode cX3_allBytes 20 = .ok (.istore_n 1, 1) := by decide +kernel
theorem dX3_allBytes_21 : decode cX3_allBytes 21 = .ok (.iinc 2 1, 3) := by decide +kernel
theorem dX3_allBytes_24 : decode cX3_allBytes 24 = .ok (.goto (-20), 3) := by decide +kernel
theorem dX3_allBytes_27 : decode cX3_allBytes 27 = .ok (.iload_n 1, 1) := by decide +kernel
theorem dX3_allBytes_28 : decode cX3_allBytes 28 = .ok (.ireturn, 1) := by decide +kernel
theorem dX3_valuedBytes_0 : decode cX3_valuedBytes 0 = .ok (.iconst 0, 1) := by decide +kernel
theorem dX3_valuedBytes_1 : decode cX3_valuedBytes 1 = .ok (.istore_n 1, 1) := by decide +kernel
theorem dX3_valuedBytes_2 : decode cX3_valuedBytes 2 = .ok (.iconst 0, 1) := by decide +kernel
theorem dX3_valuedBytes_3 : decode cX3_valuedBytes 3 = .ok (.istore_n 2, 1) := by decide +kernel
theorem dX3_valuedBytes_4 : decode cX3_valuedBytes 4 = .ok (.iload_n 2, 1) := by decide +kernel
theorem dX3_valuedBytes_5 : decode cX3_valuedBytes 5 = .ok (.bipush 48, 2) := by decide +kernel
theorem dX3_valuedBytes_7 : decode cX3_valuedBytes 7 = .ok (.if_icmp .ge 17, 3) := by decide +kernel
theorem dX3_valuedBytes_10 : decode cX3_valuedBytes 10 = .ok (.iload_n 1, 1) := by decide +kernel
theorem dX3_valuedBytes_11 : decode cX3_valuedBytes 11 = .ok (.aload_n 0, 1) := by decide +kernel
theorem dX3_valuedBytes_12 : decode cX3_valuedBytes 12 = .ok (.iload_n 2, 1) := by decide +kernel
theorem dX3_valuedBytes_13 : decode cX3_valuedBytes 13 = .ok (.invokevirtual 105, 3) := by decide +kernel
theorem dX3_valuedBytes_16 : decode cX3_valuedBytes 16 = .ok (.iadd, 1) := by decide +kernel
theorem dX3_valuedBytes_17 : decode cX3_valuedBytes 17 = .ok (.istore_n 1, 1) := by decide +kernel
theorem dX3_valuedBytes_18 : decode cX3_valuedBytes 18 = .ok (.iinc 2 1, 3) := by decide +kernel
theorem dX3_valuedBytes_21 : decode cX3_valuedBytes 21 = .ok (.goto (-17), 3) := by decide +kernel
theorem dX3_valuedBytes_24 : decode cX3_valuedBytes 24 = .ok (.iload_n 1, 1) := by decide +kernel
theorem dX3_valuedBytes_25 : decode cX3_valuedBytes 25 = .ok (.ireturn, 1) := by decide +kernel
theorem dX3_copyWrites_0 : decode cX3_copyWrites 0 = .ok (.iconst 0, 1) := by decide +kernel
theorem dX3_copyWrites_1 : decode cX3_copyWrites 1 = .ok (.istore_n 1, 1) := by decide +kernel
theorem dX3_copyWrites_2 : decode cX3_copyWrites 2 = .ok (.iconst 0, 1) := by decide +kernel
theorem dX3_copyWrites_3 : decode cX3_copyWrites 3 = .ok (.istore_n 2, 1) := by decide +kernel
theorem dX3_copyWrites_4 : decode cX3_copyWrites 4 = .ok (.iload_n 2, 1) := by decide +kernel
theorem dX3_copyWrites_5 : decode cX3_copyWrites 5 = .ok (.bipush 48, 2) := by decide +kernel
theorem dX3_copyWrites_7 : decode cX3_copyWrites 7 = .ok (.if_icmp .ge 36, 3) := by decide +kernel
theorem dX3_copyWrites_10 : decode cX3_copyWrites 10 = .ok (.aload_n 0, 1) := by decide +kernel
theorem dX3_copyWrites_11 : decode cX3_copyWrites 11 = .ok (.iload_n 2, 1) := by decide +kernel
theorem dX3_copyWrites_12 : decode cX3_copyWrites 12 = .ok (.invokevirtual 137, 3) := by decide +kernel
theorem dX3_copyWrites_15 : decode cX3_copyWrites 15 = .ok (.ifCond .eq 22, 3) := by decide +kernel
theorem dX3_copyWrites_18 : decode cX3_copyWrites 18 = .ok (.iload_n 1, 1) := by decide +kernel
theorem dX3_copyWrites_19 : decode cX3_copyWrites 19 = .ok (.iload_n 2, 1) := by decide +kernel
theorem dX3_copyWrites_20 : decode cX3_copyWrites 20 = .ok (.bipush 32, 2) := by decide +kernel
theorem dX3_copyWrites_22 : decode cX3_copyWrites 22 = .ok (.if_icmp .ge 11, 3) := by decide +kernel
theorem dX3_copyWrites_25 : decode cX3_copyWrites 25 = .ok (.aload_n 0, 1) := by decide +kernel
theorem dX3_copyWrites_26 : decode cX3_copyWrites 26 = .ok (.iload_n 2, 1) := by decide +kernel
theorem dX3_copyWrites_27 : decode cX3_copyWrites 27 = .ok (.invokevirtual 105, 3) := by decide +kernel
theorem dX3_copyWrites_30 : decode cX3_copyWrites 30 = .ok (.goto 5, 3) := by decide +kernel
theorem dX3_copyWrites_33 : decode cX3_copyWrites 33 = .ok (.bipush 6, 2) := by decide +kernel
theorem dX3_copyWrites_35 : decode cX3_copyWrites 35 = .ok (.iadd, 1) := by decide +kernel
theorem dX3_copyWrites_36 : decode cX3_copyWrites 36 = .ok (.istore_n 1, 1) := by decide +kernel
theorem dX3_copyWrites_37 : decode cX3_copyWrites 37 = .ok (.iinc 2 1, 3) := by decide +kernel
theorem dX3_copyWrites_40 : decode cX3_copyWrites 40 = .ok (.goto (-36), 3) := by decide +kernel
theorem dX3_copyWrites_43 : decode cX3_copyWrites 43 = .ok (.iload_n 1, 1) := by decide +kernel
theorem dX3_copyWrites_44 : decode cX3_copyWrites 44 = .ok (.ireturn, 1) := by decide +kernel
theorem dX3_valuedTags_0 : decode cX3_valuedTags 0 = .ok (.lconst 0, 1) := by decide +kernel
theorem dX3_valuedTags_1 : decode cX3_valuedTags 1 = .ok (.lstore_n 1, 1) := by decide +kernel
theorem dX3_valuedTags_2 : decode cX3_valuedTags 2 = .ok (.iconst 0, 1) := by decide +kernel
theorem dX3_valuedTags_3 : decode cX3_valuedTags 3 = .ok (.istore_n 3, 1) := by decide +kernel
theorem dX3_valuedTags_4 : decode cX3_valuedTags 4 = .ok (.iload_n 3, 1) := by decide +kernel
theorem dX3_valuedTags_5 : decode cX3_valuedTags 5 = .ok (.bipush 48, 2) := by decide +kernel
theorem dX3_valuedTags_7 : decode cX3_valuedTags 7 = .ok (.if_icmp .ge 27, 3) := by decide +kernel
theorem dX3_valuedTags_10 : decode cX3_valuedTags 10 = .ok (.lload_n 1, 1) := by decide +kernel
theorem dX3_valuedTags_11 : decode cX3_valuedTags 11 = .ok (.aload_n 0, 1) := by decide +kernel
theorem dX3_valuedTags_12 : decode cX3_valuedTags 12 = .ok (.iload_n 3, 1) := by decide +kernel
theorem dX3_valuedTags_13 : decode cX3_valuedTags 13 = .ok (.invokevirtual 137, 3) := by decide +kernel
theorem dX3_valuedTags_16 : decode cX3_valuedTags 16 = .ok (.ifCond .eq 9, 3) := by decide +kernel
theorem dX3_valuedTags_19 : decode cX3_valuedTags 19 = .ok (.lconst 1, 1) := by decide +kernel
theorem dX3_valuedTags_20 : decode cX3_valuedTags 20 = .ok (.iload_n 3, 1) := by decide +kernel
theorem dX3_valuedTags_21 : decode cX3_valuedTags 21 = .ok (.lshl, 1) := by decide +kernel
theorem dX3_valuedTags_22 : decode cX3_valuedTags 22 = .ok (.goto 4, 3) := by decide +kernel
theorem dX3_valuedTags_25 : decode cX3_valuedTags 25 = .ok (.lconst 0, 1) := by decide +kernel
theorem dX3_valuedTags_26 : decode cX3_valuedTags 26 = .ok (.lor, 1) := by decide +kernel
theorem dX3_valuedTags_27 : decode cX3_valuedTags 27 = .ok (.lstore_n 1, 1) := by decide +kernel
theorem dX3_valuedTags_28 : decode cX3_valuedTags 28 = .ok (.iinc 3 1, 3) := by decide +kernel
theorem dX3_valuedTags_31 : decode cX3_valuedTags 31 = .ok (.goto (-27), 3) := by decide +kernel
theorem dX3_valuedTags_34 : decode cX3_valuedTags 34 = .ok (.lload_n 1, 1) := by decide +kernel
theorem dX3_valuedTags_35 : decode cX3_valuedTags 35 = .ok (.lreturn, 1) := by decide +kernel
end
section
theorem dX4_init_0 : decode cX4_init 0 = .ok (.aload_n 0, 1) := by decide +kernel
theorem dX4_init_1 : decode cX4_init 1 = .ok (.invokespecial 3, 3) := by decide +kernel
theorem dX4_init_4 : decode cX4_init 4 = .ok (.aload_n 0, 1) := by decide +kernel
theorem dX4_init_5 : decode cX4_init 5 = .ok (.new 9, 3) := by decide +kernel
theorem dX4_init_8 : decode cX4_init 8 = .ok (.dup, 1) := by decide +kernel
theorem dX4_init_9 : decode cX4_init 9 = .ok (.invokespecial 11, 3) := by decide +kernel
theorem dX4_init_12 : decode cX4_init 12 = .ok (.putfield 12, 3) := by decide +kernel
theorem dX4_init_15 : decode cX4_init 15 = .ok (.aload_n 0, 1) := by decide +kernel
theorem dX4_init_16 : decode cX4_init 16 = .ok (.new 18, 3) := by decide +kernel
theorem dX4_init_19 : decode cX4_init 19 = .ok (.dup, 1) := by decide +kernel
theorem dX4_init_20 : decode cX4_init 20 = .ok (.invokespecial 20, 3) := by decide +kernel
theorem dX4_init_23 : decode cX4_init 23 = .ok (.putfield 21, 3) := by decide +kernel
theorem dX4_init_26 : decode cX4_init 26 = .ok (.aload_n 0, 1) := by decide +kernel
theorem dX4_init_27 : decode cX4_init 27 = .ok (.new 25, 3) := by decide +kernel
theorem dX4_init_30 : decode cX4_init 30 = .ok (.dup, 1) := by decide +kernel
theorem dX4_init_31 : decode cX4_init 31 = .ok (.invokespecial 27, 3) := by decide +kernel
theorem dX4_init_34 : decode cX4_init 34 = .ok (.putfield 28, 3) := by decide +kernel
theorem dX4_init_37 : decode cX4_init 37 = .ok (.aload_n 0, 1) := by decide +kernel
theorem dX4_init_38 : decode cX4_init 38 = .ok (.new 32, 3) := by decide +kernel
theorem dX4_init_41 : decode cX4_init 41 = .ok (.dup, 1) := by decide +kernel
theorem dX4_init_42 : decode cX4_init 42 = .ok (.invokespecial 34, 3) := by decide +kernel
theorem dX4_init_45 : decode cX4_init 45 = .ok (.putfield 35, 3) := by decide +kernel
theorem dX4_init_48 : decode cX4_init 48 = .ok (.aload_n 0, 1) := by decide +kernel
theorem dX4_init_49 : decode cX4_init 49 = .ok (.iconst (-1), 1) := by decide +kernel
theorem dX4_init_50 : decode cX4_init 50 = .ok (.putfield 39, 3) := by decide +kernel
theorem dX4_init_53 : decode cX4_init 53 = .ok (.aload_n 0, 1) := by decide +kernel
theorem dX4_init_54 : decode cX4_init 54 = .ok (.getfield 12, 3) := by decide +kernel
theorem dX4_init_57 : decode cX4_init 57 = .ok (.iconst 3, 1) := by decide +kernel
theorem dX4_init_58 : decode cX4_init 58 = .ok (.bipush 64, 2) := by decide +kernel
theorem dX4_init_60 : decode cX4_init 60 = .ok (.invokevirtual 43, 3) := by decide +kernel
theorem dX4_init_63 : decode cX4_init 63 = .ok (.return_, 1) := by decide +kernel
theorem dX4_renew_0 : decode cX4_renew 0 = .ok (.aload_n 0, 1) := by decide +kernel
theorem dX4_renew_1 : decode cX4_renew 1 = .ok (.getfield 12, 3) := by decide +kernel
theorem dX4_renew_4 : decode cX4_renew 4 = .ok (.iload_n 1, 1) := by decide +kernel
theorem dX4_renew_5 : decode cX4_renew 5 = .ok (.iload_n 2, 1) := by decide +kernel
theorem dX4_renew_6 : decode cX4_renew 6 = .ok (.invokevirtual 43, 3) := by decide +kernel
theorem dX4_renew_9 : decode cX4_renew 9 = .ok (.aload_n 0, 1) := by decide +kernel
theorem dX4_renew_10 : decode cX4_renew 10 = .ok (.iconst 0, 1) := by decide +kernel
theorem dX4_renew_11 : decode cX4_renew 11 = .ok (.putfield 47, 3) := by decide +kernel
theorem dX4_renew_14 : decode cX4_renew 14 = .ok (.aload_n 0, 1) := by decide +kernel
theorem dX4_renew_15 : decode cX4_renew 15 = .ok (.invokevirtual 50, 3) := by decide +kernel
theorem dX4_renew_18 : decode cX4_renew 18 = .ok (.return_, 1) := by decide +kernel
theorem dX4_copyFrom_0 : decode cX4_copyFrom 0 = .ok (.aload_n 0, 1) := by decide +kernel
theorem dX4_copyFrom_1 : decode cX4_copyFrom 1 = .ok (.getfield 12, 3) := by decide +kernel
theorem dX4_copyFrom_4 : decode cX4_copyFrom 4 = .ok (.aload_n 1, 1) := by decide +kernel
theorem dX4_copyFrom_5 : decode cX4_copyFrom 5 = .ok (.getfield 12, 3) := by decide +kernel
theorem dX4_copyFrom_8 : decode cX4_copyFrom 8 = .ok (.invokevirtual 53, 3) := by decide +kernel
theorem dX4_copyFrom_11 : decode cX4_copyFrom 11 = .ok (.aload_n 0, 1) := by decide +kernel
theorem dX4_copyFrom_12 : decode cX4_copyFrom 12 = .ok (.aload_n 1, 1) := by decide +kernel
theorem dX4_copyFrom_13 : decode cX4_copyFrom 13 = .ok (.getfield 39, 3) := by decide +kernel
theorem dX4_copyFrom_16 : decode cX4_copyFrom 16 = .ok (.putfield 39, 3) := by decide +kernel
theorem dX4_copyFrom_19 : decode cX4_copyFrom 19 = .ok (.aload_n 0, 1) := by decide +kernel
theorem dX4_copyFrom_20 : decode cX4_copyFrom 20 = .ok (.aload_n 1, 1) := by decide +kernel
theorem dX4_copyFrom_21 : decode cX4_copyFrom 21 = .ok (.getfield 47, 3) := by decide +kernel
theorem dX4_copyFrom_24 : decode cX4_copyFrom 24 = .ok (.putfield 47, 3) := by decide +kernel
theorem dX4_copyFrom_27 : decode cX4_copyFrom 27 = .ok (.aload_n 0, 1) := by decide +kernel
theorem dX4_copyFrom_28 : decode cX4_copyFrom 28 = .ok (.getfield 28, 3) := by decide +kernel
theorem dX4_copyFrom_31 : decode cX4_copyFrom 31 = .ok (.invokevirtual 57, 3) := by decide +kernel
theorem dX4_copyFrom_34 : decode cX4_copyFrom 34 = .ok (.return_, 1) := by decide +kernel
theorem dX4_isOn_0 : decode cX4_isOn 0 = .ok (.aload_n 0, 1) := by decide +kernel
theorem dX4_isOn_1 : decode cX4_isOn 1 = .ok (.getfield 39, 3) := by decide +kernel
theorem dX4_isOn_4 : decode cX4_isOn 4 = .ok (.iconst (-1), 1) := by decide +kernel
theorem dX4_isOn_5 : decode cX4_isOn 5 = .ok (.if_icmp .eq 7, 3) := by decide +kernel
theorem dX4_isOn_8 : decode cX4_isOn 8 = .ok (.iconst 1, 1) := by decide +kernel
theorem dX4_isOn_9 : decode cX4_isOn 9 = .ok (.goto 4, 3) := by decide +kernel
theorem dX4_isOn_12 : decode cX4_isOn 12 = .ok (.iconst 0, 1) := by decide +kernel
theorem dX4_isOn_13 : decode cX4_isOn 13 = .ok (.ireturn, 1) := by decide +kernel
theorem dX4_switchOff_0 : decode cX4_switchOff 0 = .ok (.aload_n 0, 1) := by decide +kernel
theorem dX4_switchOff_1 : decode cX4_switchOff 1 = .ok (.iconst (-1), 1) := by decide +kernel
theorem dX4_switchOff_2 : decode cX4_switchOff 2 = .ok (.putfield 39, 3) := by decide +kernel
theorem dX4_switchOff_5 : decode cX4_switchOff 5 = .ok (.aload_n 0, 1) := by decide +kernel
theorem dX4_switchOff_6 : decode cX4_switchOff 6 = .ok (.getfield 12, 3) := by decide +kernel
theorem dX4_switchOff_9 : decode cX4_switchOff 9 = .ok (.iconst 0, 1) := by decide +kernel
theorem dX4_switchOff_10 : decode cX4_switchOff 10 = .ok (.putfield 60, 3) := by decide +kernel
theorem dX4_switchOff_13 : decode cX4_switchOff 13 = .ok (.aload_n 0, 1) := by decide +kernel
theorem dX4_switchOff_14 : decode cX4_switchOff 14 = .ok (.getfield 28, 3) := by decide +kernel
theorem dX4_switchOff_17 : decode cX4_switchOff 17 = .ok (.invokevirtual 57, 3) := by decide +kernel
theorem dX4_switchOff_20 : decode cX4_switchOff 20 = .ok (.return_, 1) := by decide +kernel
theorem dX4_switchOn_0 : decode cX4_switchOn 0 = .ok (.aload_n 0, 1) := by decide +kernel
theorem dX4_switchOn_1 : decode cX4_switchOn 1 = .ok (.getfield 12, 3) := by decide +kernel
theorem dX4_switchOn_4 : decode cX4_switchOn 4 = .ok (.iconst 1, 1) := by decide +kernel
theorem dX4_switchOn_5 : decode cX4_switchOn 5 = .ok (.putfield 60, 3) := by decide +kernel
theorem dX4_switchOn_8 : decode cX4_switchOn 8 = .ok (.aload_n 0, 1) := by decide +kernel
theorem dX4_switchOn_9 : decode cX4_switchOn 9 = .ok (.getfield 12, 3) := by decide +kernel
theorem dX4_switchOn_12 : decode cX4_switchOn 12 = .ok (.iconst 0, 1) := by decide +kernel
theorem dX4_switchOn_13 : decode cX4_switchOn 13 = .ok (.putfield 64, 3) := by decide +kernel
theorem dX4_switchOn_16 : decode cX4_switchOn 16 = .ok (.aload_n 0, 1) := by decide +kernel
theorem dX4_switchOn_17 : decode cX4_switchOn 17 = .ok (.getfield 12, 3) := by decide +kernel
theorem dX4_switchOn_20 : decode cX4_switchOn 20 = .ok (.invokevirtual 67, 3) := by decide +kernel
theorem dX4_switchOn_23 : decode cX4_switchOn 23 = .ok (.istore_n 1, 1) := by decide +kernel
theorem dX4_switchOn_24 : decode cX4_switchOn 24 = .ok (.aload_n 0, 1) := by decide +kernel
theorem dX4_switchOn_25 : decode cX4_switchOn 25 = .ok (.getfield 12, 3) := by decide +kernel
theorem dX4_switchOn_28 : decode cX4_switchOn 28 = .ok (.iload_n 1, 1) := by decide +kernel
theorem dX4_switchOn_29 : decode cX4_switchOn 29 = .ok (.invokevirtual 71, 3) := by decide +kernel
theorem dX4_switchOn_32 : decode cX4_switchOn 32 = .ok (.iload_n 1, 1) := by decide +kernel
theorem dX4_switchOn_33 : decode cX4_switchOn 33 = .ok (.iconst (-1), 1) := by decide +kernel
theorem dX4_switchOn_34 : decode cX4_switchOn 34 = .ok (.if_icmp .ne 32, 3) := by decide +kernel
theorem dX4_switchOn_37 : decode cX4_switchOn 37 = .ok (.aload_n 0, 1) := by decide +kernel
theorem dX4_switchOn_38 : decode cX4_switchOn 38 = .ok (.getfield 12, 3) := by decide +kernel
theorem dX4_switchOn_41 : decode cX4_switchOn 41 = .ok (.iconst (-1), 1) := by decide +kernel
theorem dX4_switchOn_42 : decode cX4_switchOn 42 = .ok (.invokevirtual 75, 3) := by decide +kernel
theorem dX4_switchOn_45 : decode cX4_switchOn 45 = .ok (.istore_n 1, 1) := by decide +kernel
theorem dX4_switchOn_46 : decode cX4_switchOn 46 = .ok (.aload_n 0, 1) := by decide +kernel
theorem dX4_switchOn_47 : decode cX4_switchOn 47 = .ok (.getfield 12, 3) := by decide +kernel
theorem dX4_switchOn_50 : decode cX4_switchOn 50 = .ok (.iload_n 1, 1) := by decide +kernel
theorem dX4_switchOn_51 : decode cX4_switchOn 51 = .ok (.iconst 1, 1) := by decide +kernel
theorem dX4_switchOn_52 : decode cX4_switchOn 52 = .ok (.invokevirtual 79, 3) := by decide +kernel
theorem dX4_switchOn_55 : decode cX4_switchOn 55 = .ok (.aload_n 0, 1) := by decide +kernel
theorem dX4_switchOn_56 : decode cX4_switchOn 56 = .ok (.getfield 12, 3) := by decide +kernel
theorem dX4_switchOn_59 : decode cX4_switchOn 59 = .ok (.iload_n 1, 1) := by decide +kernel
theorem dX4_switchOn_60 : decode cX4_switchOn 60 = .ok (.iconst 0, 1) := by decide +kernel
theorem dX4_switchOn_61 : decode cX4_switchOn 61 = .ok (.bipush 63, 2) := by decide +kernel
theorem dX4_switchOn_63 : decode cX4_switchOn 63 = .ok (.invokevirtual 82, 3) := by decide +kernel
theorem dX4_switchOn_66 : decode cX4_switchOn 66 = .ok (.aload_n 0, 1) := by decide +kernel
theorem dX4_switchOn_67 : decode cX4_switchOn 67 = .ok (.iload_n 1, 1) := by decide +kernel
theorem dX4_switchOn_68 : decode cX4_switchOn 68 = .ok (.putfield 39, 3) := by decide +kernel
theorem dX4_switchOn_71 : decode cX4_switchOn 71 = .ok (.aload_n 0, 1) := by decide +kernel
theorem dX4_switchOn_72 : decode cX4_switchOn 72 = .ok (.aload_n 0, 1) := by decide +kernel
theorem dX4_switchOn_73 : decode cX4_switchOn 73 = .ok (.invokevirtual 86, 3) := by decide +kernel
theorem dX4_switchOn_76 : decode cX4_switchOn 76 = .ok (.invokevirtual 90, 3) := by decide +kernel
theorem dX4_switchOn_79 : decode cX4_switchOn 79 = .ok (.invokestatic 94, 3) := by decide +kernel
theorem dX4_switchOn_82 : decode cX4_switchOn 82 = .ok (.invokevirtual 100, 3) := by decide +kernel
theorem dX4_switchOn_85 : decode cX4_switchOn 85 = .ok (.ireturn, 1) := by decide +kernel
theorem dX4_outcome_0 : decode cX4_outcome 0 = .ok (.aload_n 0, 1) := by decide +kernel
theorem dX4_outcome_1 : decode cX4_outcome 1 = .ok (.getfield 12, 3) := by decide +kernel
theorem dX4_outcome_4 : decode cX4_outcome 4 = .ok (.getfield 60, 3) := by decide +kernel
theorem dX4_outcome_7 : decode cX4_outcome 7 = .ok (.ifCond .eq 5, 3) := by decide +kernel
theorem dX4_outcome_10 : decode cX4_outcome 10 = .ok (.iload_n 1, 1) := by decide +kernel
theorem dX4_outcome_11 : decode cX4_outcome 11 = .ok (.ireturn, 1) := by decide +kernel
theorem dX4_outcome_12 : decode cX4_outcome 12 = .ok (.aload_n 0, 1) := by decide +kernel
theorem dX4_outcome_13 : decode cX4_outcome 13 = .ok (.invokevirtual 50, 3) := by decide +kernel
theorem dX4_outcome_16 : decode cX4_outcome 16 = .ok (.bipush (-3), 2) := by decide +kernel
theorem dX4_outcome_18 : decode cX4_outcome 18 = .ok (.ireturn, 1) := by decide +kernel
theorem dX4_look_0 : decode cX4_look 0 = .ok (.aload_n 0, 1) := by decide +kernel
theorem dX4_look_1 : decode cX4_look 1 = .ok (.getfield 21, 3) := by decide +kernel
theorem dX4_look_4 : decode cX4_look 4 = .ok (.aload_n 0, 1) := by decide +kernel
theorem dX4_look_5 : decode cX4_look 5 = .ok (.getfield 12, 3) := by decide +kernel
theorem dX4_look_8 : decode cX4_look 8 = .ok (.aload_n 0, 1) := by decide +kernel
theorem dX4_look_9 : decode cX4_look 9 = .ok (.getfield 39, 3) := by decide +kernel
theorem dX4_look_12 : decode cX4_look 12 = .ok (.invokevirtual 103, 3) := by decide +kernel
theorem dX4_look_15 : decode cX4_look 15 = .ok (.aload_n 0, 1) := by decide +kernel
theorem dX4_look_16 : decode cX4_look 16 = .ok (.getfield 21, 3) := by decide +kernel
theorem dX4_look_19 : decode cX4_look 19 = .ok (.areturn, 1) := by decide +kernel
theorem dX4_wouldHave_0 : decode cX4_wouldHave 0 = .ok (.aload_n 0, 1) := by decide +kernel
theorem dX4_wouldHave_1 : decode cX4_wouldHave 1 = .ok (.getfield 28, 3) := by decide +kernel
theorem dX4_wouldHave_4 : decode cX4_wouldHave 4 = .ok (.getfield 107, 3) := by decide +kernel
theorem dX4_wouldHave_7 : decode cX4_wouldHave 7 = .ok (.ifCond .eq 14, 3) := by decide +kernel
theorem dX4_wouldHave_10 : decode cX4_wouldHave 10 = .ok (.aload_n 0, 1) := by decide +kernel
theorem dX4_wouldHave_11 : decode cX4_wouldHave 11 = .ok (.getfield 28, 3) := by decide +kernel
theorem dX4_wouldHave_14 : decode cX4_wouldHave 14 = .ok (.iload_n 1, 1) := by decide +kernel
theorem dX4_wouldHave_15 : decode cX4_wouldHave 15 = .ok (.invokevirtual 110, 3) := by decide +kernel
theorem dX4_wouldHave_18 : decode cX4_wouldHave 18 = .ok (.goto 4, 3) := by decide +kernel
theorem dX4_wouldHave_21 : decode cX4_wouldHave 21 = .ok (.iconst (-1), 1) := by decide +kernel
theorem dX4_wouldHave_22 : decode cX4_wouldHave 22 = .ok (.istore_n 2, 1) := by decide +kernel
theorem dX4_wouldHave_23 : decode cX4_wouldHave 23 = .ok (.iload_n 2, 1) := by decide +kernel
theorem dX4_wouldHave_24 : decode cX4_wouldHave 24 = .ok (.iconst (-1), 1) := by decide +kernel
theorem dX4_wouldHave_25 : decode cX4_wouldHave 25 = .ok (.if_icmp .eq 21, 3) := by decide +kernel
theorem dX4_wouldHave_28 : decode cX4_wouldHave 28 = .ok (.aload_n 0, 1) := by decide +kernel
theorem dX4_wouldHave_29 : decode cX4_wouldHave 29 = .ok (.getfield 28, 3) := by decide +kernel
theorem dX4_wouldHave_32 : decode cX4_wouldHave 32 = .ok (.getfield 113, 3) := by decide +kernel
theorem dX4_wouldHave_35 : decode cX4_wouldHave 35 = .ok (.iload_n 2, 1) := by decide +kernel
theorem dX4_wouldHave_36 : decode cX4_wouldHave 36 = .ok (.iaload, 1) := by decide +kernel
theorem dX4_wouldHave_37 : decode cX4_wouldHave 37 = .ok (.ifCond .le 7, 3) := by decide +kernel
theorem dX4_wouldHave_40 : decode cX4_wouldHave 40 = .ok (.iconst 1, 1) := by decide +kernel
theorem dX4_wouldHave_41 : decode cX4_wouldHave 41 = .ok (.goto 4, 3) := by decide +kernel
theorem dX4_wouldHave_44 : decode cX4_wouldHave 44 = .ok (.iconst 0, 1) := by decide +kernel
theorem dX4_wouldHave_45 : decode cX4_wouldHave 45 = .ok (.ireturn, 1) := by decide +kernel
theorem dX4_wouldHave_46 : decode cX4_wouldHave 46 = .ok (.aload_n 0, 1) := by decide +kernel
theorem dX4_wouldHave_47 : decode cX4_wouldHave 47 = .ok (.invokevirtual 86, 3) := by decide +kernel
theorem dX4_wouldHave_50 : decode cX4_wouldHave 50 = .ok (.iload_n 1, 1) := by decide +kernel
theorem dX4_wouldHave_51 : decode cX4_wouldHave 51 = .ok (.invokevirtual 117, 3) := by decide +kernel
theorem dX4_wouldHave_54 : decode cX4_wouldHave 54 = .ok (.ireturn, 1) := by decide +kernel
theorem dX4_keep_0 : decode cX4_keep 0 = .ok (.aload_n 0, 1) := by decide +kernel
theorem dX4_keep_1 : decode cX4_keep 1 = .ok (.getfield 12, 3) := by decide +kernel
theorem dX4_keep_4 : decode cX4_keep 4 = .ok (.iconst 0, 1) := by decide +kernel
theorem dX4_keep_5 : decode cX4_keep 5 = .ok (.putfield 64, 3) := by decide +kernel
theorem dX4_keep_8 : decode cX4_keep 8 = .ok (.aload_n 0, 1) := by decide +kernel
theorem dX4_keep_9 : decode cX4_keep 9 = .ok (.iconst 3, 1) := by decide +kernel
theorem dX4_keep_10 : decode cX4_keep 10 = .ok (.iload_n 3, 1) := by decide +kernel
theorem dX4_keep_11 : decode cX4_keep 11 = .ok (.iadd, 1) := by decide +kernel
theorem dX4_keep_12 : decode cX4_keep 12 = .ok (.invokevirtual 121, 3) := by decide +kernel
theorem dX4_keep_15 : decode cX4_keep 15 = .ok (.ifCond .ne 6, 3) := by decide +kernel
theorem dX4_keep_18 : decode cX4_keep 18 = .ok (.bipush (-2), 2) := by decide +kernel
theorem dX4_keep_20 : decode cX4_keep 20 = .ok (.ireturn, 1) := by decide +kernel
theorem dX4_keep_21 : decode cX4_keep 21 = .ok (.aload_n 0, 1) := by decide +kernel
theorem dX4_keep_22 : decode cX4_keep 22 = .ok (.getfield 35, 3) := by decide +kernel
theorem dX4_keep_25 : decode cX4_keep 25 = .ok (.iload_n 1, 1) := by decide +kernel
theorem dX4_keep_26 : decode cX4_keep 26 = .ok (.bipush 16, 2) := by decide +kernel
theorem dX4_keep_28 : decode cX4_keep 28 = .ok (.iload_n 2, 1) := by decide +kernel
theorem dX4_keep_29 : decode cX4_keep 29 = .ok (.iload_n 3, 1) := by decide +kernel
theorem dX4_keep_30 : decode cX4_keep 30 = .ok (.invokevirtual 124, 3) := by decide +kernel
theorem dX4_keep_33 : decode cX4_keep 33 = .ok (.aload_n 0, 1) := by decide +kernel
theorem dX4_keep_34 : decode cX4_keep 34 = .ok (.getfield 12, 3) := by decide +kernel
theorem dX4_keep_37 : decode cX4_keep 37 = .ok (.aload_n 0, 1) := by decide +kernel
theorem dX4_keep_38 : decode cX4_keep 38 = .ok (.getfield 39, 3) := by decide +kernel
theorem dX4_keep_41 : decode cX4_keep 41 = .ok (.aload_n 0, 1) := by decide +kernel
theorem dX4_keep_42 : decode cX4_keep 42 = .ok (.getfield 128, 3) := by decide +kernel
theorem dX4_keep_45 : decode cX4_keep 45 = .ok (.aload_n 0, 1) := by decide +kernel
theorem dX4_keep_46 : decode cX4_keep 46 = .ok (.getfield 35, 3) := by decide +kernel
theorem dX4_keep_49 : decode cX4_keep 49 = .ok (.invokevirtual 131, 3) := by decide +kernel
theorem dX4_keep_52 : decode cX4_keep 52 = .ok (.aload_n 0, 1) := by decide +kernel
theorem dX4_keep_53 : decode cX4_keep 53 = .ok (.aload_n 0, 1) := by decide +kernel
theorem dX4_keep_54 : decode cX4_keep 54 = .ok (.getfield 12, 3) := by decide +kernel
theorem dX4_keep_57 : decode cX4_keep 57 = .ok (.getfield 64, 3) := by decide +kernel
theorem dX4_keep_60 : decode cX4_keep 60 = .ok (.invokevirtual 100, 3) := by decide +kernel
theorem dX4_keep_63 : decode cX4_keep 63 = .ok (.ireturn, 1) := by decide +kernel
theorem dX4_countUp_0 : decode cX4_countUp 0 = .ok (.aload_n 0, 1) := by decide +kernel
theorem dX4_countUp_1 : decode cX4_countUp 1 = .ok (.getfield 21, 3) := by decide +kernel
theorem dX4_countUp_4 : decode cX4_countUp 4 = .ok (.aload_n 0, 1) := by decide +kernel
theorem dX4_countUp_5 : decode cX4_countUp 5 = .ok (.getfield 12, 3) := by decide +kernel
theorem dX4_countUp_8 : decode cX4_countUp 8 = .ok (.aload_n 0, 1) := by decide +kernel
theorem dX4_countUp_9 : decode cX4_countUp 9 = .ok (.getfield 39, 3) := by decide +kernel
theorem dX4_countUp_12 : decode cX4_countUp 12 = .ok (.invokevirtual 103, 3) := by decide +kernel
theorem dX4_countUp_15 : decode cX4_countUp 15 = .ok (.aload_n 0, 1) := by decide +kernel
theorem dX4_countUp_16 : decode cX4_countUp 16 = .ok (.getfield 21, 3) := by decide +kernel
theorem dX4_countUp_19 : decode cX4_countUp 19 = .ok (.iload_n 1, 1) := by decide +kernel
theorem dX4_countUp_20 : decode cX4_countUp 20 = .ok (.invokevirtual 117, 3) := by decide +kernel
theorem dX4_countUp_23 : decode cX4_countUp 23 = .ok (.ifCond .eq 15, 3) := by decide +kernel
theorem dX4_countUp_26 : decode cX4_countUp 26 = .ok (.aload_n 0, 1) := by decide +kernel
theorem dX4_countUp_27 : decode cX4_countUp 27 = .ok (.getfield 21, 3) := by decide +kernel
theorem dX4_countUp_30 : decode cX4_countUp 30 = .ok (.iload_n 1, 1) := by decide +kernel
theorem dX4_countUp_31 : decode cX4_countUp 31 = .ok (.invokevirtual 135, 3) := by decide +kernel
theorem dX4_countUp_34 : decode cX4_countUp 34 = .ok (.l2i, 1) := by decide +kernel
theorem dX4_countUp_35 : decode cX4_countUp 35 = .ok (.goto 4, 3) := by decide +kernel
theorem dX4_countUp_38 : decode cX4_countUp 38 = .ok (.iconst 0, 1) := by decide +kernel
theorem dX4_countUp_39 : decode cX4_countUp 39 = .ok (.istore_n 2, 1) := by decide +kernel
theorem dX4_countUp_40 : decode cX4_countUp 40 = .ok (.iload_n 2, 1) := by decide +kernel
theorem dX4_countUp_41 : decode cX4_countUp 41 = .ok (.ldc 139, 2) := by decide +kernel
theorem dX4_countUp_43 : decode cX4_countUp 43 = .ok (.if_icmp .lt 5, 3) := by decide +kernel
theorem dX4_countUp_46 : decode cX4_countUp 46 = .ok (.iconst (-1), 1) := by decide +kernel
theorem dX4_countUp_47 : decode cX4_countUp 47 = .ok (.ireturn, 1) := by decide +kernel
theorem dX4_countUp_48 : decode cX4_countUp 48 = .ok (.aload_n 0, 1) := by decide +kernel
theorem dX4_countUp_49 : decode cX4_countUp 49 = .ok (.getfield 21, 3) := by decide +kernel
theorem dX4_countUp_52 : decode cX4_countUp 52 = .ok (.iload_n 1, 1) := by decide +kernel
theorem dX4_countUp_53 : decode cX4_countUp 53 = .ok (.invokevirtual 140, 3) := by decide +kernel
theorem dX4_countUp_56 : decode cX4_countUp 56 = .ok (.istore_n 3, 1) := by decide +kernel
theorem dX4_countUp_57 : decode cX4_countUp 57 = .ok (.iload_n 3, 1) := by decide +kernel
theorem dX4_countUp_58 : decode cX4_countUp 58 = .ok (.iconst (-1), 1) := by decide +kernel
theorem dX4_countUp_59 : decode cX4_countUp 59 = .ok (.if_icmp .eq 45, 3) := by decide +kernel
theorem dX4_countUp_62 : decode cX4_countUp 62 = .ok (.aload_n 0, 1) := by decide +kernel
theorem dX4_countUp_63 : decode cX4_countUp 63 = .ok (.getfield 12, 3) := by decide +kernel
theorem dX4_countUp_66 : decode cX4_countUp 66 = .ok (.aload_n 0, 1) := by decide +kernel
theorem dX4_countUp_67 : decode cX4_countUp 67 = .ok (.getfield 39, 3) := by decide +kernel
theorem dX4_countUp_70 : decode cX4_countUp 70 = .ok (.iload_n 3, 1) := by decide +kernel
theorem dX4_countUp_71 : decode cX4_countUp 71 = .ok (.invokevirtual 143, 3) := by decide +kernel
theorem dX4_countUp_74 : decode cX4_countUp 74 = .ok (.istore 4, 2) := by decide +kernel
theorem dX4_countUp_76 : decode cX4_countUp 76 = .ok (.aload_n 0, 1) := by decide +kernel
theorem dX4_countUp_77 : decode cX4_countUp 77 = .ok (.getfield 12, 3) := by decide +kernel
theorem dX4_countUp_80 : decode cX4_countUp 80 = .ok (.aload_n 0, 1) := by decide +kernel
theorem dX4_countUp_81 : decode cX4_countUp 81 = .ok (.getfield 39, 3) := by decide +kernel
theorem dX4_countUp_84 : decode cX4_countUp 84 = .ok (.iload_n 3, 1) := by decide +kernel
theorem dX4_countUp_85 : decode cX4_countUp 85 = .ok (.iload 4, 2) := by decide +kernel
theorem dX4_countUp_87 : decode cX4_countUp 87 = .ok (.iload 4, 2) := by decide +kernel
theorem dX4_countUp_89 : decode cX4_countUp 89 = .ok (.invokestatic 147, 3) := by decide +kernel
theorem dX4_countUp_92 : decode cX4_countUp 92 = .ok (.ixor, 1) := by decide +kernel
theorem dX4_countUp_93 : decode cX4_countUp 93 = .ok (.invokevirtual 82, 3) := by decide +kernel
theorem dX4_countUp_96 : decode cX4_countUp 96 = .ok (.aload_n 0, 1) := by decide +kernel
theorem dX4_countUp_97 : decode cX4_countUp 97 = .ok (.iload_n 2, 1) := by decide +kernel
theorem dX4_countUp_98 : decode cX4_countUp 98 = .ok (.iconst 1, 1) := by decide +kernel
theorem dX4_countUp_99 : decode cX4_countUp 99 = .ok (.iadd, 1) := by decide +kernel
theorem dX4_countUp_100 : decode cX4_countUp 100 = .ok (.invokevirtual 100, 3) := by decide +kernel
theorem dX4_countUp_103 : decode cX4_countUp 103 = .ok (.ireturn, 1) := by decide +kernel
theorem dX4_countUp_104 : decode cX4_countUp 104 = .ok (.aload_n 0, 1) := by decide +kernel
theorem dX4_countUp_105 : decode cX4_countUp 105 = .ok (.bipush 14, 2) := by decide +kernel
theorem dX4_countUp_107 : decode cX4_countUp 107 = .ok (.invokevirtual 121, 3) := by decide +kernel
theorem dX4_countUp_110 : decode cX4_countUp 110 = .ok (.ifCond .ne 6, 3) := by decide +kernel
theorem dX4_countUp_113 : decode cX4_countUp 113 = .ok (.bipush (-2), 2) := by decide +kernel
theorem dX4_countUp_115 : decode cX4_countUp 115 = .ok (.ireturn, 1) := by decide +kernel
theorem dX4_countUp_116 : decode cX4_countUp 116 = .ok (.aload_n 0, 1) := by decide +kernel
theorem dX4_countUp_117 : decode cX4_countUp 117 = .ok (.getfield 35, 3) := by decide +kernel
theorem dX4_countUp_120 : decode cX4_countUp 120 = .ok (.iload_n 1, 1) := by decide +kernel
theorem dX4_countUp_121 : decode cX4_countUp 121 = .ok (.iload_n 2, 1) := by decide +kernel
theorem dX4_countUp_122 : decode cX4_countUp 122 = .ok (.iconst 1, 1) := by decide +kernel
theorem dX4_countUp_123 : decode cX4_countUp 123 = .ok (.iadd, 1) := by decide +kernel
theorem dX4_countUp_124 : decode cX4_countUp 124 = .ok (.invokevirtual 150, 3) := by decide +kernel
theorem dX4_countUp_127 : decode cX4_countUp 127 = .ok (.aload_n 0, 1) := by decide +kernel
theorem dX4_countUp_128 : decode cX4_countUp 128 = .ok (.getfield 12, 3) := by decide +kernel
theorem dX4_countUp_131 : decode cX4_countUp 131 = .ok (.aload_n 0, 1) := by decide +kernel
theorem dX4_countUp_132 : decode cX4_countUp 132 = .ok (.getfield 39, 3) := by decide +kernel
theorem dX4_countUp_135 : decode cX4_countUp 135 = .ok (.aload_n 0, 1) := by decide +kernel
theorem dX4_countUp_136 : decode cX4_countUp 136 = .ok (.getfield 128, 3) := by decide +kernel
theorem dX4_countUp_139 : decode cX4_countUp 139 = .ok (.aload_n 0, 1) := by decide +kernel
theorem dX4_countUp_140 : decode cX4_countUp 140 = .ok (.getfield 35, 3) := by decide +kernel
theorem dX4_countUp_143 : decode cX4_countUp 143 = .ok (.invokevirtual 131, 3) := by decide +kernel
theorem dX4_countUp_146 : decode cX4_countUp 146 = .ok (.aload_n 0, 1) := by decide +kernel
theorem dX4_countUp_147 : decode cX4_countUp 147 = .ok (.iload_n 2, 1) := by decide +kernel
theorem dX4_countUp_148 : decode cX4_countUp 148 = .ok (.iconst 1, 1) := by decide +kernel
theorem dX4_countUp_149 : decode cX4_countUp 149 = .ok (.iadd, 1) := by decide +kernel
theorem dX4_countUp_150 : decode cX4_countUp 150 = .ok (.invokevirtual 100, 3) := by decide +kernel
theorem dX4_countUp_153 : decode cX4_countUp 153 = .ok (.ireturn, 1) := by decide +kernel
theorem dX4_highestBit_0 : decode cX4_highestBit 0 = .ok (.sipush 128, 3) := by decide +kernel
theorem dX4_highestBit_3 : decode cX4_highestBit 3 = .ok (.istore_n 1, 1) := by decide +kernel
theorem dX4_highestBit_4 : decode cX4_highestBit 4 = .ok (.iload_n 1, 1) := by decide +kernel
theorem dX4_highestBit_5 : decode cX4_highestBit 5 = .ok (.ifCond .le 18, 3) := by decide +kernel
theorem dX4_highestBit_8 : decode cX4_highestBit 8 = .ok (.iload_n 0, 1) := by decide +kernel
theorem dX4_highestBit_9 : decode cX4_highestBit 9 = .ok (.iload_n 1, 1) := by decide +kernel
theorem dX4_highestBit_10 : decode cX4_highestBit 10 = .ok (.iand, 1) := by decide +kernel
theorem dX4_highestBit_11 : decode cX4_highestBit 11 = .ok (.ifCond .eq 5, 3) := by decide +kernel
theorem dX4_highestBit_14 : decode cX4_highestBit 14 = .ok (.iload_n 1, 1) := by decide +kernel
theorem dX4_highestBit_15 : decode cX4_highestBit 15 = .ok (.ireturn, 1) := by decide +kernel
theorem dX4_highestBit_16 : decode cX4_highestBit 16 = .ok (.iload_n 1, 1) := by decide +kernel
theorem dX4_highestBit_17 : decode cX4_highestBit 17 = .ok (.iconst 2, 1) := by decide +kernel
theorem dX4_highestBit_18 : decode cX4_highestBit 18 = .ok (.idiv, 1) := by decide +kernel
theorem dX4_highestBit_19 : decode cX4_highestBit 19 = .ok (.istore_n 1, 1) := by decide +kernel
theorem dX4_highestBit_20 : decode cX4_highestBit 20 = .ok (.goto (-16), 3) := by decide +kernel
theorem dX4_highestBit_23 : decode cX4_highestBit 23 = .ok (.iconst 0, 1) := by decide +kernel
theorem dX4_highestBit_24 : decode cX4_highestBit 24 = .ok (.ireturn, 1) := by decide +kernel
theorem dX4_writeChange_0 : decode cX4_writeChange 0 = .ok (.aload_n 0, 1) := by decide +kernel
theorem dX4_writeChange_1 : decode cX4_writeChange 1 = .ok (.getfield 12, 3) := by decide +kernel
theorem dX4_writeChange_4 : decode cX4_writeChange 4 = .ok (.iconst 0, 1) := by decide +kernel
theorem dX4_writeChange_5 : decode cX4_writeChange 5 = .ok (.putfield 64, 3) := by decide +kernel
theorem dX4_writeChange_8 : decode cX4_writeChange 8 = .ok (.aload_n 0, 1) := by decide +kernel
theorem dX4_writeChange_9 : decode cX4_writeChange 9 = .ok (.aload_n 0, 1) := by decide +kernel
theorem dX4_writeChange_10 : decode cX4_writeChange 10 = .ok (.getfield 28, 3) := by decide +kernel
theorem dX4_writeChange_13 : decode cX4_writeChange 13 = .ok (.invokevirtual 153, 3) := by decide +kernel
theorem dX4_writeChange_16 : decode cX4_writeChange 16 = .ok (.invokevirtual 121, 3) := by decide +kernel
theorem dX4_writeChange_19 : decode cX4_writeChange 19 = .ok (.ifCond .ne 6, 3) := by decide +kernel
theorem dX4_writeChange_22 : decode cX4_writeChange 22 = .ok (.bipush (-2), 2) := by decide +kernel
theorem dX4_writeChange_24 : decode cX4_writeChange 24 = .ok (.ireturn, 1) := by decide +kernel
theorem dX4_writeChange_25 : decode cX4_writeChange 25 = .ok (.iconst 0, 1) := by decide +kernel
theorem dX4_writeChange_26 : decode cX4_writeChange 26 = .ok (.istore_n 1, 1) := by decide +kernel
theorem dX4_writeChange_27 : decode cX4_writeChange 27 = .ok (.iload_n 1, 1) := by decide +kernel
theorem dX4_writeChange_28 : decode cX4_writeChange 28 = .ok (.aload_n 0, 1) := by decide +kernel
theorem dX4_writeChange_29 : decode cX4_writeChange 29 = .ok (.getfield 28, 3) := by decide +kernel
theorem dX4_writeChange_32 : decode cX4_writeChange 32 = .ok (.getfield 156, 3) := by decide +kernel
theorem dX4_writeChange_35 : decode cX4_writeChange 35 = .ok (.if_icmp .ge 80, 3) := by decide +kernel
theorem dX4_writeChange_38 : decode cX4_writeChange 38 = .ok (.aload_n 0, 1) := by decide +kernel
theorem dX4_writeChange_39 : decode cX4_writeChange 39 = .ok (.getfield 35, 3) := by decide +kernel
theorem dX4_writeChange_42 : decode cX4_writeChange 42 = .ok (.aload_n 0, 1) := by decide +kernel
theorem dX4_writeChange_43 : decode cX4_writeChange 43 = .ok (.getfield 28, 3) := by decide +kernel
theorem dX4_writeChange_46 : decode cX4_writeChange 46 = .ok (.getfield 159, 3) := by decide +kernel
theorem dX4_writeChange_49 : decode cX4_writeChange 49 = .ok (.iload_n 1, 1) := by decide +kernel
theorem dX4_writeChange_50 : decode cX4_writeChange 50 = .ok (.iaload, 1) := by decide +kernel
theorem dX4_writeChange_51 : decode cX4_writeChange 51 = .ok (.bipush 48, 2) := by decide +kernel
theorem dX4_writeChange_53 : decode cX4_writeChange 53 = .ok (.aload_n 0, 1) := by decide +kernel
theorem dX4_writeChange_54 : decode cX4_writeChange 54 = .ok (.getfield 28, 3) := by decide +kernel
theorem dX4_writeChange_57 : decode cX4_writeChange 57 = .ok (.getfield 162, 3) := by decide +kernel
theorem dX4_writeChange_60 : decode cX4_writeChange 60 = .ok (.iload_n 1, 1) := by decide +kernel
theorem dX4_writeChange_61 : decode cX4_writeChange 61 = .ok (.iaload, 1) := by decide +kernel
theorem dX4_writeChange_62 : decode cX4_writeChange 62 = .ok (.aload_n 0, 1) := by decide +kernel
theorem dX4_writeChange_63 : decode cX4_writeChange 63 = .ok (.getfield 28, 3) := by decide +kernel
theorem dX4_writeChange_66 : decode cX4_writeChange 66 = .ok (.getfield 113, 3) := by decide +kernel
theorem dX4_writeChange_69 : decode cX4_writeChange 69 = .ok (.iload_n 1, 1) := by decide +kernel
theorem dX4_writeChange_70 : decode cX4_writeChange 70 = .ok (.iaload, 1) := by decide +kernel
theorem dX4_writeChange_71 : decode cX4_writeChange 71 = .ok (.invokevirtual 124, 3) := by decide +kernel
theorem dX4_writeChange_74 : decode cX4_writeChange 74 = .ok (.aload_n 0, 1) := by decide +kernel
theorem dX4_writeChange_75 : decode cX4_writeChange 75 = .ok (.getfield 12, 3) := by decide +kernel
theorem dX4_writeChange_78 : decode cX4_writeChange 78 = .ok (.aload_n 0, 1) := by decide +kernel
theorem dX4_writeChange_79 : decode cX4_writeChange 79 = .ok (.getfield 39, 3) := by decide +kernel
theorem dX4_writeChange_82 : decode cX4_writeChange 82 = .ok (.aload_n 0, 1) := by decide +kernel
theorem dX4_writeChange_83 : decode cX4_writeChange 83 = .ok (.getfield 128, 3) := by decide +kernel
theorem dX4_writeChange_86 : decode cX4_writeChange 86 = .ok (.aload_n 0, 1) := by decide +kernel
theorem dX4_writeChange_87 : decode cX4_writeChange 87 = .ok (.getfield 35, 3) := by decide +kernel
theorem dX4_writeChange_90 : decode cX4_writeChange 90 = .ok (.invokevirtual 131, 3) := by decide +kernel
theorem dX4_writeChange_93 : decode cX4_writeChange 93 = .ok (.aload_n 0, 1) := by decide +kernel
theorem dX4_writeChange_94 : decode cX4_writeChange 94 = .ok (.dup, 1) := by decide +kernel
theorem dX4_writeChange_95 : decode cX4_writeChange 95 = .ok (.getfield 128, 3) := by decide +kernel
theorem dX4_writeChange_98 : decode cX4_writeChange 98 = .ok (.aload_n 0, 1) := by decide +kernel
theorem dX4_writeChange_99 : decode cX4_writeChange 99 = .ok (.getfield 35, 3) := by decide +kernel
theorem dX4_writeChange_102 : decode cX4_writeChange 102 = .ok (.getfield 165, 3) := by decide +kernel
theorem dX4_writeChange_105 : decode cX4_writeChange 105 = .ok (.iadd, 1) := by decide +kernel
theorem dX4_writeChange_106 : decode cX4_writeChange 106 = .ok (.putfield 128, 3) := by decide +kernel
theorem dX4_writeChange_109 : decode cX4_writeChange 109 = .ok (.iinc 1 1, 3) := by decide +kernel
theorem dX4_writeChange_112 : decode cX4_writeChange 112 = .ok (.goto (-85), 3) := by decide +kernel
theorem dX4_writeChange_115 : decode cX4_writeChange 115 = .ok (.aload_n 0, 1) := by decide +kernel
theorem dX4_writeChange_116 : decode cX4_writeChange 116 = .ok (.getfield 35, 3) := by decide +kernel
theorem dX4_writeChange_119 : decode cX4_writeChange 119 = .ok (.aload_n 0, 1) := by decide +kernel
theorem dX4_writeChange_120 : decode cX4_writeChange 120 = .ok (.getfield 28, 3) := by decide +kernel
theorem dX4_writeChange_123 : decode cX4_writeChange 123 = .ok (.getfield 156, 3) := by decide +kernel
theorem dX4_writeChange_126 : decode cX4_writeChange 126 = .ok (.invokevirtual 168, 3) := by decide +kernel
theorem dX4_writeChange_129 : decode cX4_writeChange 129 = .ok (.aload_n 0, 1) := by decide +kernel
theorem dX4_writeChange_130 : decode cX4_writeChange 130 = .ok (.getfield 12, 3) := by decide +kernel
theorem dX4_writeChange_133 : decode cX4_writeChange 133 = .ok (.aload_n 0, 1) := by decide +kernel
theorem dX4_writeChange_134 : decode cX4_writeChange 134 = .ok (.getfield 39, 3) := by decide +kernel
theorem dX4_writeChange_137 : decode cX4_writeChange 137 = .ok (.aload_n 0, 1) := by decide +kernel
theorem dX4_writeChange_138 : decode cX4_writeChange 138 = .ok (.getfield 128, 3) := by decide +kernel
theorem dX4_writeChange_141 : decode cX4_writeChange 141 = .ok (.aload_n 0, 1) := by decide +kernel
theorem dX4_writeChange_142 : decode cX4_writeChange 142 = .ok (.getfield 35, 3) := by decide +kernel
theorem dX4_writeChange_145 : decode cX4_writeChange 145 = .ok (.invokevirtual 131, 3) := by decide +kernel
theorem dX4_writeChange_148 : decode cX4_writeChange 148 = .ok (.aload_n 0, 1) := by decide +kernel
theorem dX4_writeChange_149 : decode cX4_writeChange 149 = .ok (.getfield 28, 3) := by decide +kernel
theorem dX4_writeChange_152 : decode cX4_writeChange 152 = .ok (.invokevirtual 57, 3) := by decide +kernel
theorem dX4_writeChange_155 : decode cX4_writeChange 155 = .ok (.aload_n 0, 1) := by decide +kernel
theorem dX4_writeChange_156 : decode cX4_writeChange 156 = .ok (.aload_n 0, 1) := by decide +kernel
theorem dX4_writeChange_157 : decode cX4_writeChange 157 = .ok (.getfield 12, 3) := by decide +kernel
theorem dX4_writeChange_160 : decode cX4_writeChange 160 = .ok (.getfield 64, 3) := by decide +kernel
theorem dX4_writeChange_163 : decode cX4_writeChange 163 = .ok (.invokevirtual 100, 3) := by decide +kernel
theorem dX4_writeChange_166 : decode cX4_writeChange 166 = .ok (.ireturn, 1) := by decide +kernel
theorem dX4_makeRoom_0 : decode cX4_makeRoom 0 = .ok (.aload_n 0, 1) := by decide +kernel
theorem dX4_makeRoom_1 : decode cX4_makeRoom 1 = .ok (.getfield 21, 3) := by decide +kernel
theorem dX4_makeRoom_4 : decode cX4_makeRoom 4 = .ok (.aload_n 0, 1) := by decide +kernel
theorem dX4_makeRoom_5 : decode cX4_makeRoom 5 = .ok (.getfield 12, 3) := by decide +kernel
theorem dX4_makeRoom_8 : decode cX4_makeRoom 8 = .ok (.aload_n 0, 1) := by decide +kernel
theorem dX4_makeRoom_9 : decode cX4_makeRoom 9 = .ok (.getfield 39, 3) := by decide +kernel
theorem dX4_makeRoom_12 : decode cX4_makeRoom 12 = .ok (.invokevirtual 103, 3) := by decide +kernel
theorem dX4_makeRoom_15 : decode cX4_makeRoom 15 = .ok (.aload_n 0, 1) := by decide +kernel
theorem dX4_makeRoom_16 : decode cX4_makeRoom 16 = .ok (.getfield 21, 3) := by decide +kernel
theorem dX4_makeRoom_19 : decode cX4_makeRoom 19 = .ok (.invokevirtual 171, 3) := by decide +kernel
theorem dX4_makeRoom_22 : decode cX4_makeRoom 22 = .ok (.iload_n 1, 1) := by decide +kernel
theorem dX4_makeRoom_23 : decode cX4_makeRoom 23 = .ok (.if_icmp .ge 35, 3) := by decide +kernel
theorem dX4_makeRoom_26 : decode cX4_makeRoom 26 = .ok (.aload_n 0, 1) := by decide +kernel
theorem dX4_makeRoom_27 : decode cX4_makeRoom 27 = .ok (.getfield 21, 3) := by decide +kernel
theorem dX4_makeRoom_30 : decode cX4_makeRoom 30 = .ok (.invokevirtual 174, 3) := by decide +kernel
theorem dX4_makeRoom_33 : decode cX4_makeRoom 33 = .ok (.iload_n 1, 1) := by decide +kernel
theorem dX4_makeRoom_34 : decode cX4_makeRoom 34 = .ok (.if_icmp .ge 5, 3) := by decide +kernel
theorem dX4_makeRoom_37 : decode cX4_makeRoom 37 = .ok (.iconst 0, 1) := by decide +kernel
theorem dX4_makeRoom_38 : decode cX4_makeRoom 38 = .ok (.ireturn, 1) := by decide +kernel
theorem dX4_makeRoom_39 : decode cX4_makeRoom 39 = .ok (.aload_n 0, 1) := by decide +kernel
theorem dX4_makeRoom_40 : decode cX4_makeRoom 40 = .ok (.invokevirtual 177, 3) := by decide +kernel
theorem dX4_makeRoom_43 : decode cX4_makeRoom 43 = .ok (.aload_n 0, 1) := by decide +kernel
theorem dX4_makeRoom_44 : decode cX4_makeRoom 44 = .ok (.getfield 21, 3) := by decide +kernel
theorem dX4_makeRoom_47 : decode cX4_makeRoom 47 = .ok (.aload_n 0, 1) := by decide +kernel
theorem dX4_makeRoom_48 : decode cX4_makeRoom 48 = .ok (.getfield 12, 3) := by decide +kernel
theorem dX4_makeRoom_51 : decode cX4_makeRoom 51 = .ok (.aload_n 0, 1) := by decide +kernel
theorem dX4_makeRoom_52 : decode cX4_makeRoom 52 = .ok (.getfield 39, 3) := by decide +kernel
theorem dX4_makeRoom_55 : decode cX4_makeRoom 55 = .ok (.invokevirtual 103, 3) := by decide +kernel
theorem dX4_makeRoom_58 : decode cX4_makeRoom 58 = .ok (.aload_n 0, 1) := by decide +kernel
theorem dX4_makeRoom_59 : decode cX4_makeRoom 59 = .ok (.aload_n 0, 1) := by decide +kernel
theorem dX4_makeRoom_60 : decode cX4_makeRoom 60 = .ok (.getfield 21, 3) := by decide +kernel
theorem dX4_makeRoom_63 : decode cX4_makeRoom 63 = .ok (.getfield 180, 3) := by decide +kernel
theorem dX4_makeRoom_66 : decode cX4_makeRoom 66 = .ok (.putfield 128, 3) := by decide +kernel
theorem dX4_makeRoom_69 : decode cX4_makeRoom 69 = .ok (.iconst 1, 1) := by decide +kernel
theorem dX4_makeRoom_70 : decode cX4_makeRoom 70 = .ok (.ireturn, 1) := by decide +kernel
theorem dX4_handOverByHand_0 : decode cX4_handOverByHand 0 = .ok (.aload_n 0, 1) := by decide +kernel
theorem dX4_handOverByHand_1 : decode cX4_handOverByHand 1 = .ok (.getfield 12, 3) := by decide +kernel
theorem dX4_handOverByHand_4 : decode cX4_handOverByHand 4 = .ok (.iconst 0, 1) := by decide +kernel
theorem dX4_handOverByHand_5 : decode cX4_handOverByHand 5 = .ok (.putfield 64, 3) := by decide +kernel
theorem dX4_handOverByHand_8 : decode cX4_handOverByHand 8 = .ok (.aload_n 0, 1) := by decide +kernel
theorem dX4_handOverByHand_9 : decode cX4_handOverByHand 9 = .ok (.getfield 21, 3) := by decide +kernel
theorem dX4_handOverByHand_12 : decode cX4_handOverByHand 12 = .ok (.aload_n 0, 1) := by decide +kernel
theorem dX4_handOverByHand_13 : decode cX4_handOverByHand 13 = .ok (.getfield 12, 3) := by decide +kernel
theorem dX4_handOverByHand_16 : decode cX4_handOverByHand 16 = .ok (.aload_n 0, 1) := by decide +kernel
theorem dX4_handOverByHand_17 : decode cX4_handOverByHand 17 = .ok (.getfield 39, 3) := by decide +kernel
theorem dX4_handOverByHand_20 : decode cX4_handOverByHand 20 = .ok (.invokevirtual 103, 3) := by decide +kernel
theorem dX4_handOverByHand_23 : decode cX4_handOverByHand 23 = .ok (.aload_n 0, 1) := by decide +kernel
theorem dX4_handOverByHand_24 : decode cX4_handOverByHand 24 = .ok (.invokevirtual 177, 3) := by decide +kernel
theorem dX4_handOverByHand_27 : decode cX4_handOverByHand 27 = .ok (.aload_n 0, 1) := by decide +kernel
theorem dX4_handOverByHand_28 : decode cX4_handOverByHand 28 = .ok (.aload_n 0, 1) := by decide +kernel
theorem dX4_handOverByHand_29 : decode cX4_handOverByHand 29 = .ok (.getfield 12, 3) := by decide +kernel
theorem dX4_handOverByHand_32 : decode cX4_handOverByHand 32 = .ok (.getfield 64, 3) := by decide +kernel
theorem dX4_handOverByHand_35 : decode cX4_handOverByHand 35 = .ok (.invokevirtual 100, 3) := by decide +kernel
theorem dX4_handOverByHand_38 : decode cX4_handOverByHand 38 = .ok (.ireturn, 1) := by decide +kernel
theorem dX4_handOver_0 : decode cX4_handOver 0 = .ok (.aload_n 0, 1) := by decide +kernel
theorem dX4_handOver_1 : decode cX4_handOver 1 = .ok (.getfield 12, 3) := by decide +kernel
theorem dX4_handOver_4 : decode cX4_handOver 4 = .ok (.aload_n 0, 1) := by decide +kernel
theorem dX4_handOver_5 : decode cX4_handOver 5 = .ok (.getfield 39, 3) := by decide +kernel
theorem dX4_handOver_8 : decode cX4_handOver 8 = .ok (.invokevirtual 75, 3) := by decide +kernel
theorem dX4_handOver_11 : decode cX4_handOver 11 = .ok (.istore_n 1, 1) := by decide +kernel
theorem dX4_handOver_12 : decode cX4_handOver 12 = .ok (.aload_n 0, 1) := by decide +kernel
theorem dX4_handOver_13 : decode cX4_handOver 13 = .ok (.getfield 12, 3) := by decide +kernel
theorem dX4_handOver_16 : decode cX4_handOver 16 = .ok (.iload_n 1, 1) := by decide +kernel
theorem dX4_handOver_17 : decode cX4_handOver 17 = .ok (.invokevirtual 183, 3) := by decide +kernel
theorem dX4_handOver_20 : decode cX4_handOver 20 = .ok (.ifCond .ne 11, 3) := by decide +kernel
theorem dX4_handOver_23 : decode cX4_handOver 23 = .ok (.aload_n 0, 1) := by decide +kernel
theorem dX4_handOver_24 : decode cX4_handOver 24 = .ok (.getfield 12, 3) := by decide +kernel
theorem dX4_handOver_27 : decode cX4_handOver 27 = .ok (.iload_n 1, 1) := by decide +kernel
theorem dX4_handOver_28 : decode cX4_handOver 28 = .ok (.invokevirtual 186, 3) := by decide +kernel
theorem dX4_handOver_31 : decode cX4_handOver 31 = .ok (.aload_n 0, 1) := by decide +kernel
theorem dX4_handOver_32 : decode cX4_handOver 32 = .ok (.getfield 12, 3) := by decide +kernel
theorem dX4_handOver_35 : decode cX4_handOver 35 = .ok (.iload_n 1, 1) := by decide +kernel
theorem dX4_handOver_36 : decode cX4_handOver 36 = .ok (.aload_n 0, 1) := by decide +kernel
theorem dX4_handOver_37 : decode cX4_handOver 37 = .ok (.getfield 12, 3) := by decide +kernel
theorem dX4_handOver_40 : decode cX4_handOver 40 = .ok (.aload_n 0, 1) := by decide +kernel
theorem dX4_handOver_41 : decode cX4_handOver 41 = .ok (.getfield 39, 3) := by decide +kernel
theorem dX4_handOver_44 : decode cX4_handOver 44 = .ok (.invokevirtual 189, 3) := by decide +kernel
theorem dX4_handOver_47 : decode cX4_handOver 47 = .ok (.iconst 1, 1) := by decide +kernel
theorem dX4_handOver_48 : decode cX4_handOver 48 = .ok (.iadd, 1) := by decide +kernel
theorem dX4_handOver_49 : decode cX4_handOver 49 = .ok (.ldc 192, 2) := by decide +kernel
theorem dX4_handOver_51 : decode cX4_handOver 51 = .ok (.irem, 1) := by decide +kernel
theorem dX4_handOver_52 : decode cX4_handOver 52 = .ok (.invokevirtual 79, 3) := by decide +kernel
theorem dX4_handOver_55 : decode cX4_handOver 55 = .ok (.iconst 4, 1) := by decide +kernel
theorem dX4_handOver_56 : decode cX4_handOver 56 = .ok (.istore_n 2, 1) := by decide +kernel
theorem dX4_handOver_57 : decode cX4_handOver 57 = .ok (.iconst 0, 1) := by decide +kernel
theorem dX4_handOver_58 : decode cX4_handOver 58 = .ok (.istore_n 3, 1) := by decide +kernel
theorem dX4_handOver_59 : decode cX4_handOver 59 = .ok (.iload_n 3, 1) := by decide +kernel
theorem dX4_handOver_60 : decode cX4_handOver 60 = .ok (.bipush 48, 2) := by decide +kernel
theorem dX4_handOver_62 : decode cX4_handOver 62 = .ok (.if_icmp .ge 114, 3) := by decide +kernel
theorem dX4_handOver_65 : decode cX4_handOver 65 = .ok (.aload_n 0, 1) := by decide +kernel
theorem dX4_handOver_66 : decode cX4_handOver 66 = .ok (.getfield 21, 3) := by decide +kernel
theorem dX4_handOver_69 : decode cX4_handOver 69 = .ok (.iload_n 3, 1) := by decide +kernel
theorem dX4_handOver_70 : decode cX4_handOver 70 = .ok (.invokevirtual 117, 3) := by decide +kernel
theorem dX4_handOver_73 : decode cX4_handOver 73 = .ok (.ifCond .ne 6, 3) := by decide +kernel
theorem dX4_handOver_76 : decode cX4_handOver 76 = .ok (.goto 94, 3) := by decide +kernel
theorem dX4_handOver_79 : decode cX4_handOver 79 = .ok (.aload_n 0, 1) := by decide +kernel
theorem dX4_handOver_80 : decode cX4_handOver 80 = .ok (.getfield 21, 3) := by decide +kernel
theorem dX4_handOver_83 : decode cX4_handOver 83 = .ok (.aload_n 0, 1) := by decide +kernel
theorem dX4_handOver_84 : decode cX4_handOver 84 = .ok (.getfield 21, 3) := by decide +kernel
theorem dX4_handOver_87 : decode cX4_handOver 87 = .ok (.iload_n 3, 1) := by decide +kernel
theorem dX4_handOver_88 : decode cX4_handOver 88 = .ok (.invokevirtual 193, 3) := by decide +kernel
theorem dX4_handOver_91 : decode cX4_handOver 91 = .ok (.invokevirtual 196, 3) := by decide +kernel
theorem dX4_handOver_94 : decode cX4_handOver 94 = .ok (.l2i, 1) := by decide +kernel
theorem dX4_handOver_95 : decode cX4_handOver 95 = .ok (.istore 4, 2) := by decide +kernel
theorem dX4_handOver_97 : decode cX4_handOver 97 = .ok (.iload_n 3, 1) := by decide +kernel
theorem dX4_handOver_98 : decode cX4_handOver 98 = .ok (.bipush 32, 2) := by decide +kernel
theorem dX4_handOver_100 : decode cX4_handOver 100 = .ok (.if_icmp .ge 26, 3) := by decide +kernel
theorem dX4_handOver_103 : decode cX4_handOver 103 = .ok (.aload_n 0, 1) := by decide +kernel
theorem dX4_handOver_104 : decode cX4_handOver 104 = .ok (.getfield 35, 3) := by decide +kernel
theorem dX4_handOver_107 : decode cX4_handOver 107 = .ok (.iload_n 3, 1) := by decide +kernel
theorem dX4_handOver_108 : decode cX4_handOver 108 = .ok (.bipush 16, 2) := by decide +kernel
theorem dX4_handOver_110 : decode cX4_handOver 110 = .ok (.iload 4, 2) := by decide +kernel
theorem dX4_handOver_112 : decode cX4_handOver 112 = .ok (.aload_n 0, 1) := by decide +kernel
theorem dX4_handOver_113 : decode cX4_handOver 113 = .ok (.getfield 21, 3) := by decide +kernel
theorem dX4_handOver_116 : decode cX4_handOver 116 = .ok (.iload_n 3, 1) := by decide +kernel
theorem dX4_handOver_117 : decode cX4_handOver 117 = .ok (.invokevirtual 199, 3) := by decide +kernel
theorem dX4_handOver_120 : decode cX4_handOver 120 = .ok (.invokevirtual 124, 3) := by decide +kernel
theorem dX4_handOver_123 : decode cX4_handOver 123 = .ok (.goto 13, 3) := by decide +kernel
theorem dX4_handOver_126 : decode cX4_handOver 126 = .ok (.aload_n 0, 1) := by decide +kernel
theorem dX4_handOver_127 : decode cX4_handOver 127 = .ok (.getfield 35, 3) := by decide +kernel
theorem dX4_handOver_130 : decode cX4_handOver 130 = .ok (.iload_n 3, 1) := by decide +kernel
theorem dX4_handOver_131 : decode cX4_handOver 131 = .ok (.iload 4, 2) := by decide +kernel
theorem dX4_handOver_133 : decode cX4_handOver 133 = .ok (.invokevirtual 150, 3) := by decide +kernel
theorem dX4_handOver_136 : decode cX4_handOver 136 = .ok (.aload_n 0, 1) := by decide +kernel
theorem dX4_handOver_137 : decode cX4_handOver 137 = .ok (.getfield 12, 3) := by decide +kernel
theorem dX4_handOver_140 : decode cX4_handOver 140 = .ok (.iload_n 1, 1) := by decide +kernel
theorem dX4_handOver_141 : decode cX4_handOver 141 = .ok (.iload_n 2, 1) := by decide +kernel
theorem dX4_handOver_142 : decode cX4_handOver 142 = .ok (.aload_n 0, 1) := by decide +kernel
theorem dX4_handOver_143 : decode cX4_handOver 143 = .ok (.getfield 35, 3) := by decide +kernel
theorem dX4_handOver_146 : decode cX4_handOver 146 = .ok (.invokevirtual 131, 3) := by decide +kernel
theorem dX4_handOver_149 : decode cX4_handOver 149 = .ok (.iload_n 2, 1) := by decide +kernel
theorem dX4_handOver_150 : decode cX4_handOver 150 = .ok (.iload_n 3, 1) := by decide +kernel
theorem dX4_handOver_151 : decode cX4_handOver 151 = .ok (.bipush 32, 2) := by decide +kernel
theorem dX4_handOver_153 : decode cX4_handOver 153 = .ok (.if_icmp .ge 13, 3) := by decide +kernel
theorem dX4_handOver_156 : decode cX4_handOver 156 = .ok (.aload_n 0, 1) := by decide +kernel
theorem dX4_handOver_157 : decode cX4_handOver 157 = .ok (.getfield 35, 3) := by decide +kernel
theorem dX4_handOver_160 : decode cX4_handOver 160 = .ok (.getfield 165, 3) := by decide +kernel
theorem dX4_handOver_163 : decode cX4_handOver 163 = .ok (.goto 5, 3) := by decide +kernel
theorem dX4_handOver_166 : decode cX4_handOver 166 = .ok (.bipush 14, 2) := by decide +kernel
theorem dX4_handOver_168 : decode cX4_handOver 168 = .ok (.iadd, 1) := by decide +kernel
theorem dX4_handOver_169 : decode cX4_handOver 169 = .ok (.istore_n 2, 1) := by decide +kernel
theorem dX4_handOver_170 : decode cX4_handOver 170 = .ok (.iinc 3 1, 3) := by decide +kernel
theorem dX4_handOver_173 : decode cX4_handOver 173 = .ok (.goto (-114), 3) := by decide +kernel
theorem dX4_handOver_176 : decode cX4_handOver 176 = .ok (.aload_n 0, 1) := by decide +kernel
theorem dX4_handOver_177 : decode cX4_handOver 177 = .ok (.getfield 12, 3) := by decide +kernel
theorem dX4_handOver_180 : decode cX4_handOver 180 = .ok (.iload_n 1, 1) := by decide +kernel
theorem dX4_handOver_181 : decode cX4_handOver 181 = .ok (.iconst 0, 1) := by decide +kernel
theorem dX4_handOver_182 : decode cX4_handOver 182 = .ok (.bipush 63, 2) := by decide +kernel
theorem dX4_handOver_184 : decode cX4_handOver 184 = .ok (.invokevirtual 82, 3) := by decide +kernel
theorem dX4_handOver_187 : decode cX4_handOver 187 = .ok (.aload_n 0, 1) := by decide +kernel
theorem dX4_handOver_188 : decode cX4_handOver 188 = .ok (.getfield 12, 3) := by decide +kernel
theorem dX4_handOver_191 : decode cX4_handOver 191 = .ok (.aload_n 0, 1) := by decide +kernel
theorem dX4_handOver_192 : decode cX4_handOver 192 = .ok (.getfield 39, 3) := by decide +kernel
theorem dX4_handOver_195 : decode cX4_handOver 195 = .ok (.invokevirtual 186, 3) := by decide +kernel
theorem dX4_handOver_198 : decode cX4_handOver 198 = .ok (.aload_n 0, 1) := by decide +kernel
theorem dX4_handOver_199 : decode cX4_handOver 199 = .ok (.getfield 12, 3) := by decide +kernel
theorem dX4_handOver_202 : decode cX4_handOver 202 = .ok (.getfield 60, 3) := by decide +kernel
theorem dX4_handOver_205 : decode cX4_handOver 205 = .ok (.ifCond .eq 18, 3) := by decide +kernel
theorem dX4_handOver_208 : decode cX4_handOver 208 = .ok (.aload_n 0, 1) := by decide +kernel
theorem dX4_handOver_209 : decode cX4_handOver 209 = .ok (.iload_n 1, 1) := by decide +kernel
theorem dX4_handOver_210 : decode cX4_handOver 210 = .ok (.putfield 39, 3) := by decide +kernel
theorem dX4_handOver_213 : decode cX4_handOver 213 = .ok (.aload_n 0, 1) := by decide +kernel
theorem dX4_handOver_214 : decode cX4_handOver 214 = .ok (.dup, 1) := by decide +kernel
theorem dX4_handOver_215 : decode cX4_handOver 215 = .ok (.getfield 47, 3) := by decide +kernel
theorem dX4_handOver_218 : decode cX4_handOver 218 = .ok (.iconst 1, 1) := by decide +kernel
theorem dX4_handOver_219 : decode cX4_handOver 219 = .ok (.iadd, 1) := by decide +kernel
theorem dX4_handOver_220 : decode cX4_handOver 220 = .ok (.putfield 47, 3) := by decide +kernel
theorem dX4_handOver_223 : decode cX4_handOver 223 = .ok (.return_, 1) := by decide +kernel
theorem dX4_costOf_0 : decode cX4_costOf 0 = .ok (.aload_n 0, 1) := by decide +kernel
theorem dX4_costOf_1 : decode cX4_costOf 1 = .ok (.getfield 21, 3) := by decide +kernel
theorem dX4_costOf_4 : decode cX4_costOf 4 = .ok (.aload_n 0, 1) := by decide +kernel
theorem dX4_costOf_5 : decode cX4_costOf 5 = .ok (.getfield 12, 3) := by decide +kernel
theorem dX4_costOf_8 : decode cX4_costOf 8 = .ok (.aload_n 0, 1) := by decide +kernel
theorem dX4_costOf_9 : decode cX4_costOf 9 = .ok (.getfield 39, 3) := by decide +kernel
theorem dX4_costOf_12 : decode cX4_costOf 12 = .ok (.invokevirtual 103, 3) := by decide +kernel
theorem dX4_costOf_15 : decode cX4_costOf 15 = .ok (.aload_n 0, 1) := by decide +kernel
theorem dX4_costOf_16 : decode cX4_costOf 16 = .ok (.getfield 21, 3) := by decide +kernel
theorem dX4_costOf_19 : decode cX4_costOf 19 = .ok (.invokevirtual 171, 3) := by decide +kernel
theorem dX4_costOf_22 : decode cX4_costOf 22 = .ok (.iload_n 1, 1) := by decide +kernel
theorem dX4_costOf_23 : decode cX4_costOf 23 = .ok (.if_icmp .lt 5, 3) := by decide +kernel
theorem dX4_costOf_26 : decode cX4_costOf 26 = .ok (.iload_n 1, 1) := by decide +kernel
theorem dX4_costOf_27 : decode cX4_costOf 27 = .ok (.ireturn, 1) := by decide +kernel
theorem dX4_costOf_28 : decode cX4_costOf 28 = .ok (.aload_n 0, 1) := by decide +kernel
theorem dX4_costOf_29 : decode cX4_costOf 29 = .ok (.getfield 21, 3) := by decide +kernel
theorem dX4_costOf_32 : decode cX4_costOf 32 = .ok (.invokevirtual 174, 3) := by decide +kernel
theorem dX4_costOf_35 : decode cX4_costOf 35 = .ok (.iload_n 1, 1) := by decide +kernel
theorem dX4_costOf_36 : decode cX4_costOf 36 = .ok (.if_icmp .ge 8, 3) := by decide +kernel
theorem dX4_costOf_39 : decode cX4_costOf 39 = .ok (.bipush (-2), 2) := by decide +kernel
theorem dX4_costOf_41 : decode cX4_costOf 41 = .ok (.goto 9, 3) := by decide +kernel
theorem dX4_costOf_44 : decode cX4_costOf 44 = .ok (.aload_n 0, 1) := by decide +kernel
theorem dX4_costOf_45 : decode cX4_costOf 45 = .ok (.invokevirtual 202, 3) := by decide +kernel
theorem dX4_costOf_48 : decode cX4_costOf 48 = .ok (.iload_n 1, 1) := by decide +kernel
theorem dX4_costOf_49 : decode cX4_costOf 49 = .ok (.iadd, 1) := by decide +kernel
theorem dX4_costOf_50 : decode cX4_costOf 50 = .ok (.ireturn, 1) := by decide +kernel
theorem dX4_handoverDoings_0 : decode cX4_handoverDoings 0 = .ok (.aload_n 0, 1) := by decide +kernel
theorem dX4_handoverDoings_1 : decode cX4_handoverDoings 1 = .ok (.getfield 12, 3) := by decide +kernel
theorem dX4_handoverDoings_4 : decode cX4_handoverDoings 4 = .ok (.aload_n 0, 1) := by decide +kernel
theorem dX4_handoverDoings_5 : decode cX4_handoverDoings 5 = .ok (.getfield 12, 3) := by decide +kernel
theorem dX4_handoverDoings_8 : decode cX4_handoverDoings 8 = .ok (.aload_n 0, 1) := by decide +kernel
theorem dX4_handoverDoings_9 : decode cX4_handoverDoings 9 = .ok (.getfield 39, 3) := by decide +kernel
theorem dX4_handoverDoings_12 : decode cX4_handoverDoings 12 = .ok (.invokevirtual 75, 3) := by decide +kernel
theorem dX4_handoverDoings_15 : decode cX4_handoverDoings 15 = .ok (.invokevirtual 183, 3) := by decide +kernel
theorem dX4_handoverDoings_18 : decode cX4_handoverDoings 18 = .ok (.ifCond .eq 7, 3) := by decide +kernel
theorem dX4_handoverDoings_21 : decode cX4_handoverDoings 21 = .ok (.iconst 0, 1) := by decide +kernel
theorem dX4_handoverDoings_22 : decode cX4_handoverDoings 22 = .ok (.goto 4, 3) := by decide +kernel
theorem dX4_handoverDoings_25 : decode cX4_handoverDoings 25 = .ok (.iconst 1, 1) := by decide +kernel
theorem dX4_handoverDoings_26 : decode cX4_handoverDoings 26 = .ok (.istore_n 1, 1) := by decide +kernel
theorem dX4_handoverDoings_27 : decode cX4_handoverDoings 27 = .ok (.iconst 5, 1) := by decide +kernel
theorem dX4_handoverDoings_28 : decode cX4_handoverDoings 28 = .ok (.istore_n 2, 1) := by decide +kernel
theorem dX4_handoverDoings_29 : decode cX4_handoverDoings 29 = .ok (.iload_n 1, 1) := by decide +kernel
theorem dX4_handoverDoings_30 : decode cX4_handoverDoings 30 = .ok (.iload_n 2, 1) := by decide +kernel
theorem dX4_handoverDoings_31 : decode cX4_handoverDoings 31 = .ok (.iadd, 1) := by decide +kernel
theorem dX4_handoverDoings_32 : decode cX4_handoverDoings 32 = .ok (.aload_n 0, 1) := by decide +kernel
theorem dX4_handoverDoings_33 : decode cX4_handoverDoings 33 = .ok (.getfield 21, 3) := by decide +kernel
theorem dX4_handoverDoings_36 : decode cX4_handoverDoings 36 = .ok (.invokevirtual 205, 3) := by decide +kernel
theorem dX4_handoverDoings_39 : decode cX4_handoverDoings 39 = .ok (.iadd, 1) := by decide +kernel
theorem dX4_handoverDoings_40 : decode cX4_handoverDoings 40 = .ok (.iconst 1, 1) := by decide +kernel
theorem dX4_handoverDoings_41 : decode cX4_handoverDoings 41 = .ok (.iadd, 1) := by decide +kernel
theorem dX4_handoverDoings_42 : decode cX4_handoverDoings 42 = .ok (.ireturn, 1) := by decide +kernel
theorem dX4_wearOut_0 : decode cX4_wearOut 0 = .ok (.iconst 0, 1) := by decide +kernel
theorem dX4_wearOut_1 : decode cX4_wearOut 1 = .ok (.istore_n 2, 1) := by decide +kernel
theorem dX4_wearOut_2 : decode cX4_wearOut 2 = .ok (.iload_n 2, 1) := by decide +kernel
theorem dX4_wearOut_3 : decode cX4_wearOut 3 = .ok (.iload_n 1, 1) := by decide +kernel
theorem dX4_wearOut_4 : decode cX4_wearOut 4 = .ok (.if_icmp .ge 67, 3) := by decide +kernel
theorem dX4_wearOut_7 : decode cX4_wearOut 7 = .ok (.aload_n 0, 1) := by decide +kernel
theorem dX4_wearOut_8 : decode cX4_wearOut 8 = .ok (.getfield 12, 3) := by decide +kernel
theorem dX4_wearOut_11 : decode cX4_wearOut 11 = .ok (.aload_n 0, 1) := by decide +kernel
theorem dX4_wearOut_12 : decode cX4_wearOut 12 = .ok (.getfield 39, 3) := by decide +kernel
theorem dX4_wearOut_15 : decode cX4_wearOut 15 = .ok (.invokevirtual 75, 3) := by decide +kernel
theorem dX4_wearOut_18 : decode cX4_wearOut 18 = .ok (.istore_n 3, 1) := by decide +kernel
theorem dX4_wearOut_19 : decode cX4_wearOut 19 = .ok (.aload_n 0, 1) := by decide +kernel
theorem dX4_wearOut_20 : decode cX4_wearOut 20 = .ok (.getfield 12, 3) := by decide +kernel
theorem dX4_wearOut_23 : decode cX4_wearOut 23 = .ok (.aload_n 0, 1) := by decide +kernel
theorem dX4_wearOut_24 : decode cX4_wearOut 24 = .ok (.getfield 39, 3) := by decide +kernel
theorem dX4_wearOut_27 : decode cX4_wearOut 27 = .ok (.invokevirtual 208, 3) := by decide +kernel
theorem dX4_wearOut_30 : decode cX4_wearOut 30 = .ok (.ifCond .eq 35, 3) := by decide +kernel
theorem dX4_wearOut_33 : decode cX4_wearOut 33 = .ok (.aload_n 0, 1) := by decide +kernel
theorem dX4_wearOut_34 : decode cX4_wearOut 34 = .ok (.getfield 12, 3) := by decide +kernel
theorem dX4_wearOut_37 : decode cX4_wearOut 37 = .ok (.iload_n 3, 1) := by decide +kernel
theorem dX4_wearOut_38 : decode cX4_wearOut 38 = .ok (.invokevirtual 208, 3) := by decide +kernel
theorem dX4_wearOut_41 : decode cX4_wearOut 41 = .ok (.ifCond .eq 24, 3) := by decide +kernel
theorem dX4_wearOut_44 : decode cX4_wearOut 44 = .ok (.aload_n 0, 1) := by decide +kernel
theorem dX4_wearOut_45 : decode cX4_wearOut 45 = .ok (.getfield 12, 3) := by decide +kernel
theorem dX4_wearOut_48 : decode cX4_wearOut 48 = .ok (.getfield 211, 3) := by decide +kernel
theorem dX4_wearOut_51 : decode cX4_wearOut 51 = .ok (.aload_n 0, 1) := by decide +kernel
theorem dX4_wearOut_52 : decode cX4_wearOut 52 = .ok (.getfield 39, 3) := by decide +kernel
theorem dX4_wearOut_55 : decode cX4_wearOut 55 = .ok (.dup2, 1) := by decide +kernel
theorem dX4_wearOut_56 : decode cX4_wearOut 56 = .ok (.iaload, 1) := by decide +kernel
theorem dX4_wearOut_57 : decode cX4_wearOut 57 = .ok (.iconst 1, 1) := by decide +kernel
theorem dX4_wearOut_58 : decode cX4_wearOut 58 = .ok (.iadd, 1) := by decide +kernel
theorem dX4_wearOut_59 : decode cX4_wearOut 59 = .ok (.iastore, 1) := by decide +kernel
theorem dX4_wearOut_60 : decode cX4_wearOut 60 = .ok (.aload_n 0, 1) := by decide +kernel
theorem dX4_wearOut_61 : decode cX4_wearOut 61 = .ok (.iload_n 3, 1) := by decide +kernel
theorem dX4_wearOut_62 : decode cX4_wearOut 62 = .ok (.putfield 39, 3) := by decide +kernel
theorem dX4_wearOut_65 : decode cX4_wearOut 65 = .ok (.iinc 2 1, 3) := by decide +kernel
theorem dX4_wearOut_68 : decode cX4_wearOut 68 = .ok (.goto (-66), 3) := by decide +kernel
theorem dX4_wearOut_71 : decode cX4_wearOut 71 = .ok (.return_, 1) := by decide +kernel
end
section
theorem dX5_init_0 : decode cX5_init 0 = .ok (.aload_n 0, 1) := by decide +kernel
theorem dX5_init_1 : decode cX5_init 1 = .ok (.invokespecial 3, 3) := by decide +kernel
theorem dX5_init_4 : decode cX5_init 4 = .ok (.aload_n 0, 1) := by decide +kernel
theorem dX5_init_5 : decode cX5_init 5 = .ok (.new 9, 3) := by decide +kernel
theorem dX5_init_8 : decode cX5_init 8 = .ok (.dup, 1) := by decide +kernel
theorem dX5_init_9 : decode cX5_init 9 = .ok (.invokespecial 11, 3) := by decide +kernel
theorem dX5_init_12 : decode cX5_init 12 = .ok (.putfield 12, 3) := by decide +kernel
theorem dX5_init_15 : decode cX5_init 15 = .ok (.aload_n 0, 1) := by decide +kernel
theorem dX5_init_16 : decode cX5_init 16 = .ok (.new 9, 3) := by decide +kernel
theorem dX5_init_19 : decode cX5_init 19 = .ok (.dup, 1) := by decide +kernel
theorem dX5_init_20 : decode cX5_init 20 = .ok (.invokespecial 11, 3) := by decide +kernel
theorem dX5_init_23 : decode cX5_init 23 = .ok (.putfield 16, 3) := by decide +kernel
theorem dX5_init_26 : decode cX5_init 26 = .ok (.return_, 1) := by decide +kernel
theorem dX5_chip_0 : decode cX5_chip 0 = .ok (.iload_n 1, 1) := by decide +kernel
theorem dX5_chip_1 : decode cX5_chip 1 = .ok (.iconst 2, 1) := by decide +kernel
theorem dX5_chip_2 : decode cX5_chip 2 = .ok (.bipush 6, 2) := by decide +kernel
theorem dX5_chip_4 : decode cX5_chip 4 = .ok (.invokestatic 19, 3) := by decide +kernel
theorem dX5_chip_7 : decode cX5_chip 7 = .ok (.ifCond .eq 15, 3) := by decide +kernel
theorem dX5_chip_10 : decode cX5_chip 10 = .ok (.iload_n 2, 1) := by decide +kernel
theorem dX5_chip_11 : decode cX5_chip 11 = .ok (.bipush 32, 2) := by decide +kernel
theorem dX5_chip_13 : decode cX5_chip 13 = .ok (.sipush 128, 3) := by decide +kernel
theorem dX5_chip_16 : decode cX5_chip 16 = .ok (.invokestatic 19, 3) := by decide +kernel
theorem dX5_chip_19 : decode cX5_chip 19 = .ok (.ifCond .ne 5, 3) := by decide +kernel
theorem dX5_chip_22 : decode cX5_chip 22 = .ok (.iconst 0, 1) := by decide +kernel
theorem dX5_chip_23 : decode cX5_chip 23 = .ok (.ireturn, 1) := by decide +kernel
theorem dX5_chip_24 : decode cX5_chip 24 = .ok (.aload_n 0, 1) := by decide +kernel
theorem dX5_chip_25 : decode cX5_chip 25 = .ok (.getfield 12, 3) := by decide +kernel
theorem dX5_chip_28 : decode cX5_chip 28 = .ok (.iload_n 1, 1) := by decide +kernel
theorem dX5_chip_29 : decode cX5_chip 29 = .ok (.iload_n 2, 1) := by decide +kernel
theorem dX5_chip_30 : decode cX5_chip 30 = .ok (.invokevirtual 23, 3) := by decide +kernel
theorem dX5_chip_33 : decode cX5_chip 33 = .ok (.iconst 1, 1) := by decide +kernel
theorem dX5_chip_34 : decode cX5_chip 34 = .ok (.ireturn, 1) := by decide +kernel
theorem dX5_on_0 : decode cX5_on 0 = .ok (.aload_n 0, 1) := by decide +kernel
theorem dX5_on_1 : decode cX5_on 1 = .ok (.getfield 12, 3) := by decide +kernel
theorem dX5_on_4 : decode cX5_on 4 = .ok (.invokevirtual 27, 3) := by decide +kernel
theorem dX5_on_7 : decode cX5_on 7 = .ok (.ifCond .eq 7, 3) := by decide +kernel
theorem dX5_on_10 : decode cX5_on 10 = .ok (.iconst (-1), 1) := by decide +kernel
theorem dX5_on_11 : decode cX5_on 11 = .ok (.goto 10, 3) := by decide +kernel
theorem dX5_on_14 : decode cX5_on 14 = .ok (.aload_n 0, 1) := by decide +kernel
theorem dX5_on_15 : decode cX5_on 15 = .ok (.getfield 12, 3) := by decide +kernel
theorem dX5_on_18 : decode cX5_on 18 = .ok (.invokevirtual 31, 3) := by decide +kernel
theorem dX5_on_21 : decode cX5_on 21 = .ok (.ireturn, 1) := by decide +kernel
theorem dX5_off_0 : decode cX5_off 0 = .ok (.aload_n 0, 1) := by decide +kernel
theorem dX5_off_1 : decode cX5_off 1 = .ok (.getfield 12, 3) := by decide +kernel
theorem dX5_off_4 : decode cX5_off 4 = .ok (.invokevirtual 27, 3) := by decide +kernel
theorem dX5_off_7 : decode cX5_off 7 = .ok (.ifCond .ne 5, 3) := by decide +kernel
theorem dX5_off_10 : decode cX5_off 10 = .ok (.iconst 0, 1) := by decide +kernel
theorem dX5_off_11 : decode cX5_off 11 = .ok (.ireturn, 1) := by decide +kernel
theorem dX5_off_12 : decode cX5_off 12 = .ok (.aload_n 0, 1) := by decide +kernel
theorem dX5_off_13 : decode cX5_off 13 = .ok (.getfield 12, 3) := by decide +kernel
theorem dX5_off_16 : decode cX5_off 16 = .ok (.invokevirtual 35, 3) := by decide +kernel
theorem dX5_off_19 : decode cX5_off 19 = .ok (.iconst 1, 1) := by decide +kernel
theorem dX5_off_20 : decode cX5_off 20 = .ok (.ireturn, 1) := by decide +kernel
theorem dX5_power_0 : decode cX5_power 0 = .ok (.iload_n 1, 1) := by decide +kernel
theorem dX5_power_1 : decode cX5_power 1 = .ok (.iconst 0, 1) := by decide +kernel
theorem dX5_power_2 : decode cX5_power 2 = .ok (.sipush 9999, 3) := by decide +kernel
theorem dX5_power_5 : decode cX5_power 5 = .ok (.invokestatic 19, 3) := by decide +kernel
theorem dX5_power_8 : decode cX5_power 8 = .ok (.ifCond .eq 14, 3) := by decide +kernel
theorem dX5_power_11 : decode cX5_power 11 = .ok (.iload_n 2, 1) := by decide +kernel
theorem dX5_power_12 : decode cX5_power 12 = .ok (.iconst 0, 1) := by decide +kernel
theorem dX5_power_13 : decode cX5_power 13 = .ok (.sipush 255, 3) := by decide +kernel
theorem dX5_power_16 : decode cX5_power 16 = .ok (.invokestatic 19, 3) := by decide +kernel
theorem dX5_power_19 : decode cX5_power 19 = .ok (.ifCond .ne 5, 3) := by decide +kernel
theorem dX5_power_22 : decode cX5_power 22 = .ok (.iconst 0, 1) := by decide +kernel
theorem dX5_power_23 : decode cX5_power 23 = .ok (.ireturn, 1) := by decide +kernel
theorem dX5_power_24 : decode cX5_power 24 = .ok (.aload_n 0, 1) := by decide +kernel
theorem dX5_power_25 : decode cX5_power 25 = .ok (.getfield 12, 3) := by decide +kernel
theorem dX5_power_28 : decode cX5_power 28 = .ok (.getfield 38, 3) := by decide +kernel
theorem dX5_power_31 : decode cX5_power 31 = .ok (.iload_n 1, 1) := by decide +kernel
theorem dX5_power_32 : decode cX5_power 32 = .ok (.iload_n 2, 1) := by decide +kernel
theorem dX5_power_33 : decode cX5_power 33 = .ok (.invokevirtual 42, 3) := by decide +kernel
theorem dX5_power_36 : decode cX5_power 36 = .ok (.iconst 1, 1) := by decide +kernel
theorem dX5_power_37 : decode cX5_power 37 = .ok (.ireturn, 1) := by decide +kernel
theorem dX5_rot_0 : decode cX5_rot 0 = .ok (.aload_n 0, 1) := by decide +kernel
theorem dX5_rot_1 : decode cX5_rot 1 = .ok (.getfield 12, 3) := by decide +kernel
theorem dX5_rot_4 : decode cX5_rot 4 = .ok (.invokevirtual 27, 3) := by decide +kernel
theorem dX5_rot_7 : decode cX5_rot 7 = .ok (.ifCond .ne 29, 3) := by decide +kernel
theorem dX5_rot_10 : decode cX5_rot 10 = .ok (.aload_n 0, 1) := by decide +kernel
theorem dX5_rot_11 : decode cX5_rot 11 = .ok (.getfield 12, 3) := by decide +kernel
theorem dX5_rot_14 : decode cX5_rot 14 = .ok (.getfield 38, 3) := by decide +kernel
theorem dX5_rot_17 : decode cX5_rot 17 = .ok (.iload_n 1, 1) := by decide +kernel
theorem dX5_rot_18 : decode cX5_rot 18 = .ok (.iload_n 2, 1) := by decide +kernel
theorem dX5_rot_19 : decode cX5_rot 19 = .ok (.invokevirtual 47, 3) := by decide +kernel
theorem dX5_rot_22 : decode cX5_rot 22 = .ok (.ifCond .eq 14, 3) := by decide +kernel
theorem dX5_rot_25 : decode cX5_rot 25 = .ok (.iload_n 3, 1) := by decide +kernel
theorem dX5_rot_26 : decode cX5_rot 26 = .ok (.iconst 0, 1) := by decide +kernel
theorem dX5_rot_27 : decode cX5_rot 27 = .ok (.sipush 255, 3) := by decide +kernel
theorem dX5_rot_30 : decode cX5_rot 30 = .ok (.invokestatic 19, 3) := by decide +kernel
theorem dX5_rot_33 : decode cX5_rot 33 = .ok (.ifCond .ne 5, 3) := by decide +kernel
theorem dX5_rot_36 : decode cX5_rot 36 = .ok (.iconst (-1), 1) := by decide +kernel
theorem dX5_rot_37 : decode cX5_rot 37 = .ok (.ireturn, 1) := by decide +kernel
theorem dX5_rot_38 : decode cX5_rot 38 = .ok (.aload_n 0, 1) := by decide +kernel
theorem dX5_rot_39 : decode cX5_rot 39 = .ok (.getfield 12, 3) := by decide +kernel
theorem dX5_rot_42 : decode cX5_rot 42 = .ok (.getfield 38, 3) := by decide +kernel
theorem dX5_rot_45 : decode cX5_rot 45 = .ok (.iload_n 1, 1) := by decide +kernel
theorem dX5_rot_46 : decode cX5_rot 46 = .ok (.iload_n 2, 1) := by decide +kernel
theorem dX5_rot_47 : decode cX5_rot 47 = .ok (.iload_n 3, 1) := by decide +kernel
theorem dX5_rot_48 : decode cX5_rot 48 = .ok (.invokevirtual 51, 3) := by decide +kernel
theorem dX5_rot_51 : decode cX5_rot 51 = .ok (.ireturn, 1) := by decide +kernel
theorem dX5_set_0 : decode cX5_set 0 = .ok (.aload_n 0, 1) := by decide +kernel
theorem dX5_set_1 : decode cX5_set 1 = .ok (.getfield 12, 3) := by decide +kernel
theorem dX5_set_4 : decode cX5_set 4 = .ok (.invokevirtual 27, 3) := by decide +kernel
theorem dX5_set_7 : decode cX5_set 7 = .ok (.ifCond .eq 11, 3) := by decide +kernel
theorem dX5_set_10 : decode cX5_set 10 = .ok (.iload_n 1, 1) := by decide +kernel
theorem dX5_set_11 : decode cX5_set 11 = .ok (.iload_n 3, 1) := by decide +kernel
theorem dX5_set_12 : decode cX5_set 12 = .ok (.invokestatic 55, 3) := by decide +kernel
theorem dX5_set_15 : decode cX5_set 15 = .ok (.ifCond .ne 5, 3) := by decide +kernel
theorem dX5_set_18 : decode cX5_set 18 = .ok (.iconst (-1), 1) := by decide +kernel
theorem dX5_set_19 : decode cX5_set 19 = .ok (.ireturn, 1) := by decide +kernel
theorem dX5_set_20 : decode cX5_set 20 = .ok (.aload_n 0, 1) := by decide +kernel
theorem dX5_set_21 : decode cX5_set 21 = .ok (.getfield 12, 3) := by decide +kernel
theorem dX5_set_24 : decode cX5_set 24 = .ok (.getfield 58, 3) := by decide +kernel
theorem dX5_set_27 : decode cX5_set 27 = .ok (.getfield 62, 3) := by decide +kernel
theorem dX5_set_30 : decode cX5_set 30 = .ok (.ifCond .eq 17, 3) := by decide +kernel
theorem dX5_set_33 : decode cX5_set 33 = .ok (.aload_n 0, 1) := by decide +kernel
theorem dX5_set_34 : decode cX5_set 34 = .ok (.getfield 12, 3) := by decide +kernel
theorem dX5_set_37 : decode cX5_set 37 = .ok (.getfield 58, 3) := by decide +kernel
theorem dX5_set_40 : decode cX5_set 40 = .ok (.iload_n 1, 1) := by decide +kernel
theorem dX5_set_41 : decode cX5_set 41 = .ok (.iload_n 2, 1) := by decide +kernel
theorem dX5_set_42 : decode cX5_set 42 = .ok (.iload_n 3, 1) := by decide +kernel
theorem dX5_set_43 : decode cX5_set 43 = .ok (.invokevirtual 68, 3) := by decide +kernel
theorem dX5_set_46 : decode cX5_set 46 = .ok (.ireturn, 1) := by decide +kernel
theorem dX5_set_47 : decode cX5_set 47 = .ok (.aload_n 0, 1) := by decide +kernel
theorem dX5_set_48 : decode cX5_set 48 = .ok (.getfield 12, 3) := by decide +kernel
theorem dX5_set_51 : decode cX5_set 51 = .ok (.iload_n 1, 1) := by decide +kernel
theorem dX5_set_52 : decode cX5_set 52 = .ok (.iload_n 2, 1) := by decide +kernel
theorem dX5_set_53 : decode cX5_set 53 = .ok (.iload_n 3, 1) := by decide +kernel
theorem dX5_set_54 : decode cX5_set 54 = .ok (.invokevirtual 71, 3) := by decide +kernel
theorem dX5_set_57 : decode cX5_set 57 = .ok (.ireturn, 1) := by decide +kernel
theorem dX5_drop_0 : decode cX5_drop 0 = .ok (.aload_n 0, 1) := by decide +kernel
theorem dX5_drop_1 : decode cX5_drop 1 = .ok (.getfield 12, 3) := by decide +kernel
theorem dX5_drop_4 : decode cX5_drop 4 = .ok (.invokevirtual 27, 3) := by decide +kernel
theorem dX5_drop_7 : decode cX5_drop 7 = .ok (.ifCond .eq 24, 3) := by decide +kernel
theorem dX5_drop_10 : decode cX5_drop 10 = .ok (.iload_n 1, 1) := by decide +kernel
theorem dX5_drop_11 : decode cX5_drop 11 = .ok (.iconst 0, 1) := by decide +kernel
theorem dX5_drop_12 : decode cX5_drop 12 = .ok (.bipush 31, 2) := by decide +kernel
theorem dX5_drop_14 : decode cX5_drop 14 = .ok (.invokestatic 19, 3) := by decide +kernel
theorem dX5_drop_17 : decode cX5_drop 17 = .ok (.ifCond .eq 14, 3) := by decide +kernel
theorem dX5_drop_20 : decode cX5_drop 20 = .ok (.aload_n 0, 1) := by decide +kernel
theorem dX5_drop_21 : decode cX5_drop 21 = .ok (.getfield 12, 3) := by decide +kernel
theorem dX5_drop_24 : decode cX5_drop 24 = .ok (.iload_n 1, 1) := by decide +kernel
theorem dX5_drop_25 : decode cX5_drop 25 = .ok (.invokevirtual 74, 3) := by decide +kernel
theorem dX5_drop_28 : decode cX5_drop 28 = .ok (.ifCond .ne 5, 3) := by decide +kernel
theorem dX5_drop_31 : decode cX5_drop 31 = .ok (.iconst (-1), 1) := by decide +kernel
theorem dX5_drop_32 : decode cX5_drop 32 = .ok (.ireturn, 1) := by decide +kernel
theorem dX5_drop_33 : decode cX5_drop 33 = .ok (.aload_n 0, 1) := by decide +kernel
theorem dX5_drop_34 : decode cX5_drop 34 = .ok (.getfield 12, 3) := by decide +kernel
theorem dX5_drop_37 : decode cX5_drop 37 = .ok (.getfield 58, 3) := by decide +kernel
theorem dX5_drop_40 : decode cX5_drop 40 = .ok (.getfield 62, 3) := by decide +kernel
theorem dX5_drop_43 : decode cX5_drop 43 = .ok (.ifCond .eq 17, 3) := by decide +kernel
theorem dX5_drop_46 : decode cX5_drop 46 = .ok (.aload_n 0, 1) := by decide +kernel
theorem dX5_drop_47 : decode cX5_drop 47 = .ok (.getfield 12, 3) := by decide +kernel
theorem dX5_drop_50 : decode cX5_drop 50 = .ok (.getfield 58, 3) := by decide +kernel
theorem dX5_drop_53 : decode cX5_drop 53 = .ok (.iload_n 1, 1) := by decide +kernel
theorem dX5_drop_54 : decode cX5_drop 54 = .ok (.iconst 0, 1) := by decide +kernel
theorem dX5_drop_55 : decode cX5_drop 55 = .ok (.iconst 0, 1) := by decide +kernel
theorem dX5_drop_56 : decode cX5_drop 56 = .ok (.invokevirtual 68, 3) := by decide +kernel
theorem dX5_drop_59 : decode cX5_drop 59 = .ok (.ireturn, 1) := by decide +kernel
theorem dX5_drop_60 : decode cX5_drop 60 = .ok (.aload_n 0, 1) := by decide +kernel
theorem dX5_drop_61 : decode cX5_drop 61 = .ok (.getfield 12, 3) := by decide +kernel
theorem dX5_drop_64 : decode cX5_drop 64 = .ok (.iload_n 1, 1) := by decide +kernel
theorem dX5_drop_65 : decode cX5_drop 65 = .ok (.iconst 0, 1) := by decide +kernel
theorem dX5_drop_66 : decode cX5_drop 66 = .ok (.iconst 0, 1) := by decide +kernel
theorem dX5_drop_67 : decode cX5_drop 67 = .ok (.invokevirtual 71, 3) := by decide +kernel
theorem dX5_drop_70 : decode cX5_drop 70 = .ok (.ireturn, 1) := by decide +kernel
theorem dX5_bump_0 : decode cX5_bump 0 = .ok (.aload_n 0, 1) := by decide +kernel
theorem dX5_bump_1 : decode cX5_bump 1 = .ok (.getfield 12, 3) := by decide +kernel
theorem dX5_bump_4 : decode cX5_bump 4 = .ok (.invokevirtual 27, 3) := by decide +kernel
theorem dX5_bump_7 : decode cX5_bump 7 = .ok (.ifCond .eq 27, 3) := by decide +kernel
theorem dX5_bump_10 : decode cX5_bump 10 = .ok (.aload_n 0, 1) := by decide +kernel
theorem dX5_bump_11 : decode cX5_bump 11 = .ok (.getfield 12, 3) := by decide +kernel
theorem dX5_bump_14 : decode cX5_bump 14 = .ok (.getfield 58, 3) := by decide +kernel
theorem dX5_bump_17 : decode cX5_bump 17 = .ok (.getfield 62, 3) := by decide +kernel
theorem dX5_bump_20 : decode cX5_bump 20 = .ok (.ifCond .ne 14, 3) := by decide +kernel
theorem dX5_bump_23 : decode cX5_bump 23 = .ok (.iload_n 1, 1) := by decide +kernel
theorem dX5_bump_24 : decode cX5_bump 24 = .ok (.bipush 32, 2) := by decide +kernel
theorem dX5_bump_26 : decode cX5_bump 26 = .ok (.bipush 47, 2) := by decide +kernel
theorem dX5_bump_28 : decode cX5_bump 28 = .ok (.invokestatic 19, 3) := by decide +kernel
theorem dX5_bump_31 : decode cX5_bump 31 = .ok (.ifCond .ne 5, 3) := by decide +kernel
theorem dX5_bump_34 : decode cX5_bump 34 = .ok (.iconst (-1), 1) := by decide +kernel
theorem dX5_bump_35 : decode cX5_bump 35 = .ok (.ireturn, 1) := by decide +kernel
theorem dX5_bump_36 : decode cX5_bump 36 = .ok (.aload_n 0, 1) := by decide +kernel
theorem dX5_bump_37 : decode cX5_bump 37 = .ok (.getfield 12, 3) := by decide +kernel
theorem dX5_bump_40 : decode cX5_bump 40 = .ok (.iload_n 1, 1) := by decide +kernel
theorem dX5_bump_41 : decode cX5_bump 41 = .ok (.invokevirtual 78, 3) := by decide +kernel
theorem dX5_bump_44 : decode cX5_bump 44 = .ok (.ireturn, 1) := by decide +kernel
theorem dX5_begin_0 : decode cX5_begin 0 = .ok (.aload_n 0, 1) := by decide +kernel
theorem dX5_begin_1 : decode cX5_begin 1 = .ok (.getfield 12, 3) := by decide +kernel
theorem dX5_begin_4 : decode cX5_begin 4 = .ok (.invokevirtual 27, 3) := by decide +kernel
theorem dX5_begin_7 : decode cX5_begin 7 = .ok (.ifCond .eq 16, 3) := by decide +kernel
theorem dX5_begin_10 : decode cX5_begin 10 = .ok (.aload_n 0, 1) := by decide +kernel
theorem dX5_begin_11 : decode cX5_begin 11 = .ok (.getfield 12, 3) := by decide +kernel
theorem dX5_begin_14 : decode cX5_begin 14 = .ok (.getfield 58, 3) := by decide +kernel
theorem dX5_begin_17 : decode cX5_begin 17 = .ok (.getfield 62, 3) := by decide +kernel
theorem dX5_begin_20 : decode cX5_begin 20 = .ok (.ifCond .eq 5, 3) := by decide +kernel
theorem dX5_begin_23 : decode cX5_begin 23 = .ok (.iconst 0, 1) := by decide +kernel
theorem dX5_begin_24 : decode cX5_begin 24 = .ok (.ireturn, 1) := by decide +kernel
theorem dX5_begin_25 : decode cX5_begin 25 = .ok (.aload_n 0, 1) := by decide +kernel
theorem dX5_begin_26 : decode cX5_begin 26 = .ok (.getfield 12, 3) := by decide +kernel
theorem dX5_begin_29 : decode cX5_begin 29 = .ok (.getfield 58, 3) := by decide +kernel
theorem dX5_begin_32 : decode cX5_begin 32 = .ok (.invokevirtual 82, 3) := by decide +kernel
theorem dX5_begin_35 : decode cX5_begin 35 = .ok (.iconst 1, 1) := by decide +kernel
theorem dX5_begin_36 : decode cX5_begin 36 = .ok (.ireturn, 1) := by decide +kernel
theorem dX5_commit_0 : decode cX5_commit 0 = .ok (.aload_n 0, 1) := by decide +kernel
theorem dX5_commit_1 : decode cX5_commit 1 = .ok (.getfield 12, 3) := by decide +kernel
theorem dX5_commit_4 : decode cX5_commit 4 = .ok (.getfield 58, 3) := by decide +kernel
theorem dX5_commit_7 : decode cX5_commit 7 = .ok (.getfield 62, 3) := by decide +kernel
theorem dX5_commit_10 : decode cX5_commit 10 = .ok (.ifCond .ne 5, 3) := by decide +kernel
theorem dX5_commit_13 : decode cX5_commit 13 = .ok (.iconst (-1), 1) := by decide +kernel
theorem dX5_commit_14 : decode cX5_commit 14 = .ok (.ireturn, 1) := by decide +kernel
theorem dX5_commit_15 : decode cX5_commit 15 = .ok (.aload_n 0, 1) := by decide +kernel
theorem dX5_commit_16 : decode cX5_commit 16 = .ok (.getfield 12, 3) := by decide +kernel
theorem dX5_commit_19 : decode cX5_commit 19 = .ok (.getfield 58, 3) := by decide +kernel
theorem dX5_commit_22 : decode cX5_commit 22 = .ok (.getfield 85, 3) := by decide +kernel
theorem dX5_commit_25 : decode cX5_commit 25 = .ok (.ifCond .ne 15, 3) := by decide +kernel
theorem dX5_commit_28 : decode cX5_commit 28 = .ok (.aload_n 0, 1) := by decide +kernel
theorem dX5_commit_29 : decode cX5_commit 29 = .ok (.getfield 12, 3) := by decide +kernel
theorem dX5_commit_32 : decode cX5_commit 32 = .ok (.getfield 58, 3) := by decide +kernel
theorem dX5_commit_35 : decode cX5_commit 35 = .ok (.invokevirtual 89, 3) := by decide +kernel
theorem dX5_commit_38 : decode cX5_commit 38 = .ok (.iconst (-1), 1) := by decide +kernel
theorem dX5_commit_39 : decode cX5_commit 39 = .ok (.ireturn, 1) := by decide +kernel
theorem dX5_commit_40 : decode cX5_commit 40 = .ok (.aload_n 0, 1) := by decide +kernel
theorem dX5_commit_41 : decode cX5_commit 41 = .ok (.getfield 12, 3) := by decide +kernel
theorem dX5_commit_44 : decode cX5_commit 44 = .ok (.invokevirtual 92, 3) := by decide +kernel
theorem dX5_commit_47 : decode cX5_commit 47 = .ok (.ireturn, 1) := by decide +kernel
theorem dX5_abort_0 : decode cX5_abort 0 = .ok (.aload_n 0, 1) := by decide +kernel
theorem dX5_abort_1 : decode cX5_abort 1 = .ok (.getfield 12, 3) := by decide +kernel
theorem dX5_abort_4 : decode cX5_abort 4 = .ok (.getfield 58, 3) := by decide +kernel
theorem dX5_abort_7 : decode cX5_abort 7 = .ok (.getfield 62, 3) := by decide +kernel
theorem dX5_abort_10 : decode cX5_abort 10 = .ok (.ifCond .ne 5, 3) := by decide +kernel
theorem dX5_abort_13 : decode cX5_abort 13 = .ok (.iconst (-1), 1) := by decide +kernel
theorem dX5_abort_14 : decode cX5_abort 14 = .ok (.ireturn, 1) := by decide +kernel
theorem dX5_abort_15 : decode cX5_abort 15 = .ok (.aload_n 0, 1) := by decide +kernel
theorem dX5_abort_16 : decode cX5_abort 16 = .ok (.getfield 12, 3) := by decide +kernel
theorem dX5_abort_19 : decode cX5_abort 19 = .ok (.getfield 58, 3) := by decide +kernel
theorem dX5_abort_22 : decode cX5_abort 22 = .ok (.getfield 85, 3) := by decide +kernel
theorem dX5_abort_25 : decode cX5_abort 25 = .ok (.istore_n 1, 1) := by decide +kernel
theorem dX5_abort_26 : decode cX5_abort 26 = .ok (.aload_n 0, 1) := by decide +kernel
theorem dX5_abort_27 : decode cX5_abort 27 = .ok (.getfield 12, 3) := by decide +kernel
theorem dX5_abort_30 : decode cX5_abort 30 = .ok (.getfield 58, 3) := by decide +kernel
theorem dX5_abort_33 : decode cX5_abort 33 = .ok (.invokevirtual 89, 3) := by decide +kernel
theorem dX5_abort_36 : decode cX5_abort 36 = .ok (.iload_n 1, 1) := by decide +kernel
theorem dX5_abort_37 : decode cX5_abort 37 = .ok (.ireturn, 1) := by decide +kernel
theorem dX5_get_0 : decode cX5_get 0 = .ok (.aload_n 0, 1) := by decide +kernel
theorem dX5_get_1 : decode cX5_get 1 = .ok (.getfield 12, 3) := by decide +kernel
theorem dX5_get_4 : decode cX5_get 4 = .ok (.invokevirtual 27, 3) := by decide +kernel
theorem dX5_get_7 : decode cX5_get 7 = .ok (.ifCond .eq 10, 3) := by decide +kernel
theorem dX5_get_10 : decode cX5_get 10 = .ok (.iload_n 1, 1) := by decide +kernel
theorem dX5_get_11 : decode cX5_get 11 = .ok (.invokestatic 95, 3) := by decide +kernel
theorem dX5_get_14 : decode cX5_get 14 = .ok (.ifCond .ne 7, 3) := by decide +kernel
theorem dX5_get_17 : decode cX5_get 17 = .ok (.ldc2_w 98, 3) := by decide +kernel
theorem dX5_get_20 : decode cX5_get 20 = .ok (.lreturn, 1) := by decide +kernel
theorem dX5_get_21 : decode cX5_get 21 = .ok (.aload_n 0, 1) := by decide +kernel
theorem dX5_get_22 : decode cX5_get 22 = .ok (.getfield 12, 3) := by decide +kernel
theorem dX5_get_25 : decode cX5_get 25 = .ok (.invokevirtual 100, 3) := by decide +kernel
theorem dX5_get_28 : decode cX5_get 28 = .ok (.iload_n 1, 1) := by decide +kernel
theorem dX5_get_29 : decode cX5_get 29 = .ok (.invokevirtual 104, 3) := by decide +kernel
theorem dX5_get_32 : decode cX5_get 32 = .ok (.lreturn, 1) := by decide +kernel
theorem dX5_length_0 : decode cX5_length 0 = .ok (.aload_n 0, 1) := by decide +kernel
theorem dX5_length_1 : decode cX5_length 1 = .ok (.getfield 12, 3) := by decide +kernel
theorem dX5_length_4 : decode cX5_length 4 = .ok (.invokevirtual 27, 3) := by decide +kernel
theorem dX5_length_7 : decode cX5_length 7 = .ok (.ifCond .eq 10, 3) := by decide +kernel
theorem dX5_length_10 : decode cX5_length 10 = .ok (.iload_n 1, 1) := by decide +kernel
theorem dX5_length_11 : decode cX5_length 11 = .ok (.invokestatic 95, 3) := by decide +kernel
theorem dX5_length_14 : decode cX5_length 14 = .ok (.ifCond .ne 5, 3) := by decide +kernel
theorem dX5_length_17 : decode cX5_length 17 = .ok (.iconst (-1), 1) := by decide +kernel
theorem dX5_length_18 : decode cX5_length 18 = .ok (.ireturn, 1) := by decide +kernel
theorem dX5_length_19 : decode cX5_length 19 = .ok (.aload_n 0, 1) := by decide +kernel
theorem dX5_length_20 : decode cX5_length 20 = .ok (.getfield 12, 3) := by decide +kernel
theorem dX5_length_23 : decode cX5_length 23 = .ok (.invokevirtual 100, 3) := by decide +kernel
theorem dX5_length_26 : decode cX5_length 26 = .ok (.iload_n 1, 1) := by decide +kernel
theorem dX5_length_27 : decode cX5_length 27 = .ok (.invokevirtual 110, 3) := by decide +kernel
theorem dX5_length_30 : decode cX5_length 30 = .ok (.ireturn, 1) := by decide +kernel
theorem dX5_hand_0 : decode cX5_hand 0 = .ok (.aload_n 0, 1) := by decide +kernel
theorem dX5_hand_1 : decode cX5_hand 1 = .ok (.getfield 12, 3) := by decide +kernel
theorem dX5_hand_4 : decode cX5_hand 4 = .ok (.invokevirtual 27, 3) := by decide +kernel
theorem dX5_hand_7 : decode cX5_hand 7 = .ok (.ifCond .eq 13, 3) := by decide +kernel
theorem dX5_hand_10 : decode cX5_hand 10 = .ok (.aload_n 0, 1) := by decide +kernel
theorem dX5_hand_11 : decode cX5_hand 11 = .ok (.getfield 12, 3) := by decide +kernel
theorem dX5_hand_14 : decode cX5_hand 14 = .ok (.invokevirtual 113, 3) := by decide +kernel
theorem dX5_hand_17 : decode cX5_hand 17 = .ok (.goto 4, 3) := by decide +kernel
theorem dX5_hand_20 : decode cX5_hand 20 = .ok (.iconst (-1), 1) := by decide +kernel
theorem dX5_hand_21 : decode cX5_hand 21 = .ok (.ireturn, 1) := by decide +kernel
theorem dX5_at_0 : decode cX5_at 0 = .ok (.aload_n 0, 1) := by decide +kernel
theorem dX5_at_1 : decode cX5_at 1 = .ok (.getfield 12, 3) := by decide +kernel
theorem dX5_at_4 : decode cX5_at 4 = .ok (.getfield 38, 3) := by decide +kernel
theorem dX5_at_7 : decode cX5_at 7 = .ok (.iload_n 1, 1) := by decide +kernel
theorem dX5_at_8 : decode cX5_at 8 = .ok (.iload_n 2, 1) := by decide +kernel
theorem dX5_at_9 : decode cX5_at 9 = .ok (.invokevirtual 47, 3) := by decide +kernel
theorem dX5_at_12 : decode cX5_at 12 = .ok (.ifCond .ne 13, 3) := by decide +kernel
theorem dX5_at_15 : decode cX5_at 15 = .ok (.new 116, 3) := by decide +kernel
theorem dX5_at_18 : decode cX5_at 18 = .ok (.dup, 1) := by decide +kernel
theorem dX5_at_19 : decode cX5_at 19 = .ok (.ldc 118, 2) := by decide +kernel
theorem dX5_at_21 : decode cX5_at 21 = .ok (.invokespecial 120, 3) := by decide +kernel
theorem dX5_at_24 : decode cX5_at 24 = .ok (.athrow, 1) := by decide +kernel
theorem dX5_at_25 : decode cX5_at 25 = .ok (.aload_n 0, 1) := by decide +kernel
theorem dX5_at_26 : decode cX5_at 26 = .ok (.getfield 12, 3) := by decide +kernel
theorem dX5_at_29 : decode cX5_at 29 = .ok (.getfield 38, 3) := by decide +kernel
theorem dX5_at_32 : decode cX5_at 32 = .ok (.iload_n 1, 1) := by decide +kernel
theorem dX5_at_33 : decode cX5_at 33 = .ok (.iload_n 2, 1) := by decide +kernel
theorem dX5_at_34 : decode cX5_at 34 = .ok (.invokevirtual 123, 3) := by decide +kernel
theorem dX5_at_37 : decode cX5_at 37 = .ok (.ireturn, 1) := by decide +kernel
theorem dX5_sector_0 : decode cX5_sector 0 = .ok (.aload_n 0, 1) := by decide +kernel
theorem dX5_sector_1 : decode cX5_sector 1 = .ok (.getfield 12, 3) := by decide +kernel
theorem dX5_sector_4 : decode cX5_sector 4 = .ok (.getfield 38, 3) := by decide +kernel
theorem dX5_sector_7 : decode cX5_sector 7 = .ok (.astore_n 3, 1) := by decide +kernel
theorem dX5_sector_8 : decode cX5_sector 8 = .ok (.aload_n 3, 1) := by decide +kernel
theorem dX5_sector_9 : decode cX5_sector 9 = .ok (.iload_n 1, 1) := by decide +kernel
theorem dX5_sector_10 : decode cX5_sector 10 = .ok (.invokevirtual 127, 3) := by decide +kernel
theorem dX5_sector_13 : decode cX5_sector 13 = .ok (.ifCond .ne 5, 3) := by decide +kernel
theorem dX5_sector_16 : decode cX5_sector 16 = .ok (.iconst (-1), 1) := by decide +kernel
theorem dX5_sector_17 : decode cX5_sector 17 = .ok (.ireturn, 1) := by decide +kernel
theorem dX5_sector_18 : decode cX5_sector 18 = .ok (.iload_n 2, 1) := by decide +kernel
theorem dX5_sector_19 : decode cX5_sector 19 = .ok (.tableswitch 83 0 4 #[33, 40, 46, 52, 66], 33) := by decide +kernel
theorem dX5_sector_52 : decode cX5_sector 52 = .ok (.aload_n 3, 1) := by decide +kernel
theorem dX5_sector_53 : decode cX5_sector 53 = .ok (.iload_n 1, 1) := by decide +kernel
theorem dX5_sector_54 : decode cX5_sector 54 = .ok (.iconst 0, 1) := by decide +kernel
theorem dX5_sector_55 : decode cX5_sector 55 = .ok (.invokevirtual 123, 3) := by decide +kernel
theorem dX5_sector_58 : decode cX5_sector 58 = .ok (.ireturn, 1) := by decide +kernel
theorem dX5_sector_59 : decode cX5_sector 59 = .ok (.aload_n 3, 1) := by decide +kernel
theorem dX5_sector_60 : decode cX5_sector 60 = .ok (.iload_n 1, 1) := by decide +kernel
theorem dX5_sector_61 : decode cX5_sector 61 = .ok (.invokevirtual 130, 3) := by decide +kernel
theorem dX5_sector_64 : decode cX5_sector 64 = .ok (.ireturn, 1) := by decide +kernel
theorem dX5_sector_65 : decode cX5_sector 65 = .ok (.aload_n 3, 1) := by decide +kernel
theorem dX5_sector_66 : decode cX5_sector 66 = .ok (.iload_n 1, 1) := by decide +kernel
theorem dX5_sector_67 : decode cX5_sector 67 = .ok (.invokevirtual 133, 3) := by decide +kernel
theorem dX5_sector_70 : decode cX5_sector 70 = .ok (.ireturn, 1) := by decide +kernel
theorem dX5_sector_71 : decode cX5_sector 71 = .ok (.aload_n 3, 1) := by decide +kernel
theorem dX5_sector_72 : decode cX5_sector 72 = .ok (.iload_n 1, 1) := by decide +kernel
theorem dX5_sector_73 : decode cX5_sector 73 = .ok (.invokevirtual 136, 3) := by decide +kernel
theorem dX5_sector_76 : decode cX5_sector 76 = .ok (.ifCond .eq 7, 3) := by decide +kernel
theorem dX5_sector_79 : decode cX5_sector 79 = .ok (.iconst 1, 1) := by decide +kernel
theorem dX5_sector_80 : decode cX5_sector 80 = .ok (.goto 4, 3) := by decide +kernel
theorem dX5_sector_83 : decode cX5_sector 83 = .ok (.iconst 0, 1) := by decide +kernel
theorem dX5_sector_84 : decode cX5_sector 84 = .ok (.ireturn, 1) := by decide +kernel
theorem dX5_sector_85 : decode cX5_sector 85 = .ok (.aload_n 0, 1) := by decide +kernel
theorem dX5_sector_86 : decode cX5_sector 86 = .ok (.getfield 12, 3) := by decide +kernel
theorem dX5_sector_89 : decode cX5_sector 89 = .ok (.getfield 139, 3) := by decide +kernel
theorem dX5_sector_92 : decode cX5_sector 92 = .ok (.iload_n 1, 1) := by decide +kernel
theorem dX5_sector_93 : decode cX5_sector 93 = .ok (.if_icmp .ne 7, 3) := by decide +kernel
theorem dX5_sector_96 : decode cX5_sector 96 = .ok (.iconst 1, 1) := by decide +kernel
theorem dX5_sector_97 : decode cX5_sector 97 = .ok (.goto 4, 3) := by decide +kernel
theorem dX5_sector_100 : decode cX5_sector 100 = .ok (.iconst 0, 1) := by decide +kernel
theorem dX5_sector_101 : decode cX5_sector 101 = .ok (.ireturn, 1) := by decide +kernel
theorem dX5_sector_102 : decode cX5_sector 102 = .ok (.iconst (-1), 1) := by decide +kernel
theorem dX5_sector_103 : decode cX5_sector 103 = .ok (.ireturn, 1) := by decide +kernel
theorem dX5_entry_0 : decode cX5_entry 0 = .ok (.aload_n 0, 1) := by decide +kernel
theorem dX5_entry_1 : decode cX5_entry 1 = .ok (.getfield 12, 3) := by decide +kernel
theorem dX5_entry_4 : decode cX5_entry 4 = .ok (.getfield 38, 3) := by decide +kernel
theorem dX5_entry_7 : decode cX5_entry 7 = .ok (.iload_n 1, 1) := by decide +kernel
theorem dX5_entry_8 : decode cX5_entry 8 = .ok (.invokevirtual 127, 3) := by decide +kernel
theorem dX5_entry_11 : decode cX5_entry 11 = .ok (.ifCond .ne 5, 3) := by decide +kernel
theorem dX5_entry_14 : decode cX5_entry 14 = .ok (.iconst (-1), 1) := by decide +kernel
theorem dX5_entry_15 : decode cX5_entry 15 = .ok (.ireturn, 1) := by decide +kernel
theorem dX5_entry_16 : decode cX5_entry 16 = .ok (.aload_n 0, 1) := by decide +kernel
theorem dX5_entry_17 : decode cX5_entry 17 = .ok (.getfield 12, 3) := by decide +kernel
theorem dX5_entry_20 : decode cX5_entry 20 = .ok (.getfield 142, 3) := by decide +kernel
theorem dX5_entry_23 : decode cX5_entry 23 = .ok (.astore 4, 2) := by decide +kernel
theorem dX5_entry_25 : decode cX5_entry 25 = .ok (.aload 4, 2) := by decide +kernel
theorem dX5_entry_27 : decode cX5_entry 27 = .ok (.aload_n 0, 1) := by decide +kernel
theorem dX5_entry_28 : decode cX5_entry 28 = .ok (.getfield 12, 3) := by decide +kernel
theorem dX5_entry_31 : decode cX5_entry 31 = .ok (.getfield 38, 3) := by decide +kernel
theorem dX5_entry_34 : decode cX5_entry 34 = .ok (.iload_n 1, 1) := by decide +kernel
theorem dX5_entry_35 : decode cX5_entry 35 = .ok (.invokevirtual 146, 3) := by decide +kernel
theorem dX5_entry_38 : decode cX5_entry 38 = .ok (.iload_n 2, 1) := by decide +kernel
theorem dX5_entry_39 : decode cX5_entry 39 = .ok (.iconst (-1), 1) := by decide +kernel
theorem dX5_entry_40 : decode cX5_entry 40 = .ok (.if_icmp .ne 9, 3) := by decide +kernel
theorem dX5_entry_43 : decode cX5_entry 43 = .ok (.aload 4, 2) := by decide +kernel
theorem dX5_entry_45 : decode cX5_entry 45 = .ok (.getfield 150, 3) := by decide +kernel
theorem dX5_entry_48 : decode cX5_entry 48 = .ok (.ireturn, 1) := by decide +kernel
theorem dX5_entry_49 : decode cX5_entry 49 = .ok (.aload 4, 2) := by decide +kernel
theorem dX5_entry_51 : decode cX5_entry 51 = .ok (.iload_n 2, 1) := by decide +kernel
theorem dX5_entry_52 : decode cX5_entry 52 = .ok (.iload_n 3, 1) := by decide +kernel
theorem dX5_entry_53 : decode cX5_entry 53 = .ok (.invokevirtual 153, 3) := by decide +kernel
theorem dX5_entry_56 : decode cX5_entry 56 = .ok (.ireturn, 1) := by decide +kernel
theorem dX5_space_0 : decode cX5_space 0 = .ok (.aload_n 0, 1) := by decide +kernel
theorem dX5_space_1 : decode cX5_space 1 = .ok (.getfield 12, 3) := by decide +kernel
theorem dX5_space_4 : decode cX5_space 4 = .ok (.getfield 38, 3) := by decide +kernel
theorem dX5_space_7 : decode cX5_space 7 = .ok (.iload_n 1, 1) := by decide +kernel
theorem dX5_space_8 : decode cX5_space 8 = .ok (.invokevirtual 127, 3) := by decide +kernel
theorem dX5_space_11 : decode cX5_space 11 = .ok (.ifCond .ne 5, 3) := by decide +kernel
theorem dX5_space_14 : decode cX5_space 14 = .ok (.iconst (-1), 1) := by decide +kernel
theorem dX5_space_15 : decode cX5_space 15 = .ok (.ireturn, 1) := by decide +kernel
theorem dX5_space_16 : decode cX5_space 16 = .ok (.aload_n 0, 1) := by decide +kernel
theorem dX5_space_17 : decode cX5_space 17 = .ok (.getfield 12, 3) := by decide +kernel
theorem dX5_space_20 : decode cX5_space 20 = .ok (.getfield 142, 3) := by decide +kernel
theorem dX5_space_23 : decode cX5_space 23 = .ok (.astore_n 3, 1) := by decide +kernel
theorem dX5_space_24 : decode cX5_space 24 = .ok (.aload_n 3, 1) := by decide +kernel
theorem dX5_space_25 : decode cX5_space 25 = .ok (.aload_n 0, 1) := by decide +kernel
theorem dX5_space_26 : decode cX5_space 26 = .ok (.getfield 12, 3) := by decide +kernel
theorem dX5_space_29 : decode cX5_space 29 = .ok (.getfield 38, 3) := by decide +kernel
theorem dX5_space_32 : decode cX5_space 32 = .ok (.iload_n 1, 1) := by decide +kernel
theorem dX5_space_33 : decode cX5_space 33 = .ok (.invokevirtual 146, 3) := by decide +kernel
theorem dX5_space_36 : decode cX5_space 36 = .ok (.iload_n 2, 1) := by decide +kernel
theorem dX5_space_37 : decode cX5_space 37 = .ok (.tableswitch 56 0 3 #[31, 36, 41, 46], 31) := by decide +kernel
theorem dX5_space_68 : decode cX5_space 68 = .ok (.aload_n 3, 1) := by decide +kernel
theorem dX5_space_69 : decode cX5_space 69 = .ok (.getfield 155, 3) := by decide +kernel
theorem dX5_space_72 : decode cX5_space 72 = .ok (.ireturn, 1) := by decide +kernel
theorem dX5_space_73 : decode cX5_space 73 = .ok (.aload_n 3, 1) := by decide +kernel
theorem dX5_space_74 : decode cX5_space 74 = .ok (.getfield 158, 3) := by decide +kernel
theorem dX5_space_77 : decode cX5_space 77 = .ok (.ireturn, 1) := by decide +kernel
theorem dX5_space_78 : decode cX5_space 78 = .ok (.aload_n 3, 1) := by decide +kernel
theorem dX5_space_79 : decode cX5_space 79 = .ok (.invokevirtual 161, 3) := by decide +kernel
theorem dX5_space_82 : decode cX5_space 82 = .ok (.ireturn, 1) := by decide +kernel
theorem dX5_space_83 : decode cX5_space 83 = .ok (.aload_n 3, 1) := by decide +kernel
theorem dX5_space_84 : decode cX5_space 84 = .ok (.invokevirtual 164, 3) := by decide +kernel
theorem dX5_space_87 : decode cX5_space 87 = .ok (.aload_n 3, 1) := by decide +kernel
theorem dX5_space_88 : decode cX5_space 88 = .ok (.invokevirtual 161, 3) := by decide +kernel
theorem dX5_space_91 : decode cX5_space 91 = .ok (.isub, 1) := by decide +kernel
theorem dX5_space_92 : decode cX5_space 92 = .ok (.ireturn, 1) := by decide +kernel
theorem dX5_space_93 : decode cX5_space 93 = .ok (.iconst (-1), 1) := by decide +kernel
theorem dX5_space_94 : decode cX5_space 94 = .ok (.ireturn, 1) := by decide +kernel
theorem dX5_until_0 : decode cX5_until 0 = .ok (.aload_n 0, 1) := by decide +kernel
theorem dX5_until_1 : decode cX5_until 1 = .ok (.getfield 12, 3) := by decide +kernel
theorem dX5_until_4 : decode cX5_until 4 = .ok (.invokevirtual 27, 3) := by decide +kernel
theorem dX5_until_7 : decode cX5_until 7 = .ok (.ifCond .eq 12, 3) := by decide +kernel
theorem dX5_until_10 : decode cX5_until 10 = .ok (.iload_n 1, 1) := by decide +kernel
theorem dX5_until_11 : decode cX5_until 11 = .ok (.iconst 1, 1) := by decide +kernel
theorem dX5_until_12 : decode cX5_until 12 = .ok (.iconst 4, 1) := by decide +kernel
theorem dX5_until_13 : decode cX5_until 13 = .ok (.invokestatic 19, 3) := by decide +kernel
theorem dX5_until_16 : decode cX5_until 16 = .ok (.ifCond .ne 5, 3) := by decide +kernel
theorem dX5_until_19 : decode cX5_until 19 = .ok (.iconst (-1), 1) := by decide +kernel
theorem dX5_until_20 : decode cX5_until 20 = .ok (.ireturn, 1) := by decide +kernel
theorem dX5_until_21 : decode cX5_until 21 = .ok (.aload_n 0, 1) := by decide +kernel
theorem dX5_until_22 : decode cX5_until 22 = .ok (.getfield 12, 3) := by decide +kernel
theorem dX5_until_25 : decode cX5_until 25 = .ok (.invokevirtual 100, 3) := by decide +kernel
theorem dX5_until_28 : decode cX5_until 28 = .ok (.invokevirtual 167, 3) := by decide +kernel
theorem dX5_until_31 : decode cX5_until 31 = .ok (.iconst 3, 1) := by decide +kernel
theorem dX5_until_32 : decode cX5_until 32 = .ok (.iload_n 1, 1) := by decide +kernel
theorem dX5_until_33 : decode cX5_until 33 = .ok (.iadd, 1) := by decide +kernel
theorem dX5_until_34 : decode cX5_until 34 = .ok (.idiv, 1) := by decide +kernel
theorem dX5_until_35 : decode cX5_until 35 = .ok (.ireturn, 1) := by decide +kernel
theorem dX5_after_0 : decode cX5_after 0 = .ok (.aload_n 0, 1) := by decide +kernel
theorem dX5_after_1 : decode cX5_after 1 = .ok (.getfield 12, 3) := by decide +kernel
theorem dX5_after_4 : decode cX5_after 4 = .ok (.invokevirtual 27, 3) := by decide +kernel
theorem dX5_after_7 : decode cX5_after 7 = .ok (.ifCond .eq 16, 3) := by decide +kernel
theorem dX5_after_10 : decode cX5_after 10 = .ok (.aload_n 0, 1) := by decide +kernel
theorem dX5_after_11 : decode cX5_after 11 = .ok (.getfield 12, 3) := by decide +kernel
theorem dX5_after_14 : decode cX5_after 14 = .ok (.invokevirtual 100, 3) := by decide +kernel
theorem dX5_after_17 : decode cX5_after 17 = .ok (.invokevirtual 170, 3) := by decide +kernel
theorem dX5_after_20 : decode cX5_after 20 = .ok (.goto 4, 3) := by decide +kernel
theorem dX5_after_23 : decode cX5_after 23 = .ok (.iconst (-1), 1) := by decide +kernel
theorem dX5_after_24 : decode cX5_after 24 = .ok (.ireturn, 1) := by decide +kernel
theorem dX5_costs_0 : decode cX5_costs 0 = .ok (.aload_n 0, 1) := by decide +kernel
theorem dX5_costs_1 : decode cX5_costs 1 = .ok (.getfield 12, 3) := by decide +kernel
theorem dX5_costs_4 : decode cX5_costs 4 = .ok (.invokevirtual 27, 3) := by decide +kernel
theorem dX5_costs_7 : decode cX5_costs 7 = .ok (.ifCond .eq 25, 3) := by decide +kernel
theorem dX5_costs_10 : decode cX5_costs 10 = .ok (.aload_n 0, 1) := by decide +kernel
theorem dX5_costs_11 : decode cX5_costs 11 = .ok (.getfield 12, 3) := by decide +kernel
theorem dX5_costs_14 : decode cX5_costs 14 = .ok (.getfield 58, 3) := by decide +kernel
theorem dX5_costs_17 : decode cX5_costs 17 = .ok (.getfield 62, 3) := by decide +kernel
theorem dX5_costs_20 : decode cX5_costs 20 = .ok (.ifCond .ne 12, 3) := by decide +kernel
theorem dX5_costs_23 : decode cX5_costs 23 = .ok (.iload_n 1, 1) := by decide +kernel
theorem dX5_costs_24 : decode cX5_costs 24 = .ok (.iconst 1, 1) := by decide +kernel
theorem dX5_costs_25 : decode cX5_costs 25 = .ok (.iconst 4, 1) := by decide +kernel
theorem dX5_costs_26 : decode cX5_costs 26 = .ok (.invokestatic 19, 3) := by decide +kernel
theorem dX5_costs_29 : decode cX5_costs 29 = .ok (.ifCond .ne 5, 3) := by decide +kernel
theorem dX5_costs_32 : decode cX5_costs 32 = .ok (.iconst (-1), 1) := by decide +kernel
theorem dX5_costs_33 : decode cX5_costs 33 = .ok (.ireturn, 1) := by decide +kernel
theorem dX5_costs_34 : decode cX5_costs 34 = .ok (.aload_n 0, 1) := by decide +kernel
theorem dX5_costs_35 : decode cX5_costs 35 = .ok (.getfield 12, 3) := by decide +kernel
theorem dX5_costs_38 : decode cX5_costs 38 = .ok (.iconst 3, 1) := by decide +kernel
theorem dX5_costs_39 : decode cX5_costs 39 = .ok (.iload_n 1, 1) := by decide +kernel
theorem dX5_costs_40 : decode cX5_costs 40 = .ok (.iadd, 1) := by decide +kernel
theorem dX5_costs_41 : decode cX5_costs 41 = .ok (.invokevirtual 173, 3) := by decide +kernel
theorem dX5_costs_44 : decode cX5_costs 44 = .ok (.ireturn, 1) := by decide +kernel
theorem dX5_torn_0 : decode cX5_torn 0 = .ok (.aload_n 0, 1) := by decide +kernel
theorem dX5_torn_1 : decode cX5_torn 1 = .ok (.getfield 12, 3) := by decide +kernel
theorem dX5_torn_4 : decode cX5_torn 4 = .ok (.invokevirtual 27, 3) := by decide +kernel
theorem dX5_torn_7 : decode cX5_torn 7 = .ok (.ifCond .eq 24, 3) := by decide +kernel
theorem dX5_torn_10 : decode cX5_torn 10 = .ok (.aload_n 0, 1) := by decide +kernel
theorem dX5_torn_11 : decode cX5_torn 11 = .ok (.getfield 12, 3) := by decide +kernel
theorem dX5_torn_14 : decode cX5_torn 14 = .ok (.getfield 58, 3) := by decide +kernel
theorem dX5_torn_17 : decode cX5_torn 17 = .ok (.getfield 62, 3) := by decide +kernel
theorem dX5_torn_20 : decode cX5_torn 20 = .ok (.ifCond .ne 11, 3) := by decide +kernel
theorem dX5_torn_23 : decode cX5_torn 23 = .ok (.iload_n 1, 1) := by decide +kernel
theorem dX5_torn_24 : decode cX5_torn 24 = .ok (.iload_n 3, 1) := by decide +kernel
theorem dX5_torn_25 : decode cX5_torn 25 = .ok (.invokestatic 55, 3) := by decide +kernel
theorem dX5_torn_28 : decode cX5_torn 28 = .ok (.ifCond .ne 7, 3) := by decide +kernel
theorem dX5_torn_31 : decode cX5_torn 31 = .ok (.ldc2_w 98, 3) := by decide +kernel
theorem dX5_torn_34 : decode cX5_torn 34 = .ok (.lreturn, 1) := by decide +kernel
theorem dX5_torn_35 : decode cX5_torn 35 = .ok (.iload 4, 2) := by decide +kernel
theorem dX5_torn_37 : decode cX5_torn 37 = .ok (.iconst 1, 1) := by decide +kernel
theorem dX5_torn_38 : decode cX5_torn 38 = .ok (.aload_n 0, 1) := by decide +kernel
theorem dX5_torn_39 : decode cX5_torn 39 = .ok (.getfield 12, 3) := by decide +kernel
theorem dX5_torn_42 : decode cX5_torn 42 = .ok (.iconst 3, 1) := by decide +kernel
theorem dX5_torn_43 : decode cX5_torn 43 = .ok (.iload_n 3, 1) := by decide +kernel
theorem dX5_torn_44 : decode cX5_torn 44 = .ok (.iadd, 1) := by decide +kernel
theorem dX5_torn_45 : decode cX5_torn 45 = .ok (.invokevirtual 173, 3) := by decide +kernel
theorem dX5_torn_48 : decode cX5_torn 48 = .ok (.invokestatic 19, 3) := by decide +kernel
theorem dX5_torn_51 : decode cX5_torn 51 = .ok (.ifCond .eq 25, 3) := by decide +kernel
theorem dX5_torn_54 : decode cX5_torn 54 = .ok (.iload 5, 2) := by decide +kernel
theorem dX5_torn_56 : decode cX5_torn 56 = .ok (.iconst 0, 1) := by decide +kernel
theorem dX5_torn_57 : decode cX5_torn 57 = .ok (.sipush 255, 3) := by decide +kernel
theorem dX5_torn_60 : decode cX5_torn 60 = .ok (.invokestatic 19, 3) := by decide +kernel
theorem dX5_torn_63 : decode cX5_torn 63 = .ok (.ifCond .eq 13, 3) := by decide +kernel
theorem dX5_torn_66 : decode cX5_torn 66 = .ok (.iload 6, 2) := by decide +kernel
theorem dX5_torn_68 : decode cX5_torn 68 = .ok (.iconst 0, 1) := by decide +kernel
theorem dX5_torn_69 : decode cX5_torn 69 = .ok (.iconst 3, 1) := by decide +kernel
theorem dX5_torn_70 : decode cX5_torn 70 = .ok (.invokestatic 19, 3) := by decide +kernel
theorem dX5_torn_73 : decode cX5_torn 73 = .ok (.ifCond .ne 7, 3) := by decide +kernel
theorem dX5_torn_76 : decode cX5_torn 76 = .ok (.ldc2_w 98, 3) := by decide +kernel
theorem dX5_torn_79 : decode cX5_torn 79 = .ok (.lreturn, 1) := by decide +kernel
theorem dX5_torn_80 : decode cX5_torn 80 = .ok (.aload_n 0, 1) := by decide +kernel
theorem dX5_torn_81 : decode cX5_torn 81 = .ok (.getfield 16, 3) := by decide +kernel
theorem dX5_torn_84 : decode cX5_torn 84 = .ok (.aload_n 0, 1) := by decide +kernel
theorem dX5_torn_85 : decode cX5_torn 85 = .ok (.getfield 12, 3) := by decide +kernel
theorem dX5_torn_88 : decode cX5_torn 88 = .ok (.invokevirtual 176, 3) := by decide +kernel
theorem dX5_torn_91 : decode cX5_torn 91 = .ok (.aload_n 0, 1) := by decide +kernel
theorem dX5_torn_92 : decode cX5_torn 92 = .ok (.getfield 16, 3) := by decide +kernel
theorem dX5_torn_95 : decode cX5_torn 95 = .ok (.getfield 38, 3) := by decide +kernel
theorem dX5_torn_98 : decode cX5_torn 98 = .ok (.iload 4, 2) := by decide +kernel
theorem dX5_torn_100 : decode cX5_torn 100 = .ok (.iload 5, 2) := by decide +kernel
theorem dX5_torn_102 : decode cX5_torn 102 = .ok (.invokevirtual 42, 3) := by decide +kernel
theorem dX5_torn_105 : decode cX5_torn 105 = .ok (.aload_n 0, 1) := by decide +kernel
theorem dX5_torn_106 : decode cX5_torn 106 = .ok (.getfield 16, 3) := by decide +kernel
theorem dX5_torn_109 : decode cX5_torn 109 = .ok (.iload_n 1, 1) := by decide +kernel
theorem dX5_torn_110 : decode cX5_torn 110 = .ok (.iload_n 2, 1) := by decide +kernel
theorem dX5_torn_111 : decode cX5_torn 111 = .ok (.iload_n 3, 1) := by decide +kernel
theorem dX5_torn_112 : decode cX5_torn 112 = .ok (.invokevirtual 71, 3) := by decide +kernel
theorem dX5_torn_115 : decode cX5_torn 115 = .ok (.pop, 1) := by decide +kernel
theorem dX5_torn_116 : decode cX5_torn 116 = .ok (.aload_n 0, 1) := by decide +kernel
theorem dX5_torn_117 : decode cX5_torn 117 = .ok (.getfield 16, 3) := by decide +kernel
theorem dX5_torn_120 : decode cX5_torn 120 = .ok (.invokevirtual 31, 3) := by decide +kernel
theorem dX5_torn_123 : decode cX5_torn 123 = .ok (.istore 7, 2) := by decide +kernel
theorem dX5_torn_125 : decode cX5_torn 125 = .ok (.iload 6, 2) := by decide +kernel
theorem dX5_torn_127 : decode cX5_torn 127 = .ok (.tableswitch 61 0 2 #[25, 37, 49], 25) := by decide +kernel
theorem dX5_torn_152 : decode cX5_torn 152 = .ok (.aload_n 0, 1) := by decide +kernel
theorem dX5_torn_153 : decode cX5_torn 153 = .ok (.getfield 16, 3) := by decide +kernel
theorem dX5_torn_156 : decode cX5_torn 156 = .ok (.invokevirtual 100, 3) := by decide +kernel
theorem dX5_torn_159 : decode cX5_torn 159 = .ok (.iload_n 1, 1) := by decide +kernel
theorem dX5_torn_160 : decode cX5_torn 160 = .ok (.invokevirtual 104, 3) := by decide +kernel
theorem dX5_torn_163 : decode cX5_torn 163 = .ok (.lreturn, 1) := by decide +kernel
theorem dX5_torn_164 : decode cX5_torn 164 = .ok (.aload_n 0, 1) := by decide +kernel
theorem dX5_torn_165 : decode cX5_torn 165 = .ok (.getfield 16, 3) := by decide +kernel
theorem dX5_torn_168 : decode cX5_torn 168 = .ok (.invokevirtual 100, 3) := by decide +kernel
theorem dX5_torn_171 : decode cX5_torn 171 = .ok (.invokevirtual 167, 3) := by decide +kernel
theorem dX5_torn_174 : decode cX5_torn 174 = .ok (.i2l, 1) := by decide +kernel
theorem dX5_torn_175 : decode cX5_torn 175 = .ok (.lreturn, 1) := by decide +kernel
theorem dX5_torn_176 : decode cX5_torn 176 = .ok (.aload_n 0, 1) := by decide +kernel
theorem dX5_torn_177 : decode cX5_torn 177 = .ok (.getfield 16, 3) := by decide +kernel
theorem dX5_torn_180 : decode cX5_torn 180 = .ok (.getfield 38, 3) := by decide +kernel
theorem dX5_torn_183 : decode cX5_torn 183 = .ok (.getfield 180, 3) := by decide +kernel
theorem dX5_torn_186 : decode cX5_torn 186 = .ok (.i2l, 1) := by decide +kernel
theorem dX5_torn_187 : decode cX5_torn 187 = .ok (.lreturn, 1) := by decide +kernel
theorem dX5_torn_188 : decode cX5_torn 188 = .ok (.iload 7, 2) := by decide +kernel
theorem dX5_torn_190 : decode cX5_torn 190 = .ok (.i2l, 1) := by decide +kernel
theorem dX5_torn_191 : decode cX5_torn 191 = .ok (.lreturn, 1) := by decide +kernel
theorem dX5_history_0 : decode cX5_history 0 = .ok (.aload_n 0, 1) := by decide +kernel
theorem dX5_history_1 : decode cX5_history 1 = .ok (.getfield 12, 3) := by decide +kernel
theorem dX5_history_4 : decode cX5_history 4 = .ok (.invokevirtual 27, 3) := by decide +kernel
theorem dX5_history_7 : decode cX5_history 7 = .ok (.ifCond .eq 15, 3) := by decide +kernel
theorem dX5_history_10 : decode cX5_history 10 = .ok (.iload_n 1, 1) := by decide +kernel
theorem dX5_history_11 : decode cX5_history 11 = .ok (.invokestatic 95, 3) := by decide +kernel
theorem dX5_history_14 : decode cX5_history 14 = .ok (.ifCond .eq 8, 3) := by decide +kernel
theorem dX5_history_17 : decode cX5_history 17 = .ok (.iload_n 2, 1) := by decide +kernel
theorem dX5_history_18 : decode cX5_history 18 = .ok (.iconst (-1), 1) := by decide +kernel
theorem dX5_history_19 : decode cX5_history 19 = .ok (.if_icmp .ge 7, 3) := by decide +kernel
theorem dX5_history_22 : decode cX5_history 22 = .ok (.ldc2_w 98, 3) := by decide +kernel
theorem dX5_history_25 : decode cX5_history 25 = .ok (.lreturn, 1) := by decide +kernel
theorem dX5_history_26 : decode cX5_history 26 = .ok (.aload_n 0, 1) := by decide +kernel
theorem dX5_history_27 : decode cX5_history 27 = .ok (.getfield 12, 3) := by decide +kernel
theorem dX5_history_30 : decode cX5_history 30 = .ok (.invokevirtual 100, 3) := by decide +kernel
theorem dX5_history_33 : decode cX5_history 33 = .ok (.astore_n 3, 1) := by decide +kernel
theorem dX5_history_34 : decode cX5_history 34 = .ok (.iload_n 2, 1) := by decide +kernel
theorem dX5_history_35 : decode cX5_history 35 = .ok (.iconst (-1), 1) := by decide +kernel
theorem dX5_history_36 : decode cX5_history 36 = .ok (.if_icmp .ne 10, 3) := by decide +kernel
theorem dX5_history_39 : decode cX5_history 39 = .ok (.aload_n 3, 1) := by decide +kernel
theorem dX5_history_40 : decode cX5_history 40 = .ok (.iload_n 1, 1) := by decide +kernel
theorem dX5_history_41 : decode cX5_history 41 = .ok (.invokevirtual 183, 3) := by decide +kernel
theorem dX5_history_44 : decode cX5_history 44 = .ok (.i2l, 1) := by decide +kernel
theorem dX5_history_45 : decode cX5_history 45 = .ok (.lreturn, 1) := by decide +kernel
theorem dX5_history_46 : decode cX5_history 46 = .ok (.aload_n 3, 1) := by decide +kernel
theorem dX5_history_47 : decode cX5_history 47 = .ok (.iload_n 1, 1) := by decide +kernel
theorem dX5_history_48 : decode cX5_history 48 = .ok (.iload_n 2, 1) := by decide +kernel
theorem dX5_history_49 : decode cX5_history 49 = .ok (.invokevirtual 186, 3) := by decide +kernel
theorem dX5_history_52 : decode cX5_history 52 = .ok (.lreturn, 1) := by decide +kernel
theorem dX5_wears_0 : decode cX5_wears 0 = .ok (.aload_n 0, 1) := by decide +kernel
theorem dX5_wears_1 : decode cX5_wears 1 = .ok (.getfield 12, 3) := by decide +kernel
theorem dX5_wears_4 : decode cX5_wears 4 = .ok (.invokevirtual 27, 3) := by decide +kernel
theorem dX5_wears_7 : decode cX5_wears 7 = .ok (.ifCond .eq 23, 3) := by decide +kernel
theorem dX5_wears_10 : decode cX5_wears 10 = .ok (.iload_n 1, 1) := by decide +kernel
theorem dX5_wears_11 : decode cX5_wears 11 = .ok (.iconst 0, 1) := by decide +kernel
theorem dX5_wears_12 : decode cX5_wears 12 = .ok (.sipush 1000, 3) := by decide +kernel
theorem dX5_wears_15 : decode cX5_wears 15 = .ok (.invokestatic 19, 3) := by decide +kernel
theorem dX5_wears_18 : decode cX5_wears 18 = .ok (.ifCond .eq 12, 3) := by decide +kernel
theorem dX5_wears_21 : decode cX5_wears 21 = .ok (.iload_n 2, 1) := by decide +kernel
theorem dX5_wears_22 : decode cX5_wears 22 = .ok (.iconst 0, 1) := by decide +kernel
theorem dX5_wears_23 : decode cX5_wears 23 = .ok (.iconst 2, 1) := by decide +kernel
theorem dX5_wears_24 : decode cX5_wears 24 = .ok (.invokestatic 19, 3) := by decide +kernel
theorem dX5_wears_27 : decode cX5_wears 27 = .ok (.ifCond .ne 5, 3) := by decide +kernel
theorem dX5_wears_30 : decode cX5_wears 30 = .ok (.iconst (-1), 1) := by decide +kernel
theorem dX5_wears_31 : decode cX5_wears 31 = .ok (.ireturn, 1) := by decide +kernel
theorem dX5_wears_32 : decode cX5_wears 32 = .ok (.aload_n 0, 1) := by decide +kernel
theorem dX5_wears_33 : decode cX5_wears 33 = .ok (.getfield 16, 3) := by decide +kernel
theorem dX5_wears_36 : decode cX5_wears 36 = .ok (.aload_n 0, 1) := by decide +kernel
theorem dX5_wears_37 : decode cX5_wears 37 = .ok (.getfield 12, 3) := by decide +kernel
theorem dX5_wears_40 : decode cX5_wears 40 = .ok (.invokevirtual 176, 3) := by decide +kernel
theorem dX5_wears_43 : decode cX5_wears 43 = .ok (.aload_n 0, 1) := by decide +kernel
theorem dX5_wears_44 : decode cX5_wears 44 = .ok (.getfield 16, 3) := by decide +kernel
theorem dX5_wears_47 : decode cX5_wears 47 = .ok (.iload_n 1, 1) := by decide +kernel
theorem dX5_wears_48 : decode cX5_wears 48 = .ok (.invokevirtual 190, 3) := by decide +kernel
theorem dX5_wears_51 : decode cX5_wears 51 = .ok (.iload_n 2, 1) := by decide +kernel
theorem dX5_wears_52 : decode cX5_wears 52 = .ok (.iconst 2, 1) := by decide +kernel
theorem dX5_wears_53 : decode cX5_wears 53 = .ok (.if_icmp .ne 11, 3) := by decide +kernel
theorem dX5_wears_56 : decode cX5_wears 56 = .ok (.aload_n 0, 1) := by decide +kernel
theorem dX5_wears_57 : decode cX5_wears 57 = .ok (.getfield 16, 3) := by decide +kernel
theorem dX5_wears_60 : decode cX5_wears 60 = .ok (.getfield 139, 3) := by decide +kernel
theorem dX5_wears_63 : decode cX5_wears 63 = .ok (.ireturn, 1) := by decide +kernel
theorem dX5_wears_64 : decode cX5_wears 64 = .ok (.iload_n 2, 1) := by decide +kernel
theorem dX5_wears_65 : decode cX5_wears 65 = .ok (.ifCond .ne 16, 3) := by decide +kernel
theorem dX5_wears_68 : decode cX5_wears 68 = .ok (.aload_n 0, 1) := by decide +kernel
theorem dX5_wears_69 : decode cX5_wears 69 = .ok (.getfield 16, 3) := by decide +kernel
theorem dX5_wears_72 : decode cX5_wears 72 = .ok (.getfield 38, 3) := by decide +kernel
theorem dX5_wears_75 : decode cX5_wears 75 = .ok (.invokevirtual 194, 3) := by decide +kernel
theorem dX5_wears_78 : decode cX5_wears 78 = .ok (.goto 13, 3) := by decide +kernel
theorem dX5_wears_81 : decode cX5_wears 81 = .ok (.aload_n 0, 1) := by decide +kernel
theorem dX5_wears_82 : decode cX5_wears 82 = .ok (.getfield 16, 3) := by decide +kernel
theorem dX5_wears_85 : decode cX5_wears 85 = .ok (.getfield 38, 3) := by decide +kernel
theorem dX5_wears_88 : decode cX5_wears 88 = .ok (.invokevirtual 197, 3) := by decide +kernel
theorem dX5_wears_91 : decode cX5_wears 91 = .ok (.ireturn, 1) := by decide +kernel
theorem dX5_wear_0 : decode cX5_wear 0 = .ok (.aload_n 0, 1) := by decide +kernel
theorem dX5_wear_1 : decode cX5_wear 1 = .ok (.getfield 12, 3) := by decide +kernel
theorem dX5_wear_4 : decode cX5_wear 4 = .ok (.getfield 38, 3) := by decide +kernel
theorem dX5_wear_7 : decode cX5_wear 7 = .ok (.astore_n 2, 1) := by decide +kernel
theorem dX5_wear_8 : decode cX5_wear 8 = .ok (.iload_n 1, 1) := by decide +kernel
theorem dX5_wear_9 : decode cX5_wear 9 = .ok (.tableswitch 60 0 4 #[35, 40, 45, 50, 55], 35) := by decide +kernel
theorem dX5_wear_44 : decode cX5_wear 44 = .ok (.aload_n 2, 1) := by decide +kernel
theorem dX5_wear_45 : decode cX5_wear 45 = .ok (.invokevirtual 194, 3) := by decide +kernel
theorem dX5_wear_48 : decode cX5_wear 48 = .ok (.ireturn, 1) := by decide +kernel
theorem dX5_wear_49 : decode cX5_wear 49 = .ok (.aload_n 2, 1) := by decide +kernel
theorem dX5_wear_50 : decode cX5_wear 50 = .ok (.invokevirtual 197, 3) := by decide +kernel
theorem dX5_wear_53 : decode cX5_wear 53 = .ok (.ireturn, 1) := by decide +kernel
theorem dX5_wear_54 : decode cX5_wear 54 = .ok (.aload_n 2, 1) := by decide +kernel
theorem dX5_wear_55 : decode cX5_wear 55 = .ok (.invokevirtual 200, 3) := by decide +kernel
theorem dX5_wear_58 : decode cX5_wear 58 = .ok (.ireturn, 1) := by decide +kernel
theorem dX5_wear_59 : decode cX5_wear 59 = .ok (.aload_n 2, 1) := by decide +kernel
theorem dX5_wear_60 : decode cX5_wear 60 = .ok (.getfield 203, 3) := by decide +kernel
theorem dX5_wear_63 : decode cX5_wear 63 = .ok (.ireturn, 1) := by decide +kernel
theorem dX5_wear_64 : decode cX5_wear 64 = .ok (.aload_n 2, 1) := by decide +kernel
theorem dX5_wear_65 : decode cX5_wear 65 = .ok (.invokestatic 206, 3) := by decide +kernel
theorem dX5_wear_68 : decode cX5_wear 68 = .ok (.ireturn, 1) := by decide +kernel
theorem dX5_wear_69 : decode cX5_wear 69 = .ok (.iconst (-1), 1) := by decide +kernel
theorem dX5_wear_70 : decode cX5_wear 70 = .ok (.ireturn, 1) := by decide +kernel
theorem dX5_tags_0 : decode cX5_tags 0 = .ok (.aload_n 0, 1) := by decide +kernel
theorem dX5_tags_1 : decode cX5_tags 1 = .ok (.getfield 12, 3) := by decide +kernel
theorem dX5_tags_4 : decode cX5_tags 4 = .ok (.invokevirtual 27, 3) := by decide +kernel
theorem dX5_tags_7 : decode cX5_tags 7 = .ok (.ifCond .eq 16, 3) := by decide +kernel
theorem dX5_tags_10 : decode cX5_tags 10 = .ok (.aload_n 0, 1) := by decide +kernel
theorem dX5_tags_11 : decode cX5_tags 11 = .ok (.getfield 12, 3) := by decide +kernel
theorem dX5_tags_14 : decode cX5_tags 14 = .ok (.invokevirtual 100, 3) := by decide +kernel
theorem dX5_tags_17 : decode cX5_tags 17 = .ok (.invokevirtual 210, 3) := by decide +kernel
theorem dX5_tags_20 : decode cX5_tags 20 = .ok (.goto 6, 3) := by decide +kernel
theorem dX5_tags_23 : decode cX5_tags 23 = .ok (.ldc2_w 98, 3) := by decide +kernel
theorem dX5_tags_26 : decode cX5_tags 26 = .ok (.lreturn, 1) := by decide +kernel
theorem dX5_count_0 : decode cX5_count 0 = .ok (.iload_n 1, 1) := by decide +kernel
theorem dX5_count_1 : decode cX5_count 1 = .ok (.tableswitch 151 0 7 #[47, 58, 69, 85, 93, 121, 132, 143], 47) := by decide +kernel
theorem dX5_count_48 : decode cX5_count 48 = .ok (.aload_n 0, 1) := by decide +kernel
theorem dX5_count_49 : decode cX5_count 49 = .ok (.getfield 12, 3) := by decide +kernel
theorem dX5_count_52 : decode cX5_count 52 = .ok (.getfield 38, 3) := by decide +kernel
theorem dX5_count_55 : decode cX5_count 55 = .ok (.getfield 214, 3) := by decide +kernel
theorem dX5_count_58 : decode cX5_count 58 = .ok (.ireturn, 1) := by decide +kernel
theorem dX5_count_59 : decode cX5_count 59 = .ok (.aload_n 0, 1) := by decide +kernel
theorem dX5_count_60 : decode cX5_count 60 = .ok (.getfield 12, 3) := by decide +kernel
theorem dX5_count_63 : decode cX5_count 63 = .ok (.getfield 38, 3) := by decide +kernel
theorem dX5_count_66 : decode cX5_count 66 = .ok (.getfield 217, 3) := by decide +kernel
theorem dX5_count_69 : decode cX5_count 69 = .ok (.ireturn, 1) := by decide +kernel
theorem dX5_count_70 : decode cX5_count 70 = .ok (.aload_n 0, 1) := by decide +kernel
theorem dX5_count_71 : decode cX5_count 71 = .ok (.getfield 12, 3) := by decide +kernel
theorem dX5_count_74 : decode cX5_count 74 = .ok (.invokevirtual 27, 3) := by decide +kernel
theorem dX5_count_77 : decode cX5_count 77 = .ok (.ifCond .eq 7, 3) := by decide +kernel
theorem dX5_count_80 : decode cX5_count 80 = .ok (.iconst 1, 1) := by decide +kernel
theorem dX5_count_81 : decode cX5_count 81 = .ok (.goto 4, 3) := by decide +kernel
theorem dX5_count_84 : decode cX5_count 84 = .ok (.iconst 0, 1) := by decide +kernel
theorem dX5_count_85 : decode cX5_count 85 = .ok (.ireturn, 1) := by decide +kernel
theorem dX5_count_86 : decode cX5_count 86 = .ok (.aload_n 0, 1) := by decide +kernel
theorem dX5_count_87 : decode cX5_count 87 = .ok (.getfield 12, 3) := by decide +kernel
theorem dX5_count_90 : decode cX5_count 90 = .ok (.getfield 139, 3) := by decide +kernel
theorem dX5_count_93 : decode cX5_count 93 = .ok (.ireturn, 1) := by decide +kernel
theorem dX5_count_94 : decode cX5_count 94 = .ok (.aload_n 0, 1) := by decide +kernel
theorem dX5_count_95 : decode cX5_count 95 = .ok (.getfield 12, 3) := by decide +kernel
theorem dX5_count_98 : decode cX5_count 98 = .ok (.getfield 58, 3) := by decide +kernel
theorem dX5_count_101 : decode cX5_count 101 = .ok (.getfield 62, 3) := by decide +kernel
theorem dX5_count_104 : decode cX5_count 104 = .ok (.ifCond .eq 16, 3) := by decide +kernel
theorem dX5_count_107 : decode cX5_count 107 = .ok (.aload_n 0, 1) := by decide +kernel
theorem dX5_count_108 : decode cX5_count 108 = .ok (.getfield 12, 3) := by decide +kernel
theorem dX5_count_111 : decode cX5_count 111 = .ok (.getfield 58, 3) := by decide +kernel
theorem dX5_count_114 : decode cX5_count 114 = .ok (.getfield 85, 3) := by decide +kernel
theorem dX5_count_117 : decode cX5_count 117 = .ok (.goto 4, 3) := by decide +kernel
theorem dX5_count_120 : decode cX5_count 120 = .ok (.iconst (-1), 1) := by decide +kernel
theorem dX5_count_121 : decode cX5_count 121 = .ok (.ireturn, 1) := by decide +kernel
theorem dX5_count_122 : decode cX5_count 122 = .ok (.aload_n 0, 1) := by decide +kernel
theorem dX5_count_123 : decode cX5_count 123 = .ok (.getfield 12, 3) := by decide +kernel
theorem dX5_count_126 : decode cX5_count 126 = .ok (.getfield 38, 3) := by decide +kernel
theorem dX5_count_129 : decode cX5_count 129 = .ok (.getfield 220, 3) := by decide +kernel
theorem dX5_count_132 : decode cX5_count 132 = .ok (.ireturn, 1) := by decide +kernel
theorem dX5_count_133 : decode cX5_count 133 = .ok (.aload_n 0, 1) := by decide +kernel
theorem dX5_count_134 : decode cX5_count 134 = .ok (.getfield 12, 3) := by decide +kernel
theorem dX5_count_137 : decode cX5_count 137 = .ok (.getfield 38, 3) := by decide +kernel
theorem dX5_count_140 : decode cX5_count 140 = .ok (.getfield 223, 3) := by decide +kernel
theorem dX5_count_143 : decode cX5_count 143 = .ok (.ireturn, 1) := by decide +kernel
theorem dX5_count_144 : decode cX5_count 144 = .ok (.aload_n 0, 1) := by decide +kernel
theorem dX5_count_145 : decode cX5_count 145 = .ok (.getfield 12, 3) := by decide +kernel
theorem dX5_count_148 : decode cX5_count 148 = .ok (.getfield 226, 3) := by decide +kernel
theorem dX5_count_151 : decode cX5_count 151 = .ok (.ireturn, 1) := by decide +kernel
theorem dX5_count_152 : decode cX5_count 152 = .ok (.iconst (-1), 1) := by decide +kernel
theorem dX5_count_153 : decode cX5_count 153 = .ok (.ireturn, 1) := by decide +kernel
theorem dX5_within_0 : decode cX5_within 0 = .ok (.iload_n 0, 1) := by decide +kernel
theorem dX5_within_1 : decode cX5_within 1 = .ok (.iload_n 1, 1) := by decide +kernel
theorem dX5_within_2 : decode cX5_within 2 = .ok (.if_icmp .lt 12, 3) := by decide +kernel
theorem dX5_within_5 : decode cX5_within 5 = .ok (.iload_n 0, 1) := by decide +kernel
theorem dX5_within_6 : decode cX5_within 6 = .ok (.iload_n 2, 1) := by decide +kernel
theorem dX5_within_7 : decode cX5_within 7 = .ok (.if_icmp .gt 7, 3) := by decide +kernel
theorem dX5_within_10 : decode cX5_within 10 = .ok (.iconst 1, 1) := by decide +kernel
theorem dX5_within_11 : decode cX5_within 11 = .ok (.goto 4, 3) := by decide +kernel
theorem dX5_within_14 : decode cX5_within 14 = .ok (.iconst 0, 1) := by decide +kernel
theorem dX5_within_15 : decode cX5_within 15 = .ok (.ireturn, 1) := by decide +kernel
theorem dX5_isTag_0 : decode cX5_isTag 0 = .ok (.iload_n 0, 1) := by decide +kernel
theorem dX5_isTag_1 : decode cX5_isTag 1 = .ok (.ifCond .lt 13, 3) := by decide +kernel
theorem dX5_isTag_4 : decode cX5_isTag 4 = .ok (.iload_n 0, 1) := by decide +kernel
theorem dX5_isTag_5 : decode cX5_isTag 5 = .ok (.bipush 48, 2) := by decide +kernel
theorem dX5_isTag_7 : decode cX5_isTag 7 = .ok (.if_icmp .ge 7, 3) := by decide +kernel
theorem dX5_isTag_10 : decode cX5_isTag 10 = .ok (.iconst 1, 1) := by decide +kernel
theorem dX5_isTag_11 : decode cX5_isTag 11 = .ok (.goto 4, 3) := by decide +kernel
theorem dX5_isTag_14 : decode cX5_isTag 14 = .ok (.iconst 0, 1) := by decide +kernel
theorem dX5_isTag_15 : decode cX5_isTag 15 = .ok (.ireturn, 1) := by decide +kernel
theorem dX5_isSetting_0 : decode cX5_isSetting 0 = .ok (.iload_n 0, 1) := by decide +kernel
theorem dX5_isSetting_1 : decode cX5_isSetting 1 = .ok (.iconst 0, 1) := by decide +kernel
theorem dX5_isSetting_2 : decode cX5_isSetting 2 = .ok (.bipush 31, 2) := by decide +kernel
theorem dX5_isSetting_4 : decode cX5_isSetting 4 = .ok (.invokestatic 19, 3) := by decide +kernel
theorem dX5_isSetting_7 : decode cX5_isSetting 7 = .ok (.ifCond .eq 16, 3) := by decide +kernel
theorem dX5_isSetting_10 : decode cX5_isSetting 10 = .ok (.iload_n 1, 1) := by decide +kernel
theorem dX5_isSetting_11 : decode cX5_isSetting 11 = .ok (.iconst 1, 1) := by decide +kernel
theorem dX5_isSetting_12 : decode cX5_isSetting 12 = .ok (.iconst 4, 1) := by decide +kernel
theorem dX5_isSetting_13 : decode cX5_isSetting 13 = .ok (.invokestatic 19, 3) := by decide +kernel
theorem dX5_isSetting_16 : decode cX5_isSetting 16 = .ok (.ifCond .eq 7, 3) := by decide +kernel
theorem dX5_isSetting_19 : decode cX5_isSetting 19 = .ok (.iconst 1, 1) := by decide +kernel
theorem dX5_isSetting_20 : decode cX5_isSetting 20 = .ok (.goto 4, 3) := by decide +kernel
theorem dX5_isSetting_23 : decode cX5_isSetting 23 = .ok (.iconst 0, 1) := by decide +kernel
theorem dX5_isSetting_24 : decode cX5_isSetting 24 = .ok (.ireturn, 1) := by decide +kernel
theorem dX5_checkOf_0 : decode cX5_checkOf 0 = .ok (.iload_n 0, 1) := by decide +kernel
theorem dX5_checkOf_1 : decode cX5_checkOf 1 = .ok (.bipush 85, 2) := by decide +kernel
theorem dX5_checkOf_3 : decode cX5_checkOf 3 = .ok (.iadd, 1) := by decide +kernel
theorem dX5_checkOf_4 : decode cX5_checkOf 4 = .ok (.sipush 251, 3) := by decide +kernel
theorem dX5_checkOf_7 : decode cX5_checkOf 7 = .ok (.irem, 1) := by decide +kernel
theorem dX5_checkOf_8 : decode cX5_checkOf 8 = .ok (.ireturn, 1) := by decide +kernel
theorem dX5_unevenness_0 : decode cX5_unevenness 0 = .ok (.aload_n 0, 1) := by decide +kernel
theorem dX5_unevenness_1 : decode cX5_unevenness 1 = .ok (.invokevirtual 200, 3) := by decide +kernel
theorem dX5_unevenness_4 : decode cX5_unevenness 4 = .ok (.istore_n 1, 1) := by decide +kernel
theorem dX5_unevenness_5 : decode cX5_unevenness 5 = .ok (.iload_n 1, 1) := by decide +kernel
theorem dX5_unevenness_6 : decode cX5_unevenness 6 = .ok (.ifCond .le 10, 3) := by decide +kernel
theorem dX5_unevenness_9 : decode cX5_unevenness 9 = .ok (.aload_n 0, 1) := by decide +kernel
theorem dX5_unevenness_10 : decode cX5_unevenness 10 = .ok (.getfield 214, 3) := by decide +kernel
theorem dX5_unevenness_13 : decode cX5_unevenness 13 = .ok (.ifCond .gt 5, 3) := by decide +kernel
theorem dX5_unevenness_16 : decode cX5_unevenness 16 = .ok (.iconst 0, 1) := by decide +kernel
theorem dX5_unevenness_17 : decode cX5_unevenness 17 = .ok (.ireturn, 1) := by decide +kernel
theorem dX5_unevenness_18 : decode cX5_unevenness 18 = .ok (.iload_n 1, 1) := by decide +kernel
theorem dX5_unevenness_19 : decode cX5_unevenness 19 = .ok (.i2f, 1) := by decide +kernel
theorem dX5_unevenness_20 : decode cX5_unevenness 20 = .ok (.aload_n 0, 1) := by decide +kernel
theorem dX5_unevenness_21 : decode cX5_unevenness 21 = .ok (.getfield 214, 3) := by decide +kernel
theorem dX5_unevenness_24 : decode cX5_unevenness 24 = .ok (.i2f, 1) := by decide +kernel
theorem dX5_unevenness_25 : decode cX5_unevenness 25 = .ok (.fdiv, 1) := by decide +kernel
theorem dX5_unevenness_26 : decode cX5_unevenness 26 = .ok (.fstore_n 2, 1) := by decide +kernel
theorem dX5_unevenness_27 : decode cX5_unevenness 27 = .ok (.aload_n 0, 1) := by decide +kernel
theorem dX5_unevenness_28 : decode cX5_unevenness 28 = .ok (.invokevirtual 194, 3) := by decide +kernel
theorem dX5_unevenness_31 : decode cX5_unevenness 31 = .ok (.i2f, 1) := by decide +kernel
theorem dX5_unevenness_32 : decode cX5_unevenness 32 = .ok (.fload_n 2, 1) := by decide +kernel
theorem dX5_unevenness_33 : decode cX5_unevenness 33 = .ok (.fdiv, 1) := by decide +kernel
theorem dX5_unevenness_34 : decode cX5_unevenness 34 = .ok (.invokestatic 229, 3) := by decide +kernel
theorem dX5_unevenness_37 : decode cX5_unevenness 37 = .ok (.ireturn, 1) := by decide +kernel
theorem dX5_bitsOf_0 : decode cX5_bitsOf 0 = .ok (.fload_n 0, 1) := by decide +kernel
theorem dX5_bitsOf_1 : decode cX5_bitsOf 1 = .ok (.fstore_n 1, 1) := by decide +kernel
theorem dX5_bitsOf_2 : decode cX5_bitsOf 2 = .ok (.bipush 127, 2) := by decide +kernel
theorem dX5_bitsOf_4 : decode cX5_bitsOf 4 = .ok (.istore_n 2, 1) := by decide +kernel
theorem dX5_bitsOf_5 : decode cX5_bitsOf 5 = .ok (.iconst 0, 1) := by decide +kernel
theorem dX5_bitsOf_6 : decode cX5_bitsOf 6 = .ok (.istore_n 3, 1) := by decide +kernel
theorem dX5_bitsOf_7 : decode cX5_bitsOf 7 = .ok (.iload_n 3, 1) := by decide +kernel
theorem dX5_bitsOf_8 : decode cX5_bitsOf 8 = .ok (.bipush 126, 2) := by decide +kernel
theorem dX5_bitsOf_10 : decode cX5_bitsOf 10 = .ok (.if_icmp .ge 22, 3) := by decide +kernel
theorem dX5_bitsOf_13 : decode cX5_bitsOf 13 = .ok (.fload_n 1, 1) := by decide +kernel
theorem dX5_bitsOf_14 : decode cX5_bitsOf 14 = .ok (.fconst 2, 1) := by decide +kernel
theorem dX5_bitsOf_15 : decode cX5_bitsOf 15 = .ok (.fcmp .l, 1) := by decide +kernel
theorem dX5_bitsOf_16 : decode cX5_bitsOf 16 = .ok (.ifCond .lt 16, 3) := by decide +kernel
theorem dX5_bitsOf_19 : decode cX5_bitsOf 19 = .ok (.fload_n 1, 1) := by decide +kernel
theorem dX5_bitsOf_20 : decode cX5_bitsOf 20 = .ok (.fconst 2, 1) := by decide +kernel
theorem dX5_bitsOf_21 : decode cX5_bitsOf 21 = .ok (.fdiv, 1) := by decide +kernel
theorem dX5_bitsOf_22 : decode cX5_bitsOf 22 = .ok (.fstore_n 1, 1) := by decide +kernel
theorem dX5_bitsOf_23 : decode cX5_bitsOf 23 = .ok (.iinc 2 1, 3) := by decide +kernel
theorem dX5_bitsOf_26 : decode cX5_bitsOf 26 = .ok (.iinc 3 1, 3) := by decide +kernel
theorem dX5_bitsOf_29 : decode cX5_bitsOf 29 = .ok (.goto (-22), 3) := by decide +kernel
theorem dX5_bitsOf_32 : decode cX5_bitsOf 32 = .ok (.iconst 0, 1) := by decide +kernel
theorem dX5_bitsOf_33 : decode cX5_bitsOf 33 = .ok (.istore_n 3, 1) := by decide +kernel
theorem dX5_bitsOf_34 : decode cX5_bitsOf 34 = .ok (.iload_n 3, 1) := by decide +kernel
theorem dX5_bitsOf_35 : decode cX5_bitsOf 35 = .ok (.bipush 126, 2) := by decide +kernel
theorem dX5_bitsOf_37 : decode cX5_bitsOf 37 = .ok (.if_icmp .ge 22, 3) := by decide +kernel
theorem dX5_bitsOf_40 : decode cX5_bitsOf 40 = .ok (.fload_n 1, 1) := by decide +kernel
theorem dX5_bitsOf_41 : decode cX5_bitsOf 41 = .ok (.fconst 1, 1) := by decide +kernel
theorem dX5_bitsOf_42 : decode cX5_bitsOf 42 = .ok (.fcmp .g, 1) := by decide +kernel
theorem dX5_bitsOf_43 : decode cX5_bitsOf 43 = .ok (.ifCond .ge 16, 3) := by decide +kernel
theorem dX5_bitsOf_46 : decode cX5_bitsOf 46 = .ok (.fload_n 1, 1) := by decide +kernel
theorem dX5_bitsOf_47 : decode cX5_bitsOf 47 = .ok (.fconst 2, 1) := by decide +kernel
theorem dX5_bitsOf_48 : decode cX5_bitsOf 48 = .ok (.fmul, 1) := by decide +kernel
theorem dX5_bitsOf_49 : decode cX5_bitsOf 49 = .ok (.fstore_n 1, 1) := by decide +kernel
theorem dX5_bitsOf_50 : decode cX5_bitsOf 50 = .ok (.iinc 2 (-1), 3) := by decide +kernel
theorem dX5_bitsOf_53 : decode cX5_bitsOf 53 = .ok (.iinc 3 1, 3) := by decide +kernel
theorem dX5_bitsOf_56 : decode cX5_bitsOf 56 = .ok (.goto (-22), 3) := by decide +kernel
theorem dX5_bitsOf_59 : decode cX5_bitsOf 59 = .ok (.iload_n 2, 1) := by decide +kernel
theorem dX5_bitsOf_60 : decode cX5_bitsOf 60 = .ok (.bipush 23, 2) := by decide +kernel
theorem dX5_bitsOf_62 : decode cX5_bitsOf 62 = .ok (.ishl, 1) := by decide +kernel
theorem dX5_bitsOf_63 : decode cX5_bitsOf 63 = .ok (.fload_n 1, 1) := by decide +kernel
theorem dX5_bitsOf_64 : decode cX5_bitsOf 64 = .ok (.fconst 1, 1) := by decide +kernel
theorem dX5_bitsOf_65 : decode cX5_bitsOf 65 = .ok (.fsub, 1) := by decide +kernel
theorem dX5_bitsOf_66 : decode cX5_bitsOf 66 = .ok (.ldc 233, 2) := by decide +kernel
theorem dX5_bitsOf_68 : decode cX5_bitsOf 68 = .ok (.fmul, 1) := by decide +kernel
theorem dX5_bitsOf_69 : decode cX5_bitsOf 69 = .ok (.f2i, 1) := by decide +kernel
theorem dX5_bitsOf_70 : decode cX5_bitsOf 70 = .ok (.iadd, 1) := by decide +kernel
theorem dX5_bitsOf_71 : decode cX5_bitsOf 71 = .ok (.ireturn, 1) := by decide +kernel
end
section
theorem dX6_init_0 : decode cX6_init 0 = .ok (.aload_n 0, 1) := by decide +kernel
theorem dX6_init_1 : decode cX6_init 1 = .ok (.invokespecial 1, 3) := by decide +kernel
theorem dX6_init_4 : decode cX6_init 4 = .ok (.aload_n 0, 1) := by decide +kernel
theorem dX6_init_5 : decode cX6_init 5 = .ok (.sipush 810, 3) := by decide +kernel
theorem dX6_init_8 : decode cX6_init 8 = .ok (.newarray .int, 2) := by decide +kernel
theorem dX6_init_10 : decode cX6_init 10 = .ok (.putfield 7, 3) := by decide +kernel
theorem dX6_init_13 : decode cX6_init 13 = .ok (.aload_n 0, 1) := by decide +kernel
theorem dX6_init_14 : decode cX6_init 14 = .ok (.sipush 810, 3) := by decide +kernel
theorem dX6_init_17 : decode cX6_init 17 = .ok (.newarray .int, 2) := by decide +kernel
theorem dX6_init_19 : decode cX6_init 19 = .ok (.putfield 13, 3) := by decide +kernel
theorem dX6_init_22 : decode cX6_init 22 = .ok (.aload_n 0, 1) := by decide +kernel
theorem dX6_init_23 : decode cX6_init 23 = .ok (.bipush 64, 2) := by decide +kernel
theorem dX6_init_25 : decode cX6_init 25 = .ok (.newarray .int, 2) := by decide +kernel
theorem dX6_init_27 : decode cX6_init 27 = .ok (.putfield 16, 3) := by decide +kernel
theorem dX6_init_30 : decode cX6_init 30 = .ok (.aload_n 0, 1) := by decide +kernel
theorem dX6_init_31 : decode cX6_init 31 = .ok (.bipush 64, 2) := by decide +kernel
theorem dX6_init_33 : decode cX6_init 33 = .ok (.newarray .int, 2) := by decide +kernel
theorem dX6_init_35 : decode cX6_init 35 = .ok (.putfield 19, 3) := by decide +kernel
theorem dX6_init_38 : decode cX6_init 38 = .ok (.aload_n 0, 1) := by decide +kernel
theorem dX6_init_39 : decode cX6_init 39 = .ok (.bipush 64, 2) := by decide +kernel
theorem dX6_init_41 : decode cX6_init 41 = .ok (.newarray .int, 2) := by decide +kernel
theorem dX6_init_43 : decode cX6_init 43 = .ok (.putfield 22, 3) := by decide +kernel
theorem dX6_init_46 : decode cX6_init 46 = .ok (.aload_n 0, 1) := by decide +kernel
theorem dX6_init_47 : decode cX6_init 47 = .ok (.bipush 64, 2) := by decide +kernel
theorem dX6_init_49 : decode cX6_init 49 = .ok (.newarray .int, 2) := by decide +kernel
theorem dX6_init_51 : decode cX6_init 51 = .ok (.putfield 25, 3) := by decide +kernel
theorem dX6_init_54 : decode cX6_init 54 = .ok (.aload_n 0, 1) := by decide +kernel
theorem dX6_init_55 : decode cX6_init 55 = .ok (.bipush 48, 2) := by decide +kernel
theorem dX6_init_57 : decode cX6_init 57 = .ok (.newarray .int, 2) := by decide +kernel
theorem dX6_init_59 : decode cX6_init 59 = .ok (.putfield 28, 3) := by decide +kernel
theorem dX6_init_62 : decode cX6_init 62 = .ok (.aload_n 0, 1) := by decide +kernel
theorem dX6_init_63 : decode cX6_init 63 = .ok (.iconst 3, 1) := by decide +kernel
theorem dX6_init_64 : decode cX6_init 64 = .ok (.bipush 64, 2) := by decide +kernel
theorem dX6_init_66 : decode cX6_init 66 = .ok (.invokevirtual 31, 3) := by decide +kernel
theorem dX6_init_69 : decode cX6_init 69 = .ok (.return_, 1) := by decide +kernel
theorem dX6_within_0 : decode cX6_within 0 = .ok (.iload_n 0, 1) := by decide +kernel
theorem dX6_within_1 : decode cX6_within 1 = .ok (.iload_n 1, 1) := by decide +kernel
theorem dX6_within_2 : decode cX6_within 2 = .ok (.if_icmp .lt 12, 3) := by decide +kernel
theorem dX6_within_5 : decode cX6_within 5 = .ok (.iload_n 0, 1) := by decide +kernel
theorem dX6_within_6 : decode cX6_within 6 = .ok (.iload_n 2, 1) := by decide +kernel
theorem dX6_within_7 : decode cX6_within 7 = .ok (.if_icmp .gt 7, 3) := by decide +kernel
theorem dX6_within_10 : decode cX6_within 10 = .ok (.iconst 1, 1) := by decide +kernel
theorem dX6_within_11 : decode cX6_within 11 = .ok (.goto 4, 3) := by decide +kernel
theorem dX6_within_14 : decode cX6_within 14 = .ok (.iconst 0, 1) := by decide +kernel
theorem dX6_within_15 : decode cX6_within 15 = .ok (.ireturn, 1) := by decide +kernel
theorem dX6_isOn_0 : decode cX6_isOn 0 = .ok (.aload_n 0, 1) := by decide +kernel
theorem dX6_isOn_1 : decode cX6_isOn 1 = .ok (.getfield 7, 3) := by decide +kernel
theorem dX6_isOn_4 : decode cX6_isOn 4 = .ok (.iconst 2, 1) := by decide +kernel
theorem dX6_isOn_5 : decode cX6_isOn 5 = .ok (.iaload, 1) := by decide +kernel
theorem dX6_isOn_6 : decode cX6_isOn 6 = .ok (.iconst 1, 1) := by decide +kernel
theorem dX6_isOn_7 : decode cX6_isOn 7 = .ok (.if_icmp .ne 7, 3) := by decide +kernel
theorem dX6_isOn_10 : decode cX6_isOn 10 = .ok (.iconst 1, 1) := by decide +kernel
theorem dX6_isOn_11 : decode cX6_isOn 11 = .ok (.goto 4, 3) := by decide +kernel
theorem dX6_isOn_14 : decode cX6_isOn 14 = .ok (.iconst 0, 1) := by decide +kernel
theorem dX6_isOn_15 : decode cX6_isOn 15 = .ok (.ireturn, 1) := by decide +kernel
theorem dX6_isSector_0 : decode cX6_isSector 0 = .ok (.iload_n 1, 1) := by decide +kernel
theorem dX6_isSector_1 : decode cX6_isSector 1 = .ok (.iconst 0, 1) := by decide +kernel
theorem dX6_isSector_2 : decode cX6_isSector 2 = .ok (.aload_n 0, 1) := by decide +kernel
theorem dX6_isSector_3 : decode cX6_isSector 3 = .ok (.getfield 7, 3) := by decide +kernel
theorem dX6_isSector_6 : decode cX6_isSector 6 = .ok (.iconst 0, 1) := by decide +kernel
theorem dX6_isSector_7 : decode cX6_isSector 7 = .ok (.iaload, 1) := by decide +kernel
theorem dX6_isSector_8 : decode cX6_isSector 8 = .ok (.iconst 1, 1) := by decide +kernel
theorem dX6_isSector_9 : decode cX6_isSector 9 = .ok (.isub, 1) := by decide +kernel
theorem dX6_isSector_10 : decode cX6_isSector 10 = .ok (.invokestatic 39, 3) := by decide +kernel
theorem dX6_isSector_13 : decode cX6_isSector 13 = .ok (.ireturn, 1) := by decide +kernel
theorem dX6_byteAt_0 : decode cX6_byteAt 0 = .ok (.aload_n 0, 1) := by decide +kernel
theorem dX6_byteAt_1 : decode cX6_byteAt 1 = .ok (.getfield 7, 3) := by decide +kernel
theorem dX6_byteAt_4 : decode cX6_byteAt 4 = .ok (.bipush 42, 2) := by decide +kernel
theorem dX6_byteAt_6 : decode cX6_byteAt 6 = .ok (.sipush 128, 3) := by decide +kernel
theorem dX6_byteAt_9 : decode cX6_byteAt 9 = .ok (.iload_n 1, 1) := by decide +kernel
theorem dX6_byteAt_10 : decode cX6_byteAt 10 = .ok (.imul, 1) := by decide +kernel
theorem dX6_byteAt_11 : decode cX6_byteAt 11 = .ok (.iadd, 1) := by decide +kernel
theorem dX6_byteAt_12 : decode cX6_byteAt 12 = .ok (.iload_n 2, 1) := by decide +kernel
theorem dX6_byteAt_13 : decode cX6_byteAt 13 = .ok (.iadd, 1) := by decide +kernel
theorem dX6_byteAt_14 : decode cX6_byteAt 14 = .ok (.iaload, 1) := by decide +kernel
theorem dX6_byteAt_15 : decode cX6_byteAt 15 = .ok (.ireturn, 1) := by decide +kernel
theorem dX6_makes_0 : decode cX6_makes 0 = .ok (.iconst 0, 1) := by decide +kernel
theorem dX6_makes_1 : decode cX6_makes 1 = .ok (.istore_n 3, 1) := by decide +kernel
theorem dX6_makes_2 : decode cX6_makes 2 = .ok (.iload_n 3, 1) := by decide +kernel
theorem dX6_makes_3 : decode cX6_makes 3 = .ok (.sipush 810, 3) := by decide +kernel
theorem dX6_makes_6 : decode cX6_makes 6 = .ok (.if_icmp .ge 16, 3) := by decide +kernel
theorem dX6_makes_9 : decode cX6_makes 9 = .ok (.aload_n 0, 1) := by decide +kernel
theorem dX6_makes_10 : decode cX6_makes 10 = .ok (.getfield 7, 3) := by decide +kernel
theorem dX6_makes_13 : decode cX6_makes 13 = .ok (.iload_n 3, 1) := by decide +kernel
theorem dX6_makes_14 : decode cX6_makes 14 = .ok (.iconst 0, 1) := by decide +kernel
theorem dX6_makes_15 : decode cX6_makes 15 = .ok (.iastore, 1) := by decide +kernel
theorem dX6_makes_16 : decode cX6_makes 16 = .ok (.iinc 3 1, 3) := by decide +kernel
theorem dX6_makes_19 : decode cX6_makes 19 = .ok (.goto (-17), 3) := by decide +kernel
theorem dX6_makes_22 : decode cX6_makes 22 = .ok (.aload_n 0, 1) := by decide +kernel
theorem dX6_makes_23 : decode cX6_makes 23 = .ok (.getfield 7, 3) := by decide +kernel
theorem dX6_makes_26 : decode cX6_makes 26 = .ok (.iconst 0, 1) := by decide +kernel
theorem dX6_makes_27 : decode cX6_makes 27 = .ok (.iload_n 1, 1) := by decide +kernel
theorem dX6_makes_28 : decode cX6_makes 28 = .ok (.iastore, 1) := by decide +kernel
theorem dX6_makes_29 : decode cX6_makes 29 = .ok (.aload_n 0, 1) := by decide +kernel
theorem dX6_makes_30 : decode cX6_makes 30 = .ok (.getfield 7, 3) := by decide +kernel
theorem dX6_makes_33 : decode cX6_makes 33 = .ok (.iconst 1, 1) := by decide +kernel
theorem dX6_makes_34 : decode cX6_makes 34 = .ok (.iload_n 2, 1) := by decide +kernel
theorem dX6_makes_35 : decode cX6_makes 35 = .ok (.iastore, 1) := by decide +kernel
theorem dX6_makes_36 : decode cX6_makes 36 = .ok (.bipush 42, 2) := by decide +kernel
theorem dX6_makes_38 : decode cX6_makes 38 = .ok (.istore_n 3, 1) := by decide +kernel
theorem dX6_makes_39 : decode cX6_makes 39 = .ok (.iload_n 3, 1) := by decide +kernel
theorem dX6_makes_40 : decode cX6_makes 40 = .ok (.sipush 810, 3) := by decide +kernel
theorem dX6_makes_43 : decode cX6_makes 43 = .ok (.if_icmp .ge 18, 3) := by decide +kernel
theorem dX6_makes_46 : decode cX6_makes 46 = .ok (.aload_n 0, 1) := by decide +kernel
theorem dX6_makes_47 : decode cX6_makes 47 = .ok (.getfield 7, 3) := by decide +kernel
theorem dX6_makes_50 : decode cX6_makes 50 = .ok (.iload_n 3, 1) := by decide +kernel
theorem dX6_makes_51 : decode cX6_makes 51 = .ok (.sipush 255, 3) := by decide +kernel
theorem dX6_makes_54 : decode cX6_makes 54 = .ok (.iastore, 1) := by decide +kernel
theorem dX6_makes_55 : decode cX6_makes 55 = .ok (.iinc 3 1, 3) := by decide +kernel
theorem dX6_makes_58 : decode cX6_makes 58 = .ok (.goto (-19), 3) := by decide +kernel
theorem dX6_makes_61 : decode cX6_makes 61 = .ok (.return_, 1) := by decide +kernel
theorem dX6_chip_0 : decode cX6_chip 0 = .ok (.aload_n 0, 1) := by decide +kernel
theorem dX6_chip_1 : decode cX6_chip 1 = .ok (.iconst 0, 1) := by decide +kernel
theorem dX6_chip_2 : decode cX6_chip 2 = .ok (.putfield 35, 3) := by decide +kernel
theorem dX6_chip_5 : decode cX6_chip 5 = .ok (.iload_n 1, 1) := by decide +kernel
theorem dX6_chip_6 : decode cX6_chip 6 = .ok (.iconst 2, 1) := by decide +kernel
theorem dX6_chip_7 : decode cX6_chip 7 = .ok (.bipush 6, 2) := by decide +kernel
theorem dX6_chip_9 : decode cX6_chip 9 = .ok (.invokestatic 39, 3) := by decide +kernel
theorem dX6_chip_12 : decode cX6_chip 12 = .ok (.ifCond .eq 15, 3) := by decide +kernel
theorem dX6_chip_15 : decode cX6_chip 15 = .ok (.iload_n 2, 1) := by decide +kernel
theorem dX6_chip_16 : decode cX6_chip 16 = .ok (.bipush 32, 2) := by decide +kernel
theorem dX6_chip_18 : decode cX6_chip 18 = .ok (.sipush 128, 3) := by decide +kernel
theorem dX6_chip_21 : decode cX6_chip 21 = .ok (.invokestatic 39, 3) := by decide +kernel
theorem dX6_chip_24 : decode cX6_chip 24 = .ok (.ifCond .ne 5, 3) := by decide +kernel
theorem dX6_chip_27 : decode cX6_chip 27 = .ok (.iconst 0, 1) := by decide +kernel
theorem dX6_chip_28 : decode cX6_chip 28 = .ok (.ireturn, 1) := by decide +kernel
theorem dX6_chip_29 : decode cX6_chip 29 = .ok (.aload_n 0, 1) := by decide +kernel
theorem dX6_chip_30 : decode cX6_chip 30 = .ok (.iload_n 1, 1) := by decide +kernel
theorem dX6_chip_31 : decode cX6_chip 31 = .ok (.iload_n 2, 1) := by decide +kernel
theorem dX6_chip_32 : decode cX6_chip 32 = .ok (.invokevirtual 31, 3) := by decide +kernel
theorem dX6_chip_35 : decode cX6_chip 35 = .ok (.iconst 1, 1) := by decide +kernel
theorem dX6_chip_36 : decode cX6_chip 36 = .ok (.ireturn, 1) := by decide +kernel
theorem dX6_putsAside_0 : decode cX6_putsAside 0 = .ok (.iconst 0, 1) := by decide +kernel
theorem dX6_putsAside_1 : decode cX6_putsAside 1 = .ok (.istore_n 1, 1) := by decide +kernel
theorem dX6_putsAside_2 : decode cX6_putsAside 2 = .ok (.iload_n 1, 1) := by decide +kernel
theorem dX6_putsAside_3 : decode cX6_putsAside 3 = .ok (.sipush 810, 3) := by decide +kernel
theorem dX6_putsAside_6 : decode cX6_putsAside 6 = .ok (.if_icmp .ge 21, 3) := by decide +kernel
theorem dX6_putsAside_9 : decode cX6_putsAside 9 = .ok (.aload_n 0, 1) := by decide +kernel
theorem dX6_putsAside_10 : decode cX6_putsAside 10 = .ok (.getfield 13, 3) := by decide +kernel
theorem dX6_putsAside_13 : decode cX6_putsAside 13 = .ok (.iload_n 1, 1) := by decide +kernel
theorem dX6_putsAside_14 : decode cX6_putsAside 14 = .ok (.aload_n 0, 1) := by decide +kernel
theorem dX6_putsAside_15 : decode cX6_putsAside 15 = .ok (.getfield 7, 3) := by decide +kernel
theorem dX6_putsAside_18 : decode cX6_putsAside 18 = .ok (.iload_n 1, 1) := by decide +kernel
theorem dX6_putsAside_19 : decode cX6_putsAside 19 = .ok (.iaload, 1) := by decide +kernel
theorem dX6_putsAside_20 : decode cX6_putsAside 20 = .ok (.iastore, 1) := by decide +kernel
theorem dX6_putsAside_21 : decode cX6_putsAside 21 = .ok (.iinc 1 1, 3) := by decide +kernel
theorem dX6_putsAside_24 : decode cX6_putsAside 24 = .ok (.goto (-22), 3) := by decide +kernel
theorem dX6_putsAside_27 : decode cX6_putsAside 27 = .ok (.return_, 1) := by decide +kernel
theorem dX6_putsBack_0 : decode cX6_putsBack 0 = .ok (.iconst 0, 1) := by decide +kernel
theorem dX6_putsBack_1 : decode cX6_putsBack 1 = .ok (.istore_n 1, 1) := by decide +kernel
theorem dX6_putsBack_2 : decode cX6_putsBack 2 = .ok (.iload_n 1, 1) := by decide +kernel
theorem dX6_putsBack_3 : decode cX6_putsBack 3 = .ok (.sipush 810, 3) := by decide +kernel
theorem dX6_putsBack_6 : decode cX6_putsBack 6 = .ok (.if_icmp .ge 21, 3) := by decide +kernel
theorem dX6_putsBack_9 : decode cX6_putsBack 9 = .ok (.aload_n 0, 1) := by decide +kernel
theorem dX6_putsBack_10 : decode cX6_putsBack 10 = .ok (.getfield 7, 3) := by decide +kernel
theorem dX6_putsBack_13 : decode cX6_putsBack 13 = .ok (.iload_n 1, 1) := by decide +kernel
theorem dX6_putsBack_14 : decode cX6_putsBack 14 = .ok (.aload_n 0, 1) := by decide +kernel
theorem dX6_putsBack_15 : decode cX6_putsBack 15 = .ok (.getfield 13, 3) := by decide +kernel
theorem dX6_putsBack_18 : decode cX6_putsBack 18 = .ok (.iload_n 1, 1) := by decide +kernel
theorem dX6_putsBack_19 : decode cX6_putsBack 19 = .ok (.iaload, 1) := by decide +kernel
theorem dX6_putsBack_20 : decode cX6_putsBack 20 = .ok (.iastore, 1) := by decide +kernel
theorem dX6_putsBack_21 : decode cX6_putsBack 21 = .ok (.iinc 1 1, 3) := by decide +kernel
theorem dX6_putsBack_24 : decode cX6_putsBack 24 = .ok (.goto (-22), 3) := by decide +kernel
theorem dX6_putsBack_27 : decode cX6_putsBack 27 = .ok (.return_, 1) := by decide +kernel
theorem dX6_goes_0 : decode cX6_goes 0 = .ok (.aload_n 0, 1) := by decide +kernel
theorem dX6_goes_1 : decode cX6_goes 1 = .ok (.getfield 7, 3) := by decide +kernel
theorem dX6_goes_4 : decode cX6_goes 4 = .ok (.bipush 8, 2) := by decide +kernel
theorem dX6_goes_6 : decode cX6_goes 6 = .ok (.dup2, 1) := by decide +kernel
theorem dX6_goes_7 : decode cX6_goes 7 = .ok (.iaload, 1) := by decide +kernel
theorem dX6_goes_8 : decode cX6_goes 8 = .ok (.iconst 1, 1) := by decide +kernel
theorem dX6_goes_9 : decode cX6_goes 9 = .ok (.iadd, 1) := by decide +kernel
theorem dX6_goes_10 : decode cX6_goes 10 = .ok (.iastore, 1) := by decide +kernel
theorem dX6_goes_11 : decode cX6_goes 11 = .ok (.aload_n 0, 1) := by decide +kernel
theorem dX6_goes_12 : decode cX6_goes 12 = .ok (.getfield 7, 3) := by decide +kernel
theorem dX6_goes_15 : decode cX6_goes 15 = .ok (.iconst 4, 1) := by decide +kernel
theorem dX6_goes_16 : decode cX6_goes 16 = .ok (.iaload, 1) := by decide +kernel
theorem dX6_goes_17 : decode cX6_goes 17 = .ok (.ifCond .ne 5, 3) := by decide +kernel
theorem dX6_goes_20 : decode cX6_goes 20 = .ok (.iconst 0, 1) := by decide +kernel
theorem dX6_goes_21 : decode cX6_goes 21 = .ok (.ireturn, 1) := by decide +kernel
theorem dX6_goes_22 : decode cX6_goes 22 = .ok (.aload_n 0, 1) := by decide +kernel
theorem dX6_goes_23 : decode cX6_goes 23 = .ok (.getfield 7, 3) := by decide +kernel
theorem dX6_goes_26 : decode cX6_goes 26 = .ok (.iconst 4, 1) := by decide +kernel
theorem dX6_goes_27 : decode cX6_goes 27 = .ok (.dup2, 1) := by decide +kernel
theorem dX6_goes_28 : decode cX6_goes 28 = .ok (.iaload, 1) := by decide +kernel
theorem dX6_goes_29 : decode cX6_goes 29 = .ok (.iconst 1, 1) := by decide +kernel
theorem dX6_goes_30 : decode cX6_goes 30 = .ok (.isub, 1) := by decide +kernel
theorem dX6_goes_31 : decode cX6_goes 31 = .ok (.iastore, 1) := by decide +kernel
theorem dX6_goes_32 : decode cX6_goes 32 = .ok (.aload_n 0, 1) := by decide +kernel
theorem dX6_goes_33 : decode cX6_goes 33 = .ok (.getfield 7, 3) := by decide +kernel
theorem dX6_goes_36 : decode cX6_goes 36 = .ok (.iconst 4, 1) := by decide +kernel
theorem dX6_goes_37 : decode cX6_goes 37 = .ok (.iaload, 1) := by decide +kernel
theorem dX6_goes_38 : decode cX6_goes 38 = .ok (.ifCond .le 5, 3) := by decide +kernel
theorem dX6_goes_41 : decode cX6_goes 41 = .ok (.iconst 0, 1) := by decide +kernel
theorem dX6_goes_42 : decode cX6_goes 42 = .ok (.ireturn, 1) := by decide +kernel
theorem dX6_goes_43 : decode cX6_goes 43 = .ok (.aload_n 0, 1) := by decide +kernel
theorem dX6_goes_44 : decode cX6_goes 44 = .ok (.getfield 7, 3) := by decide +kernel
theorem dX6_goes_47 : decode cX6_goes 47 = .ok (.bipush 6, 2) := by decide +kernel
theorem dX6_goes_49 : decode cX6_goes 49 = .ok (.dup2, 1) := by decide +kernel
theorem dX6_goes_50 : decode cX6_goes 50 = .ok (.iaload, 1) := by decide +kernel
theorem dX6_goes_51 : decode cX6_goes 51 = .ok (.iconst 1, 1) := by decide +kernel
theorem dX6_goes_52 : decode cX6_goes 52 = .ok (.iadd, 1) := by decide +kernel
theorem dX6_goes_53 : decode cX6_goes 53 = .ok (.iastore, 1) := by decide +kernel
theorem dX6_goes_54 : decode cX6_goes 54 = .ok (.aload_n 0, 1) := by decide +kernel
theorem dX6_goes_55 : decode cX6_goes 55 = .ok (.getfield 7, 3) := by decide +kernel
theorem dX6_goes_58 : decode cX6_goes 58 = .ok (.iconst 2, 1) := by decide +kernel
theorem dX6_goes_59 : decode cX6_goes 59 = .ok (.iconst 0, 1) := by decide +kernel
theorem dX6_goes_60 : decode cX6_goes 60 = .ok (.iastore, 1) := by decide +kernel
theorem dX6_goes_61 : decode cX6_goes 61 = .ok (.aload_n 0, 1) := by decide +kernel
theorem dX6_goes_62 : decode cX6_goes 62 = .ok (.getfield 7, 3) := by decide +kernel
theorem dX6_goes_65 : decode cX6_goes 65 = .ok (.bipush 10, 2) := by decide +kernel
theorem dX6_goes_67 : decode cX6_goes 67 = .ok (.iconst 0, 1) := by decide +kernel
theorem dX6_goes_68 : decode cX6_goes 68 = .ok (.iastore, 1) := by decide +kernel
theorem dX6_goes_69 : decode cX6_goes 69 = .ok (.aload_n 0, 1) := by decide +kernel
theorem dX6_goes_70 : decode cX6_goes 70 = .ok (.iconst 1, 1) := by decide +kernel
theorem dX6_goes_71 : decode cX6_goes 71 = .ok (.putfield 43, 3) := by decide +kernel
theorem dX6_goes_74 : decode cX6_goes 74 = .ok (.iconst 1, 1) := by decide +kernel
theorem dX6_goes_75 : decode cX6_goes 75 = .ok (.ireturn, 1) := by decide +kernel
theorem dX6_writes_0 : decode cX6_writes 0 = .ok (.aload_n 0, 1) := by decide +kernel
theorem dX6_writes_1 : decode cX6_writes 1 = .ok (.getfield 43, 3) := by decide +kernel
theorem dX6_writes_4 : decode cX6_writes 4 = .ok (.ifCond .eq 4, 3) := by decide +kernel
theorem dX6_writes_7 : decode cX6_writes 7 = .ok (.return_, 1) := by decide +kernel
theorem dX6_writes_8 : decode cX6_writes 8 = .ok (.aload_n 0, 1) := by decide +kernel
theorem dX6_writes_9 : decode cX6_writes 9 = .ok (.getfield 7, 3) := by decide +kernel
theorem dX6_writes_12 : decode cX6_writes 12 = .ok (.bipush 9, 2) := by decide +kernel
theorem dX6_writes_14 : decode cX6_writes 14 = .ok (.dup2, 1) := by decide +kernel
theorem dX6_writes_15 : decode cX6_writes 15 = .ok (.iaload, 1) := by decide +kernel
theorem dX6_writes_16 : decode cX6_writes 16 = .ok (.iconst 1, 1) := by decide +kernel
theorem dX6_writes_17 : decode cX6_writes 17 = .ok (.iadd, 1) := by decide +kernel
theorem dX6_writes_18 : decode cX6_writes 18 = .ok (.iastore, 1) := by decide +kernel
theorem dX6_writes_19 : decode cX6_writes 19 = .ok (.aload_n 0, 1) := by decide +kernel
theorem dX6_writes_20 : decode cX6_writes 20 = .ok (.invokevirtual 47, 3) := by decide +kernel
theorem dX6_writes_23 : decode cX6_writes 23 = .ok (.ifCond .eq 20, 3) := by decide +kernel
theorem dX6_writes_26 : decode cX6_writes 26 = .ok (.iload_n 3, 1) := by decide +kernel
theorem dX6_writes_27 : decode cX6_writes 27 = .ok (.sipush 255, 3) := by decide +kernel
theorem dX6_writes_30 : decode cX6_writes 30 = .ok (.aload_n 0, 1) := by decide +kernel
theorem dX6_writes_31 : decode cX6_writes 31 = .ok (.getfield 7, 3) := by decide +kernel
theorem dX6_writes_34 : decode cX6_writes 34 = .ok (.iconst 5, 1) := by decide +kernel
theorem dX6_writes_35 : decode cX6_writes 35 = .ok (.iaload, 1) := by decide +kernel
theorem dX6_writes_36 : decode cX6_writes 36 = .ok (.iconst (-1), 1) := by decide +kernel
theorem dX6_writes_37 : decode cX6_writes 37 = .ok (.ixor, 1) := by decide +kernel
theorem dX6_writes_38 : decode cX6_writes 38 = .ok (.iand, 1) := by decide +kernel
theorem dX6_writes_39 : decode cX6_writes 39 = .ok (.ior, 1) := by decide +kernel
theorem dX6_writes_40 : decode cX6_writes 40 = .ok (.goto 4, 3) := by decide +kernel
theorem dX6_writes_43 : decode cX6_writes 43 = .ok (.iload_n 3, 1) := by decide +kernel
theorem dX6_writes_44 : decode cX6_writes 44 = .ok (.istore 4, 2) := by decide +kernel
theorem dX6_writes_46 : decode cX6_writes 46 = .ok (.aload_n 0, 1) := by decide +kernel
theorem dX6_writes_47 : decode cX6_writes 47 = .ok (.getfield 7, 3) := by decide +kernel
theorem dX6_writes_50 : decode cX6_writes 50 = .ok (.bipush 42, 2) := by decide +kernel
theorem dX6_writes_52 : decode cX6_writes 52 = .ok (.sipush 128, 3) := by decide +kernel
theorem dX6_writes_55 : decode cX6_writes 55 = .ok (.iload_n 1, 1) := by decide +kernel
theorem dX6_writes_56 : decode cX6_writes 56 = .ok (.imul, 1) := by decide +kernel
theorem dX6_writes_57 : decode cX6_writes 57 = .ok (.iadd, 1) := by decide +kernel
theorem dX6_writes_58 : decode cX6_writes 58 = .ok (.iload_n 2, 1) := by decide +kernel
theorem dX6_writes_59 : decode cX6_writes 59 = .ok (.iadd, 1) := by decide +kernel
theorem dX6_writes_60 : decode cX6_writes 60 = .ok (.dup2, 1) := by decide +kernel
theorem dX6_writes_61 : decode cX6_writes 61 = .ok (.iaload, 1) := by decide +kernel
theorem dX6_writes_62 : decode cX6_writes 62 = .ok (.iload 4, 2) := by decide +kernel
theorem dX6_writes_64 : decode cX6_writes 64 = .ok (.iand, 1) := by decide +kernel
theorem dX6_writes_65 : decode cX6_writes 65 = .ok (.iastore, 1) := by decide +kernel
theorem dX6_writes_66 : decode cX6_writes 66 = .ok (.return_, 1) := by decide +kernel
theorem dX6_erases_0 : decode cX6_erases 0 = .ok (.aload_n 0, 1) := by decide +kernel
theorem dX6_erases_1 : decode cX6_erases 1 = .ok (.getfield 43, 3) := by decide +kernel
theorem dX6_erases_4 : decode cX6_erases 4 = .ok (.ifCond .eq 4, 3) := by decide +kernel
theorem dX6_erases_7 : decode cX6_erases 7 = .ok (.return_, 1) := by decide +kernel
theorem dX6_erases_8 : decode cX6_erases 8 = .ok (.aload_n 0, 1) := by decide +kernel
theorem dX6_erases_9 : decode cX6_erases 9 = .ok (.getfield 7, 3) := by decide +kernel
theorem dX6_erases_12 : decode cX6_erases 12 = .ok (.bipush 36, 2) := by decide +kernel
theorem dX6_erases_14 : decode cX6_erases 14 = .ok (.iload_n 1, 1) := by decide +kernel
theorem dX6_erases_15 : decode cX6_erases 15 = .ok (.iadd, 1) := by decide +kernel
theorem dX6_erases_16 : decode cX6_erases 16 = .ok (.dup2, 1) := by decide +kernel
theorem dX6_erases_17 : decode cX6_erases 17 = .ok (.iaload, 1) := by decide +kernel
theorem dX6_erases_18 : decode cX6_erases 18 = .ok (.iconst 1, 1) := by decide +kernel
theorem dX6_erases_19 : decode cX6_erases 19 = .ok (.iadd, 1) := by decide +kernel
theorem dX6_erases_20 : decode cX6_erases 20 = .ok (.iastore, 1) := by decide +kernel
theorem dX6_erases_21 : decode cX6_erases 21 = .ok (.aload_n 0, 1) := by decide +kernel
theorem dX6_erases_22 : decode cX6_erases 22 = .ok (.invokevirtual 47, 3) := by decide +kernel
theorem dX6_erases_25 : decode cX6_erases 25 = .ok (.ifCond .eq 14, 3) := by decide +kernel
theorem dX6_erases_28 : decode cX6_erases 28 = .ok (.aload_n 0, 1) := by decide +kernel
theorem dX6_erases_29 : decode cX6_erases 29 = .ok (.getfield 7, 3) := by decide +kernel
theorem dX6_erases_32 : decode cX6_erases 32 = .ok (.iconst 1, 1) := by decide +kernel
theorem dX6_erases_33 : decode cX6_erases 33 = .ok (.iaload, 1) := by decide +kernel
theorem dX6_erases_34 : decode cX6_erases 34 = .ok (.iconst 2, 1) := by decide +kernel
theorem dX6_erases_35 : decode cX6_erases 35 = .ok (.idiv, 1) := by decide +kernel
theorem dX6_erases_36 : decode cX6_erases 36 = .ok (.goto 9, 3) := by decide +kernel
theorem dX6_erases_39 : decode cX6_erases 39 = .ok (.aload_n 0, 1) := by decide +kernel
theorem dX6_erases_40 : decode cX6_erases 40 = .ok (.getfield 7, 3) := by decide +kernel
theorem dX6_erases_43 : decode cX6_erases 43 = .ok (.iconst 1, 1) := by decide +kernel
theorem dX6_erases_44 : decode cX6_erases 44 = .ok (.iaload, 1) := by decide +kernel
theorem dX6_erases_45 : decode cX6_erases 45 = .ok (.istore_n 2, 1) := by decide +kernel
theorem dX6_erases_46 : decode cX6_erases 46 = .ok (.iconst 0, 1) := by decide +kernel
theorem dX6_erases_47 : decode cX6_erases 47 = .ok (.istore_n 3, 1) := by decide +kernel
theorem dX6_erases_48 : decode cX6_erases 48 = .ok (.iload_n 3, 1) := by decide +kernel
theorem dX6_erases_49 : decode cX6_erases 49 = .ok (.iload_n 2, 1) := by decide +kernel
theorem dX6_erases_50 : decode cX6_erases 50 = .ok (.if_icmp .ge 27, 3) := by decide +kernel
theorem dX6_erases_53 : decode cX6_erases 53 = .ok (.aload_n 0, 1) := by decide +kernel
theorem dX6_erases_54 : decode cX6_erases 54 = .ok (.getfield 7, 3) := by decide +kernel
theorem dX6_erases_57 : decode cX6_erases 57 = .ok (.bipush 42, 2) := by decide +kernel
theorem dX6_erases_59 : decode cX6_erases 59 = .ok (.sipush 128, 3) := by decide +kernel
theorem dX6_erases_62 : decode cX6_erases 62 = .ok (.iload_n 1, 1) := by decide +kernel
theorem dX6_erases_63 : decode cX6_erases 63 = .ok (.imul, 1) := by decide +kernel
theorem dX6_erases_64 : decode cX6_erases 64 = .ok (.iadd, 1) := by decide +kernel
theorem dX6_erases_65 : decode cX6_erases 65 = .ok (.iload_n 3, 1) := by decide +kernel
theorem dX6_erases_66 : decode cX6_erases 66 = .ok (.iadd, 1) := by decide +kernel
theorem dX6_erases_67 : decode cX6_erases 67 = .ok (.sipush 255, 3) := by decide +kernel
theorem dX6_erases_70 : decode cX6_erases 70 = .ok (.iastore, 1) := by decide +kernel
theorem dX6_erases_71 : decode cX6_erases 71 = .ok (.iinc 3 1, 3) := by decide +kernel
theorem dX6_erases_74 : decode cX6_erases 74 = .ok (.goto (-26), 3) := by decide +kernel
theorem dX6_erases_77 : decode cX6_erases 77 = .ok (.return_, 1) := by decide +kernel
theorem dX6_begins_0 : decode cX6_begins 0 = .ok (.aload_n 0, 1) := by decide +kernel
theorem dX6_begins_1 : decode cX6_begins 1 = .ok (.iconst 0, 1) := by decide +kernel
theorem dX6_begins_2 : decode cX6_begins 2 = .ok (.putfield 43, 3) := by decide +kernel
theorem dX6_begins_5 : decode cX6_begins 5 = .ok (.aload_n 0, 1) := by decide +kernel
theorem dX6_begins_6 : decode cX6_begins 6 = .ok (.getfield 7, 3) := by decide +kernel
theorem dX6_begins_9 : decode cX6_begins 9 = .ok (.bipush 8, 2) := by decide +kernel
theorem dX6_begins_11 : decode cX6_begins 11 = .ok (.iconst 0, 1) := by decide +kernel
theorem dX6_begins_12 : decode cX6_begins 12 = .ok (.iastore, 1) := by decide +kernel
theorem dX6_begins_13 : decode cX6_begins 13 = .ok (.return_, 1) := by decide +kernel
theorem dX6_told_0 : decode cX6_told 0 = .ok (.aload_n 0, 1) := by decide +kernel
theorem dX6_told_1 : decode cX6_told 1 = .ok (.getfield 43, 3) := by decide +kernel
theorem dX6_told_4 : decode cX6_told 4 = .ok (.ifCond .eq 8, 3) := by decide +kernel
theorem dX6_told_7 : decode cX6_told 7 = .ok (.bipush (-3), 2) := by decide +kernel
theorem dX6_told_9 : decode cX6_told 9 = .ok (.goto 10, 3) := by decide +kernel
theorem dX6_told_12 : decode cX6_told 12 = .ok (.aload_n 0, 1) := by decide +kernel
theorem dX6_told_13 : decode cX6_told 13 = .ok (.getfield 7, 3) := by decide +kernel
theorem dX6_told_16 : decode cX6_told 16 = .ok (.bipush 8, 2) := by decide +kernel
theorem dX6_told_18 : decode cX6_told 18 = .ok (.iaload, 1) := by decide +kernel
theorem dX6_told_19 : decode cX6_told 19 = .ok (.ireturn, 1) := by decide +kernel
theorem dX6_isBlank_0 : decode cX6_isBlank 0 = .ok (.iload_n 2, 1) := by decide +kernel
theorem dX6_isBlank_1 : decode cX6_isBlank 1 = .ok (.istore_n 3, 1) := by decide +kernel
theorem dX6_isBlank_2 : decode cX6_isBlank 2 = .ok (.iload_n 3, 1) := by decide +kernel
theorem dX6_isBlank_3 : decode cX6_isBlank 3 = .ok (.aload_n 0, 1) := by decide +kernel
theorem dX6_isBlank_4 : decode cX6_isBlank 4 = .ok (.getfield 7, 3) := by decide +kernel
theorem dX6_isBlank_7 : decode cX6_isBlank 7 = .ok (.iconst 1, 1) := by decide +kernel
theorem dX6_isBlank_8 : decode cX6_isBlank 8 = .ok (.iaload, 1) := by decide +kernel
theorem dX6_isBlank_9 : decode cX6_isBlank 9 = .ok (.if_icmp .ge 23, 3) := by decide +kernel
theorem dX6_isBlank_12 : decode cX6_isBlank 12 = .ok (.aload_n 0, 1) := by decide +kernel
theorem dX6_isBlank_13 : decode cX6_isBlank 13 = .ok (.iload_n 1, 1) := by decide +kernel
theorem dX6_isBlank_14 : decode cX6_isBlank 14 = .ok (.iload_n 3, 1) := by decide +kernel
theorem dX6_isBlank_15 : decode cX6_isBlank 15 = .ok (.invokevirtual 51, 3) := by decide +kernel
theorem dX6_isBlank_18 : decode cX6_isBlank 18 = .ok (.sipush 255, 3) := by decide +kernel
theorem dX6_isBlank_21 : decode cX6_isBlank 21 = .ok (.if_icmp .eq 5, 3) := by decide +kernel
theorem dX6_isBlank_24 : decode cX6_isBlank 24 = .ok (.iconst 0, 1) := by decide +kernel
theorem dX6_isBlank_25 : decode cX6_isBlank 25 = .ok (.ireturn, 1) := by decide +kernel
theorem dX6_isBlank_26 : decode cX6_isBlank 26 = .ok (.iinc 3 1, 3) := by decide +kernel
theorem dX6_isBlank_29 : decode cX6_isBlank 29 = .ok (.goto (-27), 3) := by decide +kernel
theorem dX6_isBlank_32 : decode cX6_isBlank 32 = .ok (.iconst 1, 1) := by decide +kernel
theorem dX6_isBlank_33 : decode cX6_isBlank 33 = .ok (.ireturn, 1) := by decide +kernel
theorem dX6_check_0 : decode cX6_check 0 = .ok (.iload_n 0, 1) := by decide +kernel
theorem dX6_check_1 : decode cX6_check 1 = .ok (.bipush 85, 2) := by decide +kernel
theorem dX6_check_3 : decode cX6_check 3 = .ok (.iadd, 1) := by decide +kernel
theorem dX6_check_4 : decode cX6_check 4 = .ok (.sipush 251, 3) := by decide +kernel
theorem dX6_check_7 : decode cX6_check 7 = .ok (.irem, 1) := by decide +kernel
theorem dX6_check_8 : decode cX6_check 8 = .ok (.ireturn, 1) := by decide +kernel
theorem dX6_sumOf_0 : decode cX6_sumOf 0 = .ok (.iconst 0, 1) := by decide +kernel
theorem dX6_sumOf_1 : decode cX6_sumOf 1 = .ok (.istore 4, 2) := by decide +kernel
theorem dX6_sumOf_3 : decode cX6_sumOf 3 = .ok (.iload_n 2, 1) := by decide +kernel
theorem dX6_sumOf_4 : decode cX6_sumOf 4 = .ok (.istore 5, 2) := by decide +kernel
theorem dX6_sumOf_6 : decode cX6_sumOf 6 = .ok (.iload 5, 2) := by decide +kernel
theorem dX6_sumOf_8 : decode cX6_sumOf 8 = .ok (.iload_n 2, 1) := by decide +kernel
theorem dX6_sumOf_9 : decode cX6_sumOf 9 = .ok (.iload_n 3, 1) := by decide +kernel
theorem dX6_sumOf_10 : decode cX6_sumOf 10 = .ok (.iadd, 1) := by decide +kernel
theorem dX6_sumOf_11 : decode cX6_sumOf 11 = .ok (.if_icmp .ge 21, 3) := by decide +kernel
theorem dX6_sumOf_14 : decode cX6_sumOf 14 = .ok (.iload 4, 2) := by decide +kernel
theorem dX6_sumOf_16 : decode cX6_sumOf 16 = .ok (.aload_n 0, 1) := by decide +kernel
theorem dX6_sumOf_17 : decode cX6_sumOf 17 = .ok (.iload_n 1, 1) := by decide +kernel
theorem dX6_sumOf_18 : decode cX6_sumOf 18 = .ok (.iload 5, 2) := by decide +kernel
theorem dX6_sumOf_20 : decode cX6_sumOf 20 = .ok (.invokevirtual 51, 3) := by decide +kernel
theorem dX6_sumOf_23 : decode cX6_sumOf 23 = .ok (.iadd, 1) := by decide +kernel
theorem dX6_sumOf_24 : decode cX6_sumOf 24 = .ok (.istore 4, 2) := by decide +kernel
theorem dX6_sumOf_26 : decode cX6_sumOf 26 = .ok (.iinc 5 1, 3) := by decide +kernel
theorem dX6_sumOf_29 : decode cX6_sumOf 29 = .ok (.goto (-23), 3) := by decide +kernel
theorem dX6_sumOf_32 : decode cX6_sumOf 32 = .ok (.iload 4, 2) := by decide +kernel
theorem dX6_sumOf_34 : decode cX6_sumOf 34 = .ok (.ireturn, 1) := by decide +kernel
theorem dX6_sortAt_0 : decode cX6_sortAt 0 = .ok (.aload_n 0, 1) := by decide +kernel
theorem dX6_sortAt_1 : decode cX6_sortAt 1 = .ok (.iload_n 1, 1) := by decide +kernel
theorem dX6_sortAt_2 : decode cX6_sortAt 2 = .ok (.iload_n 2, 1) := by decide +kernel
theorem dX6_sortAt_3 : decode cX6_sortAt 3 = .ok (.invokevirtual 51, 3) := by decide +kernel
theorem dX6_sortAt_6 : decode cX6_sortAt 6 = .ok (.istore_n 3, 1) := by decide +kernel
theorem dX6_sortAt_7 : decode cX6_sortAt 7 = .ok (.aload_n 0, 1) := by decide +kernel
theorem dX6_sortAt_8 : decode cX6_sortAt 8 = .ok (.iload_n 1, 1) := by decide +kernel
theorem dX6_sortAt_9 : decode cX6_sortAt 9 = .ok (.iload_n 2, 1) := by decide +kernel
theorem dX6_sortAt_10 : decode cX6_sortAt 10 = .ok (.iconst 1, 1) := by decide +kernel
theorem dX6_sortAt_11 : decode cX6_sortAt 11 = .ok (.iadd, 1) := by decide +kernel
theorem dX6_sortAt_12 : decode cX6_sortAt 12 = .ok (.invokevirtual 51, 3) := by decide +kernel
theorem dX6_sortAt_15 : decode cX6_sortAt 15 = .ok (.istore 4, 2) := by decide +kernel
theorem dX6_sortAt_17 : decode cX6_sortAt 17 = .ok (.iload_n 3, 1) := by decide +kernel
theorem dX6_sortAt_18 : decode cX6_sortAt 18 = .ok (.bipush 32, 2) := by decide +kernel
theorem dX6_sortAt_20 : decode cX6_sortAt 20 = .ok (.if_icmp .ge 17, 3) := by decide +kernel
theorem dX6_sortAt_23 : decode cX6_sortAt 23 = .ok (.iload 4, 2) := by decide +kernel
theorem dX6_sortAt_25 : decode cX6_sortAt 25 = .ok (.bipush 16, 2) := by decide +kernel
theorem dX6_sortAt_27 : decode cX6_sortAt 27 = .ok (.bipush 20, 2) := by decide +kernel
theorem dX6_sortAt_29 : decode cX6_sortAt 29 = .ok (.invokestatic 39, 3) := by decide +kernel
theorem dX6_sortAt_32 : decode cX6_sortAt 32 = .ok (.ifCond .eq 5, 3) := by decide +kernel
theorem dX6_sortAt_35 : decode cX6_sortAt 35 = .ok (.iconst 0, 1) := by decide +kernel
theorem dX6_sortAt_36 : decode cX6_sortAt 36 = .ok (.ireturn, 1) := by decide +kernel
theorem dX6_sortAt_37 : decode cX6_sortAt 37 = .ok (.iload_n 3, 1) := by decide +kernel
theorem dX6_sortAt_38 : decode cX6_sortAt 38 = .ok (.bipush 32, 2) := by decide +kernel
theorem dX6_sortAt_40 : decode cX6_sortAt 40 = .ok (.if_icmp .ge 17, 3) := by decide +kernel
theorem dX6_sortAt_43 : decode cX6_sortAt 43 = .ok (.iload 4, 2) := by decide +kernel
theorem dX6_sortAt_45 : decode cX6_sortAt 45 = .ok (.bipush 48, 2) := by decide +kernel
theorem dX6_sortAt_47 : decode cX6_sortAt 47 = .ok (.bipush 52, 2) := by decide +kernel
theorem dX6_sortAt_49 : decode cX6_sortAt 49 = .ok (.invokestatic 39, 3) := by decide +kernel
theorem dX6_sortAt_52 : decode cX6_sortAt 52 = .ok (.ifCond .eq 5, 3) := by decide +kernel
theorem dX6_sortAt_55 : decode cX6_sortAt 55 = .ok (.iconst 2, 1) := by decide +kernel
theorem dX6_sortAt_56 : decode cX6_sortAt 56 = .ok (.ireturn, 1) := by decide +kernel
theorem dX6_sortAt_57 : decode cX6_sortAt 57 = .ok (.iload_n 3, 1) := by decide +kernel
theorem dX6_sortAt_58 : decode cX6_sortAt 58 = .ok (.bipush 32, 2) := by decide +kernel
theorem dX6_sortAt_60 : decode cX6_sortAt 60 = .ok (.bipush 47, 2) := by decide +kernel
theorem dX6_sortAt_62 : decode cX6_sortAt 62 = .ok (.invokestatic 39, 3) := by decide +kernel
theorem dX6_sortAt_65 : decode cX6_sortAt 65 = .ok (.ifCond .eq 12, 3) := by decide +kernel
theorem dX6_sortAt_68 : decode cX6_sortAt 68 = .ok (.iload 4, 2) := by decide +kernel
theorem dX6_sortAt_70 : decode cX6_sortAt 70 = .ok (.bipush 43, 2) := by decide +kernel
theorem dX6_sortAt_72 : decode cX6_sortAt 72 = .ok (.if_icmp .ne 5, 3) := by decide +kernel
theorem dX6_sortAt_75 : decode cX6_sortAt 75 = .ok (.iconst 1, 1) := by decide +kernel
theorem dX6_sortAt_76 : decode cX6_sortAt 76 = .ok (.ireturn, 1) := by decide +kernel
theorem dX6_sortAt_77 : decode cX6_sortAt 77 = .ok (.iload_n 3, 1) := by decide +kernel
theorem dX6_sortAt_78 : decode cX6_sortAt 78 = .ok (.bipush 63, 2) := by decide +kernel
theorem dX6_sortAt_80 : decode cX6_sortAt 80 = .ok (.if_icmp .ne 14, 3) := by decide +kernel
theorem dX6_sortAt_83 : decode cX6_sortAt 83 = .ok (.iload 4, 2) := by decide +kernel
theorem dX6_sortAt_85 : decode cX6_sortAt 85 = .ok (.bipush 65, 2) := by decide +kernel
theorem dX6_sortAt_87 : decode cX6_sortAt 87 = .ok (.if_icmp .ne 7, 3) := by decide +kernel
theorem dX6_sortAt_90 : decode cX6_sortAt 90 = .ok (.iconst 3, 1) := by decide +kernel
theorem dX6_sortAt_91 : decode cX6_sortAt 91 = .ok (.goto 4, 3) := by decide +kernel
theorem dX6_sortAt_94 : decode cX6_sortAt 94 = .ok (.iconst (-1), 1) := by decide +kernel
theorem dX6_sortAt_95 : decode cX6_sortAt 95 = .ok (.ireturn, 1) := by decide +kernel
theorem dX6_sizeBy_0 : decode cX6_sizeBy 0 = .ok (.iload_n 1, 1) := by decide +kernel
theorem dX6_sizeBy_1 : decode cX6_sizeBy 1 = .ok (.iconst 1, 1) := by decide +kernel
theorem dX6_sizeBy_2 : decode cX6_sizeBy 2 = .ok (.if_icmp .ne 8, 3) := by decide +kernel
theorem dX6_sizeBy_5 : decode cX6_sizeBy 5 = .ok (.bipush 14, 2) := by decide +kernel
theorem dX6_sizeBy_7 : decode cX6_sizeBy 7 = .ok (.goto 18, 3) := by decide +kernel
theorem dX6_sizeBy_10 : decode cX6_sizeBy 10 = .ok (.iload_n 1, 1) := by decide +kernel
theorem dX6_sizeBy_11 : decode cX6_sizeBy 11 = .ok (.iconst 3, 1) := by decide +kernel
theorem dX6_sizeBy_12 : decode cX6_sizeBy 12 = .ok (.if_icmp .ne 7, 3) := by decide +kernel
theorem dX6_sizeBy_15 : decode cX6_sizeBy 15 = .ok (.iconst 4, 1) := by decide +kernel
theorem dX6_sizeBy_16 : decode cX6_sizeBy 16 = .ok (.goto 9, 3) := by decide +kernel
theorem dX6_sizeBy_19 : decode cX6_sizeBy 19 = .ok (.iconst 3, 1) := by decide +kernel
theorem dX6_sizeBy_20 : decode cX6_sizeBy 20 = .ok (.iload_n 2, 1) := by decide +kernel
theorem dX6_sizeBy_21 : decode cX6_sizeBy 21 = .ok (.bipush 16, 2) := by decide +kernel
theorem dX6_sizeBy_23 : decode cX6_sizeBy 23 = .ok (.irem, 1) := by decide +kernel
theorem dX6_sizeBy_24 : decode cX6_sizeBy 24 = .ok (.iadd, 1) := by decide +kernel
theorem dX6_sizeBy_25 : decode cX6_sizeBy 25 = .ok (.ireturn, 1) := by decide +kernel
theorem dX6_checked_0 : decode cX6_checked 0 = .ok (.aload_n 0, 1) := by decide +kernel
theorem dX6_checked_1 : decode cX6_checked 1 = .ok (.getfield 19, 3) := by decide +kernel
theorem dX6_checked_4 : decode cX6_checked 4 = .ok (.iload_n 1, 1) := by decide +kernel
theorem dX6_checked_5 : decode cX6_checked 5 = .ok (.iaload, 1) := by decide +kernel
theorem dX6_checked_6 : decode cX6_checked 6 = .ok (.iconst 1, 1) := by decide +kernel
theorem dX6_checked_7 : decode cX6_checked 7 = .ok (.if_icmp .ne 7, 3) := by decide +kernel
theorem dX6_checked_10 : decode cX6_checked 10 = .ok (.iconst 5, 1) := by decide +kernel
theorem dX6_checked_11 : decode cX6_checked 11 = .ok (.goto 11, 3) := by decide +kernel
theorem dX6_checked_14 : decode cX6_checked 14 = .ok (.aload_n 0, 1) := by decide +kernel
theorem dX6_checked_15 : decode cX6_checked 15 = .ok (.getfield 22, 3) := by decide +kernel
theorem dX6_checked_18 : decode cX6_checked 18 = .ok (.iload_n 1, 1) := by decide +kernel
theorem dX6_checked_19 : decode cX6_checked 19 = .ok (.iaload, 1) := by decide +kernel
theorem dX6_checked_20 : decode cX6_checked 20 = .ok (.iconst 1, 1) := by decide +kernel
theorem dX6_checked_21 : decode cX6_checked 21 = .ok (.isub, 1) := by decide +kernel
theorem dX6_checked_22 : decode cX6_checked 22 = .ok (.ireturn, 1) := by decide +kernel
theorem dX6_reads_0 : decode cX6_reads 0 = .ok (.aload_n 0, 1) := by decide +kernel
theorem dX6_reads_1 : decode cX6_reads 1 = .ok (.iconst 0, 1) := by decide +kernel
theorem dX6_reads_2 : decode cX6_reads 2 = .ok (.putfield 55, 3) := by decide +kernel
theorem dX6_reads_5 : decode cX6_reads 5 = .ok (.aload_n 0, 1) := by decide +kernel
theorem dX6_reads_6 : decode cX6_reads 6 = .ok (.iconst 0, 1) := by decide +kernel
theorem dX6_reads_7 : decode cX6_reads 7 = .ok (.putfield 58, 3) := by decide +kernel
theorem dX6_reads_10 : decode cX6_reads 10 = .ok (.iconst 4, 1) := by decide +kernel
theorem dX6_reads_11 : decode cX6_reads 11 = .ok (.istore_n 2, 1) := by decide +kernel
theorem dX6_reads_12 : decode cX6_reads 12 = .ok (.iload_n 2, 1) := by decide +kernel
theorem dX6_reads_13 : decode cX6_reads 13 = .ok (.aload_n 0, 1) := by decide +kernel
theorem dX6_reads_14 : decode cX6_reads 14 = .ok (.getfield 7, 3) := by decide +kernel
theorem dX6_reads_17 : decode cX6_reads 17 = .ok (.iconst 1, 1) := by decide +kernel
theorem dX6_reads_18 : decode cX6_reads 18 = .ok (.iaload, 1) := by decide +kernel
theorem dX6_reads_19 : decode cX6_reads 19 = .ok (.if_icmp .ge 202, 3) := by decide +kernel
theorem dX6_reads_22 : decode cX6_reads 22 = .ok (.aload_n 0, 1) := by decide +kernel
theorem dX6_reads_23 : decode cX6_reads 23 = .ok (.iload_n 1, 1) := by decide +kernel
theorem dX6_reads_24 : decode cX6_reads 24 = .ok (.iload_n 2, 1) := by decide +kernel
theorem dX6_reads_25 : decode cX6_reads 25 = .ok (.invokevirtual 61, 3) := by decide +kernel
theorem dX6_reads_28 : decode cX6_reads 28 = .ok (.ifCond .ne 193, 3) := by decide +kernel
theorem dX6_reads_31 : decode cX6_reads 31 = .ok (.iload_n 2, 1) := by decide +kernel
theorem dX6_reads_32 : decode cX6_reads 32 = .ok (.iconst 1, 1) := by decide +kernel
theorem dX6_reads_33 : decode cX6_reads 33 = .ok (.iadd, 1) := by decide +kernel
theorem dX6_reads_34 : decode cX6_reads 34 = .ok (.aload_n 0, 1) := by decide +kernel
theorem dX6_reads_35 : decode cX6_reads 35 = .ok (.getfield 7, 3) := by decide +kernel
theorem dX6_reads_38 : decode cX6_reads 38 = .ok (.iconst 1, 1) := by decide +kernel
theorem dX6_reads_39 : decode cX6_reads 39 = .ok (.iaload, 1) := by decide +kernel
theorem dX6_reads_40 : decode cX6_reads 40 = .ok (.if_icmp .ge 12, 3) := by decide +kernel
theorem dX6_reads_43 : decode cX6_reads 43 = .ok (.aload_n 0, 1) := by decide +kernel
theorem dX6_reads_44 : decode cX6_reads 44 = .ok (.iload_n 1, 1) := by decide +kernel
theorem dX6_reads_45 : decode cX6_reads 45 = .ok (.iload_n 2, 1) := by decide +kernel
theorem dX6_reads_46 : decode cX6_reads 46 = .ok (.invokevirtual 65, 3) := by decide +kernel
theorem dX6_reads_49 : decode cX6_reads 49 = .ok (.goto 4, 3) := by decide +kernel
theorem dX6_reads_52 : decode cX6_reads 52 = .ok (.iconst (-1), 1) := by decide +kernel
theorem dX6_reads_53 : decode cX6_reads 53 = .ok (.istore_n 3, 1) := by decide +kernel
theorem dX6_reads_54 : decode cX6_reads 54 = .ok (.iload_n 3, 1) := by decide +kernel
theorem dX6_reads_55 : decode cX6_reads 55 = .ok (.ifCond .ge 7, 3) := by decide +kernel
theorem dX6_reads_58 : decode cX6_reads 58 = .ok (.iconst 0, 1) := by decide +kernel
theorem dX6_reads_59 : decode cX6_reads 59 = .ok (.goto 16, 3) := by decide +kernel
theorem dX6_reads_62 : decode cX6_reads 62 = .ok (.aload_n 0, 1) := by decide +kernel
theorem dX6_reads_63 : decode cX6_reads 63 = .ok (.iload_n 3, 1) := by decide +kernel
theorem dX6_reads_64 : decode cX6_reads 64 = .ok (.aload_n 0, 1) := by decide +kernel
theorem dX6_reads_65 : decode cX6_reads 65 = .ok (.iload_n 1, 1) := by decide +kernel
theorem dX6_reads_66 : decode cX6_reads 66 = .ok (.iload_n 2, 1) := by decide +kernel
theorem dX6_reads_67 : decode cX6_reads 67 = .ok (.iconst 1, 1) := by decide +kernel
theorem dX6_reads_68 : decode cX6_reads 68 = .ok (.iadd, 1) := by decide +kernel
theorem dX6_reads_69 : decode cX6_reads 69 = .ok (.invokevirtual 51, 3) := by decide +kernel
theorem dX6_reads_72 : decode cX6_reads 72 = .ok (.invokevirtual 68, 3) := by decide +kernel
theorem dX6_reads_75 : decode cX6_reads 75 = .ok (.istore 4, 2) := by decide +kernel
theorem dX6_reads_77 : decode cX6_reads 77 = .ok (.iload_n 3, 1) := by decide +kernel
theorem dX6_reads_78 : decode cX6_reads 78 = .ok (.ifCond .lt 16, 3) := by decide +kernel
theorem dX6_reads_81 : decode cX6_reads 81 = .ok (.iload_n 2, 1) := by decide +kernel
theorem dX6_reads_82 : decode cX6_reads 82 = .ok (.iload 4, 2) := by decide +kernel
theorem dX6_reads_84 : decode cX6_reads 84 = .ok (.iadd, 1) := by decide +kernel
theorem dX6_reads_85 : decode cX6_reads 85 = .ok (.aload_n 0, 1) := by decide +kernel
theorem dX6_reads_86 : decode cX6_reads 86 = .ok (.getfield 7, 3) := by decide +kernel
theorem dX6_reads_89 : decode cX6_reads 89 = .ok (.iconst 1, 1) := by decide +kernel
theorem dX6_reads_90 : decode cX6_reads 90 = .ok (.iaload, 1) := by decide +kernel
theorem dX6_reads_91 : decode cX6_reads 91 = .ok (.if_icmp .le 25, 3) := by decide +kernel
theorem dX6_reads_94 : decode cX6_reads 94 = .ok (.aload_n 0, 1) := by decide +kernel
theorem dX6_reads_95 : decode cX6_reads 95 = .ok (.aload_n 0, 1) := by decide +kernel
theorem dX6_reads_96 : decode cX6_reads 96 = .ok (.getfield 7, 3) := by decide +kernel
theorem dX6_reads_99 : decode cX6_reads 99 = .ok (.iconst 1, 1) := by decide +kernel
theorem dX6_reads_100 : decode cX6_reads 100 = .ok (.iaload, 1) := by decide +kernel
theorem dX6_reads_101 : decode cX6_reads 101 = .ok (.iload_n 2, 1) := by decide +kernel
theorem dX6_reads_102 : decode cX6_reads 102 = .ok (.isub, 1) := by decide +kernel
theorem dX6_reads_103 : decode cX6_reads 103 = .ok (.putfield 58, 3) := by decide +kernel
theorem dX6_reads_106 : decode cX6_reads 106 = .ok (.aload_n 0, 1) := by decide +kernel
theorem dX6_reads_107 : decode cX6_reads 107 = .ok (.getfield 7, 3) := by decide +kernel
theorem dX6_reads_110 : decode cX6_reads 110 = .ok (.iconst 1, 1) := by decide +kernel
theorem dX6_reads_111 : decode cX6_reads 111 = .ok (.iaload, 1) := by decide +kernel
theorem dX6_reads_112 : decode cX6_reads 112 = .ok (.istore_n 2, 1) := by decide +kernel
theorem dX6_reads_113 : decode cX6_reads 113 = .ok (.goto (-101), 3) := by decide +kernel
theorem dX6_reads_116 : decode cX6_reads 116 = .ok (.aload_n 0, 1) := by decide +kernel
theorem dX6_reads_117 : decode cX6_reads 117 = .ok (.getfield 16, 3) := by decide +kernel
theorem dX6_reads_120 : decode cX6_reads 120 = .ok (.aload_n 0, 1) := by decide +kernel
theorem dX6_reads_121 : decode cX6_reads 121 = .ok (.getfield 55, 3) := by decide +kernel
theorem dX6_reads_124 : decode cX6_reads 124 = .ok (.iload_n 2, 1) := by decide +kernel
theorem dX6_reads_125 : decode cX6_reads 125 = .ok (.iastore, 1) := by decide +kernel
theorem dX6_reads_126 : decode cX6_reads 126 = .ok (.aload_n 0, 1) := by decide +kernel
theorem dX6_reads_127 : decode cX6_reads 127 = .ok (.getfield 19, 3) := by decide +kernel
theorem dX6_reads_130 : decode cX6_reads 130 = .ok (.aload_n 0, 1) := by decide +kernel
theorem dX6_reads_131 : decode cX6_reads 131 = .ok (.getfield 55, 3) := by decide +kernel
theorem dX6_reads_134 : decode cX6_reads 134 = .ok (.iload_n 3, 1) := by decide +kernel
theorem dX6_reads_135 : decode cX6_reads 135 = .ok (.iastore, 1) := by decide +kernel
theorem dX6_reads_136 : decode cX6_reads 136 = .ok (.aload_n 0, 1) := by decide +kernel
theorem dX6_reads_137 : decode cX6_reads 137 = .ok (.getfield 22, 3) := by decide +kernel
theorem dX6_reads_140 : decode cX6_reads 140 = .ok (.aload_n 0, 1) := by decide +kernel
theorem dX6_reads_141 : decode cX6_reads 141 = .ok (.getfield 55, 3) := by decide +kernel
theorem dX6_reads_144 : decode cX6_reads 144 = .ok (.iload 4, 2) := by decide +kernel
theorem dX6_reads_146 : decode cX6_reads 146 = .ok (.iastore, 1) := by decide +kernel
theorem dX6_reads_147 : decode cX6_reads 147 = .ok (.aload_n 0, 1) := by decide +kernel
theorem dX6_reads_148 : decode cX6_reads 148 = .ok (.aload_n 0, 1) := by decide +kernel
theorem dX6_reads_149 : decode cX6_reads 149 = .ok (.getfield 55, 3) := by decide +kernel
theorem dX6_reads_152 : decode cX6_reads 152 = .ok (.invokevirtual 71, 3) := by decide +kernel
theorem dX6_reads_155 : decode cX6_reads 155 = .ok (.istore 5, 2) := by decide +kernel
theorem dX6_reads_157 : decode cX6_reads 157 = .ok (.aload_n 0, 1) := by decide +kernel
theorem dX6_reads_158 : decode cX6_reads 158 = .ok (.getfield 25, 3) := by decide +kernel
theorem dX6_reads_161 : decode cX6_reads 161 = .ok (.aload_n 0, 1) := by decide +kernel
theorem dX6_reads_162 : decode cX6_reads 162 = .ok (.getfield 55, 3) := by decide +kernel
theorem dX6_reads_165 : decode cX6_reads 165 = .ok (.aload_n 0, 1) := by decide +kernel
theorem dX6_reads_166 : decode cX6_reads 166 = .ok (.iload_n 1, 1) := by decide +kernel
theorem dX6_reads_167 : decode cX6_reads 167 = .ok (.iload_n 2, 1) := by decide +kernel
theorem dX6_reads_168 : decode cX6_reads 168 = .ok (.iload 5, 2) := by decide +kernel
theorem dX6_reads_170 : decode cX6_reads 170 = .ok (.invokevirtual 75, 3) := by decide +kernel
theorem dX6_reads_173 : decode cX6_reads 173 = .ok (.invokestatic 79, 3) := by decide +kernel
theorem dX6_reads_176 : decode cX6_reads 176 = .ok (.aload_n 0, 1) := by decide +kernel
theorem dX6_reads_177 : decode cX6_reads 177 = .ok (.iload_n 1, 1) := by decide +kernel
theorem dX6_reads_178 : decode cX6_reads 178 = .ok (.iload_n 2, 1) := by decide +kernel
theorem dX6_reads_179 : decode cX6_reads 179 = .ok (.iload 5, 2) := by decide +kernel
theorem dX6_reads_181 : decode cX6_reads 181 = .ok (.iadd, 1) := by decide +kernel
theorem dX6_reads_182 : decode cX6_reads 182 = .ok (.invokevirtual 51, 3) := by decide +kernel
theorem dX6_reads_185 : decode cX6_reads 185 = .ok (.if_icmp .eq 7, 3) := by decide +kernel
theorem dX6_reads_188 : decode cX6_reads 188 = .ok (.iconst 2, 1) := by decide +kernel
theorem dX6_reads_189 : decode cX6_reads 189 = .ok (.goto 13, 3) := by decide +kernel
theorem dX6_reads_192 : decode cX6_reads 192 = .ok (.iload_n 3, 1) := by decide +kernel
theorem dX6_reads_193 : decode cX6_reads 193 = .ok (.iconst 2, 1) := by decide +kernel
theorem dX6_reads_194 : decode cX6_reads 194 = .ok (.if_icmp .ge 7, 3) := by decide +kernel
theorem dX6_reads_197 : decode cX6_reads 197 = .ok (.iconst 1, 1) := by decide +kernel
theorem dX6_reads_198 : decode cX6_reads 198 = .ok (.goto 4, 3) := by decide +kernel
theorem dX6_reads_201 : decode cX6_reads 201 = .ok (.iconst 3, 1) := by decide +kernel
theorem dX6_reads_202 : decode cX6_reads 202 = .ok (.iastore, 1) := by decide +kernel
theorem dX6_reads_203 : decode cX6_reads 203 = .ok (.aload_n 0, 1) := by decide +kernel
theorem dX6_reads_204 : decode cX6_reads 204 = .ok (.dup, 1) := by decide +kernel
theorem dX6_reads_205 : decode cX6_reads 205 = .ok (.getfield 55, 3) := by decide +kernel
theorem dX6_reads_208 : decode cX6_reads 208 = .ok (.iconst 1, 1) := by decide +kernel
theorem dX6_reads_209 : decode cX6_reads 209 = .ok (.iadd, 1) := by decide +kernel
theorem dX6_reads_210 : decode cX6_reads 210 = .ok (.putfield 55, 3) := by decide +kernel
theorem dX6_reads_213 : decode cX6_reads 213 = .ok (.iload_n 2, 1) := by decide +kernel
theorem dX6_reads_214 : decode cX6_reads 214 = .ok (.iload 4, 2) := by decide +kernel
theorem dX6_reads_216 : decode cX6_reads 216 = .ok (.iadd, 1) := by decide +kernel
theorem dX6_reads_217 : decode cX6_reads 217 = .ok (.istore_n 2, 1) := by decide +kernel
theorem dX6_reads_218 : decode cX6_reads 218 = .ok (.goto (-206), 3) := by decide +kernel
theorem dX6_reads_221 : decode cX6_reads 221 = .ok (.aload_n 0, 1) := by decide +kernel
theorem dX6_reads_222 : decode cX6_reads 222 = .ok (.iload_n 2, 1) := by decide +kernel
theorem dX6_reads_223 : decode cX6_reads 223 = .ok (.putfield 82, 3) := by decide +kernel
theorem dX6_reads_226 : decode cX6_reads 226 = .ok (.aload_n 0, 1) := by decide +kernel
theorem dX6_reads_227 : decode cX6_reads 227 = .ok (.iload_n 1, 1) := by decide +kernel
theorem dX6_reads_228 : decode cX6_reads 228 = .ok (.invokevirtual 85, 3) := by decide +kernel
theorem dX6_reads_231 : decode cX6_reads 231 = .ok (.iconst 0, 1) := by decide +kernel
theorem dX6_reads_232 : decode cX6_reads 232 = .ok (.istore_n 3, 1) := by decide +kernel
theorem dX6_reads_233 : decode cX6_reads 233 = .ok (.iload_n 3, 1) := by decide +kernel
theorem dX6_reads_234 : decode cX6_reads 234 = .ok (.bipush 48, 2) := by decide +kernel
theorem dX6_reads_236 : decode cX6_reads 236 = .ok (.if_icmp .ge 16, 3) := by decide +kernel
theorem dX6_reads_239 : decode cX6_reads 239 = .ok (.aload_n 0, 1) := by decide +kernel
theorem dX6_reads_240 : decode cX6_reads 240 = .ok (.getfield 28, 3) := by decide +kernel
theorem dX6_reads_243 : decode cX6_reads 243 = .ok (.iload_n 3, 1) := by decide +kernel
theorem dX6_reads_244 : decode cX6_reads 244 = .ok (.iconst (-1), 1) := by decide +kernel
theorem dX6_reads_245 : decode cX6_reads 245 = .ok (.iastore, 1) := by decide +kernel
theorem dX6_reads_246 : decode cX6_reads 246 = .ok (.iinc 3 1, 3) := by decide +kernel
theorem dX6_reads_249 : decode cX6_reads 249 = .ok (.goto (-16), 3) := by decide +kernel
theorem dX6_reads_252 : decode cX6_reads 252 = .ok (.iconst 0, 1) := by decide +kernel
theorem dX6_reads_253 : decode cX6_reads 253 = .ok (.istore_n 3, 1) := by decide +kernel
theorem dX6_reads_254 : decode cX6_reads 254 = .ok (.iload_n 3, 1) := by decide +kernel
theorem dX6_reads_255 : decode cX6_reads 255 = .ok (.aload_n 0, 1) := by decide +kernel
theorem dX6_reads_256 : decode cX6_reads 256 = .ok (.getfield 55, 3) := by decide +kernel
theorem dX6_reads_259 : decode cX6_reads 259 = .ok (.if_icmp .ge 46, 3) := by decide +kernel
theorem dX6_reads_262 : decode cX6_reads 262 = .ok (.aload_n 0, 1) := by decide +kernel
theorem dX6_reads_263 : decode cX6_reads 263 = .ok (.getfield 19, 3) := by decide +kernel
theorem dX6_reads_266 : decode cX6_reads 266 = .ok (.iload_n 3, 1) := by decide +kernel
theorem dX6_reads_267 : decode cX6_reads 267 = .ok (.iaload, 1) := by decide +kernel
theorem dX6_reads_268 : decode cX6_reads 268 = .ok (.iconst 3, 1) := by decide +kernel
theorem dX6_reads_269 : decode cX6_reads 269 = .ok (.if_icmp .eq 30, 3) := by decide +kernel
theorem dX6_reads_272 : decode cX6_reads 272 = .ok (.aload_n 0, 1) := by decide +kernel
theorem dX6_reads_273 : decode cX6_reads 273 = .ok (.getfield 25, 3) := by decide +kernel
theorem dX6_reads_276 : decode cX6_reads 276 = .ok (.iload_n 3, 1) := by decide +kernel
theorem dX6_reads_277 : decode cX6_reads 277 = .ok (.iaload, 1) := by decide +kernel
theorem dX6_reads_278 : decode cX6_reads 278 = .ok (.iconst 1, 1) := by decide +kernel
theorem dX6_reads_279 : decode cX6_reads 279 = .ok (.if_icmp .ne 20, 3) := by decide +kernel
theorem dX6_reads_282 : decode cX6_reads 282 = .ok (.aload_n 0, 1) := by decide +kernel
theorem dX6_reads_283 : decode cX6_reads 283 = .ok (.getfield 28, 3) := by decide +kernel
theorem dX6_reads_286 : decode cX6_reads 286 = .ok (.aload_n 0, 1) := by decide +kernel
theorem dX6_reads_287 : decode cX6_reads 287 = .ok (.iload_n 1, 1) := by decide +kernel
theorem dX6_reads_288 : decode cX6_reads 288 = .ok (.aload_n 0, 1) := by decide +kernel
theorem dX6_reads_289 : decode cX6_reads 289 = .ok (.getfield 16, 3) := by decide +kernel
theorem dX6_reads_292 : decode cX6_reads 292 = .ok (.iload_n 3, 1) := by decide +kernel
theorem dX6_reads_293 : decode cX6_reads 293 = .ok (.iaload, 1) := by decide +kernel
theorem dX6_reads_294 : decode cX6_reads 294 = .ok (.invokevirtual 51, 3) := by decide +kernel
theorem dX6_reads_297 : decode cX6_reads 297 = .ok (.iload_n 3, 1) := by decide +kernel
theorem dX6_reads_298 : decode cX6_reads 298 = .ok (.iastore, 1) := by decide +kernel
theorem dX6_reads_299 : decode cX6_reads 299 = .ok (.iinc 3 1, 3) := by decide +kernel
theorem dX6_reads_302 : decode cX6_reads 302 = .ok (.goto (-48), 3) := by decide +kernel
theorem dX6_reads_305 : decode cX6_reads 305 = .ok (.iconst 0, 1) := by decide +kernel
theorem dX6_reads_306 : decode cX6_reads 306 = .ok (.istore_n 3, 1) := by decide +kernel
theorem dX6_reads_307 : decode cX6_reads 307 = .ok (.iload_n 3, 1) := by decide +kernel
theorem dX6_reads_308 : decode cX6_reads 308 = .ok (.bipush 48, 2) := by decide +kernel
theorem dX6_reads_310 : decode cX6_reads 310 = .ok (.if_icmp .ge 30, 3) := by decide +kernel
theorem dX6_reads_313 : decode cX6_reads 313 = .ok (.aload_n 0, 1) := by decide +kernel
theorem dX6_reads_314 : decode cX6_reads 314 = .ok (.getfield 28, 3) := by decide +kernel
theorem dX6_reads_317 : decode cX6_reads 317 = .ok (.iload_n 3, 1) := by decide +kernel
theorem dX6_reads_318 : decode cX6_reads 318 = .ok (.iaload, 1) := by decide +kernel
theorem dX6_reads_319 : decode cX6_reads 319 = .ok (.ifCond .lt 15, 3) := by decide +kernel
theorem dX6_reads_322 : decode cX6_reads 322 = .ok (.aload_n 0, 1) := by decide +kernel
theorem dX6_reads_323 : decode cX6_reads 323 = .ok (.getfield 25, 3) := by decide +kernel
theorem dX6_reads_326 : decode cX6_reads 326 = .ok (.aload_n 0, 1) := by decide +kernel
theorem dX6_reads_327 : decode cX6_reads 327 = .ok (.getfield 28, 3) := by decide +kernel
theorem dX6_reads_330 : decode cX6_reads 330 = .ok (.iload_n 3, 1) := by decide +kernel
theorem dX6_reads_331 : decode cX6_reads 331 = .ok (.iaload, 1) := by decide +kernel
theorem dX6_reads_332 : decode cX6_reads 332 = .ok (.iconst 0, 1) := by decide +kernel
theorem dX6_reads_333 : decode cX6_reads 333 = .ok (.iastore, 1) := by decide +kernel
theorem dX6_reads_334 : decode cX6_reads 334 = .ok (.iinc 3 1, 3) := by decide +kernel
theorem dX6_reads_337 : decode cX6_reads 337 = .ok (.goto (-30), 3) := by decide +kernel
theorem dX6_reads_340 : decode cX6_reads 340 = .ok (.return_, 1) := by decide +kernel
theorem dX6_commits_0 : decode cX6_commits 0 = .ok (.iconst 0, 1) := by decide +kernel
theorem dX6_commits_1 : decode cX6_commits 1 = .ok (.istore_n 2, 1) := by decide +kernel
theorem dX6_commits_2 : decode cX6_commits 2 = .ok (.iload_n 2, 1) := by decide +kernel
theorem dX6_commits_3 : decode cX6_commits 3 = .ok (.aload_n 0, 1) := by decide +kernel
theorem dX6_commits_4 : decode cX6_commits 4 = .ok (.getfield 55, 3) := by decide +kernel
theorem dX6_commits_7 : decode cX6_commits 7 = .ok (.if_icmp .ge 159, 3) := by decide +kernel
theorem dX6_commits_10 : decode cX6_commits 10 = .ok (.aload_n 0, 1) := by decide +kernel
theorem dX6_commits_11 : decode cX6_commits 11 = .ok (.getfield 19, 3) := by decide +kernel
theorem dX6_commits_14 : decode cX6_commits 14 = .ok (.iload_n 2, 1) := by decide +kernel
theorem dX6_commits_15 : decode cX6_commits 15 = .ok (.iaload, 1) := by decide +kernel
theorem dX6_commits_16 : decode cX6_commits 16 = .ok (.iconst 3, 1) := by decide +kernel
theorem dX6_commits_17 : decode cX6_commits 17 = .ok (.if_icmp .ne 143, 3) := by decide +kernel
theorem dX6_commits_20 : decode cX6_commits 20 = .ok (.aload_n 0, 1) := by decide +kernel
theorem dX6_commits_21 : decode cX6_commits 21 = .ok (.getfield 25, 3) := by decide +kernel
theorem dX6_commits_24 : decode cX6_commits 24 = .ok (.iload_n 2, 1) := by decide +kernel
theorem dX6_commits_25 : decode cX6_commits 25 = .ok (.iaload, 1) := by decide +kernel
theorem dX6_commits_26 : decode cX6_commits 26 = .ok (.iconst 2, 1) := by decide +kernel
theorem dX6_commits_27 : decode cX6_commits 27 = .ok (.if_icmp .ne 6, 3) := by decide +kernel
theorem dX6_commits_30 : decode cX6_commits 30 = .ok (.goto 130, 3) := by decide +kernel
theorem dX6_commits_33 : decode cX6_commits 33 = .ok (.aload_n 0, 1) := by decide +kernel
theorem dX6_commits_34 : decode cX6_commits 34 = .ok (.iload_n 1, 1) := by decide +kernel
theorem dX6_commits_35 : decode cX6_commits 35 = .ok (.aload_n 0, 1) := by decide +kernel
theorem dX6_commits_36 : decode cX6_commits 36 = .ok (.getfield 16, 3) := by decide +kernel
theorem dX6_commits_39 : decode cX6_commits 39 = .ok (.iload_n 2, 1) := by decide +kernel
theorem dX6_commits_40 : decode cX6_commits 40 = .ok (.iaload, 1) := by decide +kernel
theorem dX6_commits_41 : decode cX6_commits 41 = .ok (.iconst 2, 1) := by decide +kernel
theorem dX6_commits_42 : decode cX6_commits 42 = .ok (.iadd, 1) := by decide +kernel
theorem dX6_commits_43 : decode cX6_commits 43 = .ok (.invokevirtual 51, 3) := by decide +kernel
theorem dX6_commits_46 : decode cX6_commits 46 = .ok (.istore_n 3, 1) := by decide +kernel
theorem dX6_commits_47 : decode cX6_commits 47 = .ok (.iload_n 3, 1) := by decide +kernel
theorem dX6_commits_48 : decode cX6_commits 48 = .ok (.iconst 1, 1) := by decide +kernel
theorem dX6_commits_49 : decode cX6_commits 49 = .ok (.bipush 8, 2) := by decide +kernel
theorem dX6_commits_51 : decode cX6_commits 51 = .ok (.invokestatic 39, 3) := by decide +kernel
theorem dX6_commits_54 : decode cX6_commits 54 = .ok (.ifCond .eq 12, 3) := by decide +kernel
theorem dX6_commits_57 : decode cX6_commits 57 = .ok (.iload_n 3, 1) := by decide +kernel
theorem dX6_commits_58 : decode cX6_commits 58 = .ok (.iload_n 2, 1) := by decide +kernel
theorem dX6_commits_59 : decode cX6_commits 59 = .ok (.if_icmp .gt 7, 3) := by decide +kernel
theorem dX6_commits_62 : decode cX6_commits 62 = .ok (.iconst 1, 1) := by decide +kernel
theorem dX6_commits_63 : decode cX6_commits 63 = .ok (.goto 4, 3) := by decide +kernel
theorem dX6_commits_66 : decode cX6_commits 66 = .ok (.iconst 0, 1) := by decide +kernel
theorem dX6_commits_67 : decode cX6_commits 67 = .ok (.istore 4, 2) := by decide +kernel
theorem dX6_commits_69 : decode cX6_commits 69 = .ok (.iload_n 2, 1) := by decide +kernel
theorem dX6_commits_70 : decode cX6_commits 70 = .ok (.iload_n 3, 1) := by decide +kernel
theorem dX6_commits_71 : decode cX6_commits 71 = .ok (.isub, 1) := by decide +kernel
theorem dX6_commits_72 : decode cX6_commits 72 = .ok (.istore 5, 2) := by decide +kernel
theorem dX6_commits_74 : decode cX6_commits 74 = .ok (.iload 5, 2) := by decide +kernel
theorem dX6_commits_76 : decode cX6_commits 76 = .ok (.iload_n 2, 1) := by decide +kernel
theorem dX6_commits_77 : decode cX6_commits 77 = .ok (.if_icmp .ge 43, 3) := by decide +kernel
theorem dX6_commits_80 : decode cX6_commits 80 = .ok (.iload 4, 2) := by decide +kernel
theorem dX6_commits_82 : decode cX6_commits 82 = .ok (.ifCond .eq 38, 3) := by decide +kernel
theorem dX6_commits_85 : decode cX6_commits 85 = .ok (.aload_n 0, 1) := by decide +kernel
theorem dX6_commits_86 : decode cX6_commits 86 = .ok (.getfield 19, 3) := by decide +kernel
theorem dX6_commits_89 : decode cX6_commits 89 = .ok (.iload 5, 2) := by decide +kernel
theorem dX6_commits_91 : decode cX6_commits 91 = .ok (.iaload, 1) := by decide +kernel
theorem dX6_commits_92 : decode cX6_commits 92 = .ok (.iconst 2, 1) := by decide +kernel
theorem dX6_commits_93 : decode cX6_commits 93 = .ok (.if_icmp .ne 18, 3) := by decide +kernel
theorem dX6_commits_96 : decode cX6_commits 96 = .ok (.aload_n 0, 1) := by decide +kernel
theorem dX6_commits_97 : decode cX6_commits 97 = .ok (.getfield 25, 3) := by decide +kernel
theorem dX6_commits_100 : decode cX6_commits 100 = .ok (.iload 5, 2) := by decide +kernel
theorem dX6_commits_102 : decode cX6_commits 102 = .ok (.iaload, 1) := by decide +kernel
theorem dX6_commits_103 : decode cX6_commits 103 = .ok (.iconst 2, 1) := by decide +kernel
theorem dX6_commits_104 : decode cX6_commits 104 = .ok (.if_icmp .eq 7, 3) := by decide +kernel
theorem dX6_commits_107 : decode cX6_commits 107 = .ok (.iconst 1, 1) := by decide +kernel
theorem dX6_commits_108 : decode cX6_commits 108 = .ok (.goto 4, 3) := by decide +kernel
theorem dX6_commits_111 : decode cX6_commits 111 = .ok (.iconst 0, 1) := by decide +kernel
theorem dX6_commits_112 : decode cX6_commits 112 = .ok (.istore 4, 2) := by decide +kernel
theorem dX6_commits_114 : decode cX6_commits 114 = .ok (.iinc 5 1, 3) := by decide +kernel
theorem dX6_commits_117 : decode cX6_commits 117 = .ok (.goto (-43), 3) := by decide +kernel
theorem dX6_commits_120 : decode cX6_commits 120 = .ok (.iload 4, 2) := by decide +kernel
theorem dX6_commits_122 : decode cX6_commits 122 = .ok (.ifCond .ne 6, 3) := by decide +kernel
theorem dX6_commits_125 : decode cX6_commits 125 = .ok (.goto 35, 3) := by decide +kernel
theorem dX6_commits_128 : decode cX6_commits 128 = .ok (.aload_n 0, 1) := by decide +kernel
theorem dX6_commits_129 : decode cX6_commits 129 = .ok (.getfield 25, 3) := by decide +kernel
theorem dX6_commits_132 : decode cX6_commits 132 = .ok (.iload_n 2, 1) := by decide +kernel
theorem dX6_commits_133 : decode cX6_commits 133 = .ok (.iconst 0, 1) := by decide +kernel
theorem dX6_commits_134 : decode cX6_commits 134 = .ok (.iastore, 1) := by decide +kernel
theorem dX6_commits_135 : decode cX6_commits 135 = .ok (.iload_n 2, 1) := by decide +kernel
theorem dX6_commits_136 : decode cX6_commits 136 = .ok (.iload_n 3, 1) := by decide +kernel
theorem dX6_commits_137 : decode cX6_commits 137 = .ok (.isub, 1) := by decide +kernel
theorem dX6_commits_138 : decode cX6_commits 138 = .ok (.istore 5, 2) := by decide +kernel
theorem dX6_commits_140 : decode cX6_commits 140 = .ok (.iload 5, 2) := by decide +kernel
theorem dX6_commits_142 : decode cX6_commits 142 = .ok (.iload_n 2, 1) := by decide +kernel
theorem dX6_commits_143 : decode cX6_commits 143 = .ok (.if_icmp .ge 17, 3) := by decide +kernel
theorem dX6_commits_146 : decode cX6_commits 146 = .ok (.aload_n 0, 1) := by decide +kernel
theorem dX6_commits_147 : decode cX6_commits 147 = .ok (.getfield 25, 3) := by decide +kernel
theorem dX6_commits_150 : decode cX6_commits 150 = .ok (.iload 5, 2) := by decide +kernel
theorem dX6_commits_152 : decode cX6_commits 152 = .ok (.iconst 1, 1) := by decide +kernel
theorem dX6_commits_153 : decode cX6_commits 153 = .ok (.iastore, 1) := by decide +kernel
theorem dX6_commits_154 : decode cX6_commits 154 = .ok (.iinc 5 1, 3) := by decide +kernel
theorem dX6_commits_157 : decode cX6_commits 157 = .ok (.goto (-17), 3) := by decide +kernel
theorem dX6_commits_160 : decode cX6_commits 160 = .ok (.iinc 2 1, 3) := by decide +kernel
theorem dX6_commits_163 : decode cX6_commits 163 = .ok (.goto (-161), 3) := by decide +kernel
theorem dX6_commits_166 : decode cX6_commits 166 = .ok (.return_, 1) := by decide +kernel
theorem dX6_number_0 : decode cX6_number 0 = .ok (.lconst 0, 1) := by decide +kernel
theorem dX6_number_1 : decode cX6_number 1 = .ok (.lstore 4, 2) := by decide +kernel
theorem dX6_number_3 : decode cX6_number 3 = .ok (.iload_n 2, 1) := by decide +kernel
theorem dX6_number_4 : decode cX6_number 4 = .ok (.istore 6, 2) := by decide +kernel
theorem dX6_number_6 : decode cX6_number 6 = .ok (.iload 6, 2) := by decide +kernel
theorem dX6_number_8 : decode cX6_number 8 = .ok (.iload_n 2, 1) := by decide +kernel
theorem dX6_number_9 : decode cX6_number 9 = .ok (.iload_n 3, 1) := by decide +kernel
theorem dX6_number_10 : decode cX6_number 10 = .ok (.iadd, 1) := by decide +kernel
theorem dX6_number_11 : decode cX6_number 11 = .ok (.if_icmp .ge 25, 3) := by decide +kernel
theorem dX6_number_14 : decode cX6_number 14 = .ok (.lload 4, 2) := by decide +kernel
theorem dX6_number_16 : decode cX6_number 16 = .ok (.bipush 8, 2) := by decide +kernel
theorem dX6_number_18 : decode cX6_number 18 = .ok (.lshl, 1) := by decide +kernel
theorem dX6_number_19 : decode cX6_number 19 = .ok (.aload_n 0, 1) := by decide +kernel
theorem dX6_number_20 : decode cX6_number 20 = .ok (.iload_n 1, 1) := by decide +kernel
theorem dX6_number_21 : decode cX6_number 21 = .ok (.iload 6, 2) := by decide +kernel
theorem dX6_number_23 : decode cX6_number 23 = .ok (.invokevirtual 51, 3) := by decide +kernel
theorem dX6_number_26 : decode cX6_number 26 = .ok (.i2l, 1) := by decide +kernel
theorem dX6_number_27 : decode cX6_number 27 = .ok (.lor, 1) := by decide +kernel
theorem dX6_number_28 : decode cX6_number 28 = .ok (.lstore 4, 2) := by decide +kernel
theorem dX6_number_30 : decode cX6_number 30 = .ok (.iinc 6 1, 3) := by decide +kernel
theorem dX6_number_33 : decode cX6_number 33 = .ok (.goto (-27), 3) := by decide +kernel
theorem dX6_number_36 : decode cX6_number 36 = .ok (.lload 4, 2) := by decide +kernel
theorem dX6_number_38 : decode cX6_number 38 = .ok (.lreturn, 1) := by decide +kernel
theorem dX6_zeros_0 : decode cX6_zeros 0 = .ok (.iconst 0, 1) := by decide +kernel
theorem dX6_zeros_1 : decode cX6_zeros 1 = .ok (.istore_n 3, 1) := by decide +kernel
theorem dX6_zeros_2 : decode cX6_zeros 2 = .ok (.iload_n 2, 1) := by decide +kernel
theorem dX6_zeros_3 : decode cX6_zeros 3 = .ok (.istore 4, 2) := by decide +kernel
theorem dX6_zeros_5 : decode cX6_zeros 5 = .ok (.iload 4, 2) := by decide +kernel
theorem dX6_zeros_7 : decode cX6_zeros 7 = .ok (.iload_n 2, 1) := by decide +kernel
theorem dX6_zeros_8 : decode cX6_zeros 8 = .ok (.bipush 8, 2) := by decide +kernel
theorem dX6_zeros_10 : decode cX6_zeros 10 = .ok (.iadd, 1) := by decide +kernel
theorem dX6_zeros_11 : decode cX6_zeros 11 = .ok (.if_icmp .ge 25, 3) := by decide +kernel
theorem dX6_zeros_14 : decode cX6_zeros 14 = .ok (.iload_n 3, 1) := by decide +kernel
theorem dX6_zeros_15 : decode cX6_zeros 15 = .ok (.bipush 8, 2) := by decide +kernel
theorem dX6_zeros_17 : decode cX6_zeros 17 = .ok (.aload_n 0, 1) := by decide +kernel
theorem dX6_zeros_18 : decode cX6_zeros 18 = .ok (.iload_n 1, 1) := by decide +kernel
theorem dX6_zeros_19 : decode cX6_zeros 19 = .ok (.iload 4, 2) := by decide +kernel
theorem dX6_zeros_21 : decode cX6_zeros 21 = .ok (.invokevirtual 51, 3) := by decide +kernel
theorem dX6_zeros_24 : decode cX6_zeros 24 = .ok (.invokestatic 89, 3) := by decide +kernel
theorem dX6_zeros_27 : decode cX6_zeros 27 = .ok (.isub, 1) := by decide +kernel
theorem dX6_zeros_28 : decode cX6_zeros 28 = .ok (.iadd, 1) := by decide +kernel
theorem dX6_zeros_29 : decode cX6_zeros 29 = .ok (.istore_n 3, 1) := by decide +kernel
theorem dX6_zeros_30 : decode cX6_zeros 30 = .ok (.iinc 4 1, 3) := by decide +kernel
theorem dX6_zeros_33 : decode cX6_zeros 33 = .ok (.goto (-28), 3) := by decide +kernel
theorem dX6_zeros_36 : decode cX6_zeros 36 = .ok (.iload_n 3, 1) := by decide +kernel
theorem dX6_zeros_37 : decode cX6_zeros 37 = .ok (.ireturn, 1) := by decide +kernel
theorem dX6_valueOf_0 : decode cX6_valueOf 0 = .ok (.aload_n 0, 1) := by decide +kernel
theorem dX6_valueOf_1 : decode cX6_valueOf 1 = .ok (.getfield 19, 3) := by decide +kernel
theorem dX6_valueOf_4 : decode cX6_valueOf 4 = .ok (.iload_n 2, 1) := by decide +kernel
theorem dX6_valueOf_5 : decode cX6_valueOf 5 = .ok (.iaload, 1) := by decide +kernel
theorem dX6_valueOf_6 : decode cX6_valueOf 6 = .ok (.iconst 1, 1) := by decide +kernel
theorem dX6_valueOf_7 : decode cX6_valueOf 7 = .ok (.if_icmp .ne 34, 3) := by decide +kernel
theorem dX6_valueOf_10 : decode cX6_valueOf 10 = .ok (.aload_n 0, 1) := by decide +kernel
theorem dX6_valueOf_11 : decode cX6_valueOf 11 = .ok (.iload_n 1, 1) := by decide +kernel
theorem dX6_valueOf_12 : decode cX6_valueOf 12 = .ok (.aload_n 0, 1) := by decide +kernel
theorem dX6_valueOf_13 : decode cX6_valueOf 13 = .ok (.getfield 16, 3) := by decide +kernel
theorem dX6_valueOf_16 : decode cX6_valueOf 16 = .ok (.iload_n 2, 1) := by decide +kernel
theorem dX6_valueOf_17 : decode cX6_valueOf 17 = .ok (.iaload, 1) := by decide +kernel
theorem dX6_valueOf_18 : decode cX6_valueOf 18 = .ok (.iconst 2, 1) := by decide +kernel
theorem dX6_valueOf_19 : decode cX6_valueOf 19 = .ok (.iadd, 1) := by decide +kernel
theorem dX6_valueOf_20 : decode cX6_valueOf 20 = .ok (.iconst 3, 1) := by decide +kernel
theorem dX6_valueOf_21 : decode cX6_valueOf 21 = .ok (.invokevirtual 94, 3) := by decide +kernel
theorem dX6_valueOf_24 : decode cX6_valueOf 24 = .ok (.aload_n 0, 1) := by decide +kernel
theorem dX6_valueOf_25 : decode cX6_valueOf 25 = .ok (.iload_n 1, 1) := by decide +kernel
theorem dX6_valueOf_26 : decode cX6_valueOf 26 = .ok (.aload_n 0, 1) := by decide +kernel
theorem dX6_valueOf_27 : decode cX6_valueOf 27 = .ok (.getfield 16, 3) := by decide +kernel
theorem dX6_valueOf_30 : decode cX6_valueOf 30 = .ok (.iload_n 2, 1) := by decide +kernel
theorem dX6_valueOf_31 : decode cX6_valueOf 31 = .ok (.iaload, 1) := by decide +kernel
theorem dX6_valueOf_32 : decode cX6_valueOf 32 = .ok (.bipush 6, 2) := by decide +kernel
theorem dX6_valueOf_34 : decode cX6_valueOf 34 = .ok (.iadd, 1) := by decide +kernel
theorem dX6_valueOf_35 : decode cX6_valueOf 35 = .ok (.invokevirtual 98, 3) := by decide +kernel
theorem dX6_valueOf_38 : decode cX6_valueOf 38 = .ok (.i2l, 1) := by decide +kernel
theorem dX6_valueOf_39 : decode cX6_valueOf 39 = .ok (.ladd, 1) := by decide +kernel
theorem dX6_valueOf_40 : decode cX6_valueOf 40 = .ok (.lreturn, 1) := by decide +kernel
theorem dX6_valueOf_41 : decode cX6_valueOf 41 = .ok (.aload_n 0, 1) := by decide +kernel
theorem dX6_valueOf_42 : decode cX6_valueOf 42 = .ok (.iload_n 1, 1) := by decide +kernel
theorem dX6_valueOf_43 : decode cX6_valueOf 43 = .ok (.aload_n 0, 1) := by decide +kernel
theorem dX6_valueOf_44 : decode cX6_valueOf 44 = .ok (.getfield 16, 3) := by decide +kernel
theorem dX6_valueOf_47 : decode cX6_valueOf 47 = .ok (.iload_n 2, 1) := by decide +kernel
theorem dX6_valueOf_48 : decode cX6_valueOf 48 = .ok (.iaload, 1) := by decide +kernel
theorem dX6_valueOf_49 : decode cX6_valueOf 49 = .ok (.iconst 1, 1) := by decide +kernel
theorem dX6_valueOf_50 : decode cX6_valueOf 50 = .ok (.iadd, 1) := by decide +kernel
theorem dX6_valueOf_51 : decode cX6_valueOf 51 = .ok (.invokevirtual 51, 3) := by decide +kernel
theorem dX6_valueOf_54 : decode cX6_valueOf 54 = .ok (.bipush 16, 2) := by decide +kernel
theorem dX6_valueOf_56 : decode cX6_valueOf 56 = .ok (.irem, 1) := by decide +kernel
theorem dX6_valueOf_57 : decode cX6_valueOf 57 = .ok (.istore_n 3, 1) := by decide +kernel
theorem dX6_valueOf_58 : decode cX6_valueOf 58 = .ok (.iload_n 3, 1) := by decide +kernel
theorem dX6_valueOf_59 : decode cX6_valueOf 59 = .ok (.ifCond .ne 9, 3) := by decide +kernel
theorem dX6_valueOf_62 : decode cX6_valueOf 62 = .ok (.ldc2_w 101, 3) := by decide +kernel
theorem dX6_valueOf_65 : decode cX6_valueOf 65 = .ok (.goto 17, 3) := by decide +kernel
theorem dX6_valueOf_68 : decode cX6_valueOf 68 = .ok (.aload_n 0, 1) := by decide +kernel
theorem dX6_valueOf_69 : decode cX6_valueOf 69 = .ok (.iload_n 1, 1) := by decide +kernel
theorem dX6_valueOf_70 : decode cX6_valueOf 70 = .ok (.aload_n 0, 1) := by decide +kernel
theorem dX6_valueOf_71 : decode cX6_valueOf 71 = .ok (.getfield 16, 3) := by decide +kernel
theorem dX6_valueOf_74 : decode cX6_valueOf 74 = .ok (.iload_n 2, 1) := by decide +kernel
theorem dX6_valueOf_75 : decode cX6_valueOf 75 = .ok (.iaload, 1) := by decide +kernel
theorem dX6_valueOf_76 : decode cX6_valueOf 76 = .ok (.iconst 2, 1) := by decide +kernel
theorem dX6_valueOf_77 : decode cX6_valueOf 77 = .ok (.iadd, 1) := by decide +kernel
theorem dX6_valueOf_78 : decode cX6_valueOf 78 = .ok (.iload_n 3, 1) := by decide +kernel
theorem dX6_valueOf_79 : decode cX6_valueOf 79 = .ok (.invokevirtual 94, 3) := by decide +kernel
theorem dX6_valueOf_82 : decode cX6_valueOf 82 = .ok (.lreturn, 1) := by decide +kernel
theorem dX6_lengthOf_0 : decode cX6_lengthOf 0 = .ok (.aload_n 0, 1) := by decide +kernel
theorem dX6_lengthOf_1 : decode cX6_lengthOf 1 = .ok (.getfield 19, 3) := by decide +kernel
theorem dX6_lengthOf_4 : decode cX6_lengthOf 4 = .ok (.iload_n 2, 1) := by decide +kernel
theorem dX6_lengthOf_5 : decode cX6_lengthOf 5 = .ok (.iaload, 1) := by decide +kernel
theorem dX6_lengthOf_6 : decode cX6_lengthOf 6 = .ok (.iconst 1, 1) := by decide +kernel
theorem dX6_lengthOf_7 : decode cX6_lengthOf 7 = .ok (.if_icmp .ne 7, 3) := by decide +kernel
theorem dX6_lengthOf_10 : decode cX6_lengthOf 10 = .ok (.iconst 3, 1) := by decide +kernel
theorem dX6_lengthOf_11 : decode cX6_lengthOf 11 = .ok (.goto 19, 3) := by decide +kernel
theorem dX6_lengthOf_14 : decode cX6_lengthOf 14 = .ok (.aload_n 0, 1) := by decide +kernel
theorem dX6_lengthOf_15 : decode cX6_lengthOf 15 = .ok (.iload_n 1, 1) := by decide +kernel
theorem dX6_lengthOf_16 : decode cX6_lengthOf 16 = .ok (.aload_n 0, 1) := by decide +kernel
theorem dX6_lengthOf_17 : decode cX6_lengthOf 17 = .ok (.getfield 16, 3) := by decide +kernel
theorem dX6_lengthOf_20 : decode cX6_lengthOf 20 = .ok (.iload_n 2, 1) := by decide +kernel
theorem dX6_lengthOf_21 : decode cX6_lengthOf 21 = .ok (.iaload, 1) := by decide +kernel
theorem dX6_lengthOf_22 : decode cX6_lengthOf 22 = .ok (.iconst 1, 1) := by decide +kernel
theorem dX6_lengthOf_23 : decode cX6_lengthOf 23 = .ok (.iadd, 1) := by decide +kernel
theorem dX6_lengthOf_24 : decode cX6_lengthOf 24 = .ok (.invokevirtual 51, 3) := by decide +kernel
theorem dX6_lengthOf_27 : decode cX6_lengthOf 27 = .ok (.bipush 16, 2) := by decide +kernel
theorem dX6_lengthOf_29 : decode cX6_lengthOf 29 = .ok (.irem, 1) := by decide +kernel
theorem dX6_lengthOf_30 : decode cX6_lengthOf 30 = .ok (.ireturn, 1) := by decide +kernel
theorem dX6_hasValue_0 : decode cX6_hasValue 0 = .ok (.aload_n 0, 1) := by decide +kernel
theorem dX6_hasValue_1 : decode cX6_hasValue 1 = .ok (.getfield 28, 3) := by decide +kernel
theorem dX6_hasValue_4 : decode cX6_hasValue 4 = .ok (.iload_n 2, 1) := by decide +kernel
theorem dX6_hasValue_5 : decode cX6_hasValue 5 = .ok (.iaload, 1) := by decide +kernel
theorem dX6_hasValue_6 : decode cX6_hasValue 6 = .ok (.ifCond .lt 21, 3) := by decide +kernel
theorem dX6_hasValue_9 : decode cX6_hasValue 9 = .ok (.aload_n 0, 1) := by decide +kernel
theorem dX6_hasValue_10 : decode cX6_hasValue 10 = .ok (.iload_n 1, 1) := by decide +kernel
theorem dX6_hasValue_11 : decode cX6_hasValue 11 = .ok (.aload_n 0, 1) := by decide +kernel
theorem dX6_hasValue_12 : decode cX6_hasValue 12 = .ok (.getfield 28, 3) := by decide +kernel
theorem dX6_hasValue_15 : decode cX6_hasValue 15 = .ok (.iload_n 2, 1) := by decide +kernel
theorem dX6_hasValue_16 : decode cX6_hasValue 16 = .ok (.iaload, 1) := by decide +kernel
theorem dX6_hasValue_17 : decode cX6_hasValue 17 = .ok (.invokevirtual 103, 3) := by decide +kernel
theorem dX6_hasValue_20 : decode cX6_hasValue 20 = .ok (.ifCond .le 7, 3) := by decide +kernel
theorem dX6_hasValue_23 : decode cX6_hasValue 23 = .ok (.iconst 1, 1) := by decide +kernel
theorem dX6_hasValue_24 : decode cX6_hasValue 24 = .ok (.goto 4, 3) := by decide +kernel
theorem dX6_hasValue_27 : decode cX6_hasValue 27 = .ok (.iconst 0, 1) := by decide +kernel
theorem dX6_hasValue_28 : decode cX6_hasValue 28 = .ok (.ireturn, 1) := by decide +kernel
theorem dX6_valued_0 : decode cX6_valued 0 = .ok (.iconst 0, 1) := by decide +kernel
theorem dX6_valued_1 : decode cX6_valued 1 = .ok (.istore_n 2, 1) := by decide +kernel
theorem dX6_valued_2 : decode cX6_valued 2 = .ok (.iconst 0, 1) := by decide +kernel
theorem dX6_valued_3 : decode cX6_valued 3 = .ok (.istore_n 3, 1) := by decide +kernel
theorem dX6_valued_4 : decode cX6_valued 4 = .ok (.iload_n 3, 1) := by decide +kernel
theorem dX6_valued_5 : decode cX6_valued 5 = .ok (.bipush 48, 2) := by decide +kernel
theorem dX6_valued_7 : decode cX6_valued 7 = .ok (.if_icmp .ge 21, 3) := by decide +kernel
theorem dX6_valued_10 : decode cX6_valued 10 = .ok (.aload_n 0, 1) := by decide +kernel
theorem dX6_valued_11 : decode cX6_valued 11 = .ok (.iload_n 1, 1) := by decide +kernel
theorem dX6_valued_12 : decode cX6_valued 12 = .ok (.iload_n 3, 1) := by decide +kernel
theorem dX6_valued_13 : decode cX6_valued 13 = .ok (.invokevirtual 106, 3) := by decide +kernel
theorem dX6_valued_16 : decode cX6_valued 16 = .ok (.ifCond .eq 6, 3) := by decide +kernel
theorem dX6_valued_19 : decode cX6_valued 19 = .ok (.iinc 2 1, 3) := by decide +kernel
theorem dX6_valued_22 : decode cX6_valued 22 = .ok (.iinc 3 1, 3) := by decide +kernel
theorem dX6_valued_25 : decode cX6_valued 25 = .ok (.goto (-21), 3) := by decide +kernel
theorem dX6_valued_28 : decode cX6_valued 28 = .ok (.iload_n 2, 1) := by decide +kernel
theorem dX6_valued_29 : decode cX6_valued 29 = .ok (.ireturn, 1) := by decide +kernel
theorem dX6_leastErased_0 : decode cX6_leastErased 0 = .ok (.iconst (-1), 1) := by decide +kernel
theorem dX6_leastErased_1 : decode cX6_leastErased 1 = .ok (.istore_n 2, 1) := by decide +kernel
theorem dX6_leastErased_2 : decode cX6_leastErased 2 = .ok (.iconst 0, 1) := by decide +kernel
theorem dX6_leastErased_3 : decode cX6_leastErased 3 = .ok (.istore_n 3, 1) := by decide +kernel
theorem dX6_leastErased_4 : decode cX6_leastErased 4 = .ok (.iload_n 3, 1) := by decide +kernel
theorem dX6_leastErased_5 : decode cX6_leastErased 5 = .ok (.aload_n 0, 1) := by decide +kernel
theorem dX6_leastErased_6 : decode cX6_leastErased 6 = .ok (.getfield 7, 3) := by decide +kernel
theorem dX6_leastErased_9 : decode cX6_leastErased 9 = .ok (.iconst 0, 1) := by decide +kernel
theorem dX6_leastErased_10 : decode cX6_leastErased 10 = .ok (.iaload, 1) := by decide +kernel
theorem dX6_leastErased_11 : decode cX6_leastErased 11 = .ok (.if_icmp .ge 41, 3) := by decide +kernel
theorem dX6_leastErased_14 : decode cX6_leastErased 14 = .ok (.iload_n 3, 1) := by decide +kernel
theorem dX6_leastErased_15 : decode cX6_leastErased 15 = .ok (.iload_n 1, 1) := by decide +kernel
theorem dX6_leastErased_16 : decode cX6_leastErased 16 = .ok (.if_icmp .eq 30, 3) := by decide +kernel
theorem dX6_leastErased_19 : decode cX6_leastErased 19 = .ok (.iload_n 2, 1) := by decide +kernel
theorem dX6_leastErased_20 : decode cX6_leastErased 20 = .ok (.ifCond .lt 24, 3) := by decide +kernel
theorem dX6_leastErased_23 : decode cX6_leastErased 23 = .ok (.aload_n 0, 1) := by decide +kernel
theorem dX6_leastErased_24 : decode cX6_leastErased 24 = .ok (.getfield 7, 3) := by decide +kernel
theorem dX6_leastErased_27 : decode cX6_leastErased 27 = .ok (.bipush 36, 2) := by decide +kernel
theorem dX6_leastErased_29 : decode cX6_leastErased 29 = .ok (.iload_n 3, 1) := by decide +kernel
theorem dX6_leastErased_30 : decode cX6_leastErased 30 = .ok (.iadd, 1) := by decide +kernel
theorem dX6_leastErased_31 : decode cX6_leastErased 31 = .ok (.iaload, 1) := by decide +kernel
theorem dX6_leastErased_32 : decode cX6_leastErased 32 = .ok (.aload_n 0, 1) := by decide +kernel
theorem dX6_leastErased_33 : decode cX6_leastErased 33 = .ok (.getfield 7, 3) := by decide +kernel
theorem dX6_leastErased_36 : decode cX6_leastErased 36 = .ok (.bipush 36, 2) := by decide +kernel
theorem dX6_leastErased_38 : decode cX6_leastErased 38 = .ok (.iload_n 2, 1) := by decide +kernel
theorem dX6_leastErased_39 : decode cX6_leastErased 39 = .ok (.iadd, 1) := by decide +kernel
theorem dX6_leastErased_40 : decode cX6_leastErased 40 = .ok (.iaload, 1) := by decide +kernel
theorem dX6_leastErased_41 : decode cX6_leastErased 41 = .ok (.if_icmp .ge 5, 3) := by decide +kernel
theorem dX6_leastErased_44 : decode cX6_leastErased 44 = .ok (.iload_n 3, 1) := by decide +kernel
theorem dX6_leastErased_45 : decode cX6_leastErased 45 = .ok (.istore_n 2, 1) := by decide +kernel
theorem dX6_leastErased_46 : decode cX6_leastErased 46 = .ok (.iinc 3 1, 3) := by decide +kernel
theorem dX6_leastErased_49 : decode cX6_leastErased 49 = .ok (.goto (-45), 3) := by decide +kernel
theorem dX6_leastErased_52 : decode cX6_leastErased 52 = .ok (.iload_n 2, 1) := by decide +kernel
theorem dX6_leastErased_53 : decode cX6_leastErased 53 = .ok (.ireturn, 1) := by decide +kernel
theorem dX6_numberOf_0 : decode cX6_numberOf 0 = .ok (.sipush 256, 3) := by decide +kernel
theorem dX6_numberOf_3 : decode cX6_numberOf 3 = .ok (.aload_n 0, 1) := by decide +kernel
theorem dX6_numberOf_4 : decode cX6_numberOf 4 = .ok (.iload_n 1, 1) := by decide +kernel
theorem dX6_numberOf_5 : decode cX6_numberOf 5 = .ok (.iconst 1, 1) := by decide +kernel
theorem dX6_numberOf_6 : decode cX6_numberOf 6 = .ok (.invokevirtual 51, 3) := by decide +kernel
theorem dX6_numberOf_9 : decode cX6_numberOf 9 = .ok (.imul, 1) := by decide +kernel
theorem dX6_numberOf_10 : decode cX6_numberOf 10 = .ok (.aload_n 0, 1) := by decide +kernel
theorem dX6_numberOf_11 : decode cX6_numberOf 11 = .ok (.iload_n 1, 1) := by decide +kernel
theorem dX6_numberOf_12 : decode cX6_numberOf 12 = .ok (.iconst 2, 1) := by decide +kernel
theorem dX6_numberOf_13 : decode cX6_numberOf 13 = .ok (.invokevirtual 51, 3) := by decide +kernel
theorem dX6_numberOf_16 : decode cX6_numberOf 16 = .ok (.iadd, 1) := by decide +kernel
theorem dX6_numberOf_17 : decode cX6_numberOf 17 = .ok (.ireturn, 1) := by decide +kernel
theorem dX6_makesReady_0 : decode cX6_makesReady 0 = .ok (.iload_n 2, 1) := by decide +kernel
theorem dX6_makesReady_1 : decode cX6_makesReady 1 = .ok (.sipush 256, 3) := by decide +kernel
theorem dX6_makesReady_4 : decode cX6_makesReady 4 = .ok (.idiv, 1) := by decide +kernel
theorem dX6_makesReady_5 : decode cX6_makesReady 5 = .ok (.istore_n 3, 1) := by decide +kernel
theorem dX6_makesReady_6 : decode cX6_makesReady 6 = .ok (.iload_n 2, 1) := by decide +kernel
theorem dX6_makesReady_7 : decode cX6_makesReady 7 = .ok (.sipush 256, 3) := by decide +kernel
theorem dX6_makesReady_10 : decode cX6_makesReady 10 = .ok (.irem, 1) := by decide +kernel
theorem dX6_makesReady_11 : decode cX6_makesReady 11 = .ok (.istore 4, 2) := by decide +kernel
theorem dX6_makesReady_13 : decode cX6_makesReady 13 = .ok (.aload_n 0, 1) := by decide +kernel
theorem dX6_makesReady_14 : decode cX6_makesReady 14 = .ok (.iload_n 1, 1) := by decide +kernel
theorem dX6_makesReady_15 : decode cX6_makesReady 15 = .ok (.iconst 1, 1) := by decide +kernel
theorem dX6_makesReady_16 : decode cX6_makesReady 16 = .ok (.iload_n 3, 1) := by decide +kernel
theorem dX6_makesReady_17 : decode cX6_makesReady 17 = .ok (.invokevirtual 109, 3) := by decide +kernel
theorem dX6_makesReady_20 : decode cX6_makesReady 20 = .ok (.aload_n 0, 1) := by decide +kernel
theorem dX6_makesReady_21 : decode cX6_makesReady 21 = .ok (.iload_n 1, 1) := by decide +kernel
theorem dX6_makesReady_22 : decode cX6_makesReady 22 = .ok (.iconst 2, 1) := by decide +kernel
theorem dX6_makesReady_23 : decode cX6_makesReady 23 = .ok (.iload 4, 2) := by decide +kernel
theorem dX6_makesReady_25 : decode cX6_makesReady 25 = .ok (.invokevirtual 109, 3) := by decide +kernel
theorem dX6_makesReady_28 : decode cX6_makesReady 28 = .ok (.aload_n 0, 1) := by decide +kernel
theorem dX6_makesReady_29 : decode cX6_makesReady 29 = .ok (.iload_n 1, 1) := by decide +kernel
theorem dX6_makesReady_30 : decode cX6_makesReady 30 = .ok (.iconst 3, 1) := by decide +kernel
theorem dX6_makesReady_31 : decode cX6_makesReady 31 = .ok (.iload_n 3, 1) := by decide +kernel
theorem dX6_makesReady_32 : decode cX6_makesReady 32 = .ok (.iload 4, 2) := by decide +kernel
theorem dX6_makesReady_34 : decode cX6_makesReady 34 = .ok (.iadd, 1) := by decide +kernel
theorem dX6_makesReady_35 : decode cX6_makesReady 35 = .ok (.invokestatic 79, 3) := by decide +kernel
theorem dX6_makesReady_38 : decode cX6_makesReady 38 = .ok (.invokevirtual 109, 3) := by decide +kernel
theorem dX6_makesReady_41 : decode cX6_makesReady 41 = .ok (.aload_n 0, 1) := by decide +kernel
theorem dX6_makesReady_42 : decode cX6_makesReady 42 = .ok (.iload_n 1, 1) := by decide +kernel
theorem dX6_makesReady_43 : decode cX6_makesReady 43 = .ok (.iconst 0, 1) := by decide +kernel
theorem dX6_makesReady_44 : decode cX6_makesReady 44 = .ok (.bipush 127, 2) := by decide +kernel
theorem dX6_makesReady_46 : decode cX6_makesReady 46 = .ok (.invokevirtual 109, 3) := by decide +kernel
theorem dX6_makesReady_49 : decode cX6_makesReady 49 = .ok (.return_, 1) := by decide +kernel
theorem dX6_erasesOthers_0 : decode cX6_erasesOthers 0 = .ok (.iconst 0, 1) := by decide +kernel
theorem dX6_erasesOthers_1 : decode cX6_erasesOthers 1 = .ok (.istore_n 2, 1) := by decide +kernel
theorem dX6_erasesOthers_2 : decode cX6_erasesOthers 2 = .ok (.iload_n 2, 1) := by decide +kernel
theorem dX6_erasesOthers_3 : decode cX6_erasesOthers 3 = .ok (.aload_n 0, 1) := by decide +kernel
theorem dX6_erasesOthers_4 : decode cX6_erasesOthers 4 = .ok (.getfield 7, 3) := by decide +kernel
theorem dX6_erasesOthers_7 : decode cX6_erasesOthers 7 = .ok (.iconst 0, 1) := by decide +kernel
theorem dX6_erasesOthers_8 : decode cX6_erasesOthers 8 = .ok (.iaload, 1) := by decide +kernel
theorem dX6_erasesOthers_9 : decode cX6_erasesOthers 9 = .ok (.if_icmp .ge 28, 3) := by decide +kernel
theorem dX6_erasesOthers_12 : decode cX6_erasesOthers 12 = .ok (.iload_n 2, 1) := by decide +kernel
theorem dX6_erasesOthers_13 : decode cX6_erasesOthers 13 = .ok (.iload_n 1, 1) := by decide +kernel
theorem dX6_erasesOthers_14 : decode cX6_erasesOthers 14 = .ok (.if_icmp .eq 17, 3) := by decide +kernel
theorem dX6_erasesOthers_17 : decode cX6_erasesOthers 17 = .ok (.aload_n 0, 1) := by decide +kernel
theorem dX6_erasesOthers_18 : decode cX6_erasesOthers 18 = .ok (.iload_n 2, 1) := by decide +kernel
theorem dX6_erasesOthers_19 : decode cX6_erasesOthers 19 = .ok (.iconst 0, 1) := by decide +kernel
theorem dX6_erasesOthers_20 : decode cX6_erasesOthers 20 = .ok (.invokevirtual 61, 3) := by decide +kernel
theorem dX6_erasesOthers_23 : decode cX6_erasesOthers 23 = .ok (.ifCond .ne 8, 3) := by decide +kernel
theorem dX6_erasesOthers_26 : decode cX6_erasesOthers 26 = .ok (.aload_n 0, 1) := by decide +kernel
theorem dX6_erasesOthers_27 : decode cX6_erasesOthers 27 = .ok (.iload_n 2, 1) := by decide +kernel
theorem dX6_erasesOthers_28 : decode cX6_erasesOthers 28 = .ok (.invokevirtual 113, 3) := by decide +kernel
theorem dX6_erasesOthers_31 : decode cX6_erasesOthers 31 = .ok (.iinc 2 1, 3) := by decide +kernel
theorem dX6_erasesOthers_34 : decode cX6_erasesOthers 34 = .ok (.goto (-32), 3) := by decide +kernel
theorem dX6_erasesOthers_37 : decode cX6_erasesOthers 37 = .ok (.return_, 1) := by decide +kernel
theorem dX6_found_0 : decode cX6_found 0 = .ok (.iconst (-1), 1) := by decide +kernel
theorem dX6_found_1 : decode cX6_found 1 = .ok (.istore_n 1, 1) := by decide +kernel
theorem dX6_found_2 : decode cX6_found 2 = .ok (.iconst 0, 1) := by decide +kernel
theorem dX6_found_3 : decode cX6_found 3 = .ok (.istore_n 2, 1) := by decide +kernel
theorem dX6_found_4 : decode cX6_found 4 = .ok (.iload_n 2, 1) := by decide +kernel
theorem dX6_found_5 : decode cX6_found 5 = .ok (.aload_n 0, 1) := by decide +kernel
theorem dX6_found_6 : decode cX6_found 6 = .ok (.getfield 7, 3) := by decide +kernel
theorem dX6_found_9 : decode cX6_found 9 = .ok (.iconst 0, 1) := by decide +kernel
theorem dX6_found_10 : decode cX6_found 10 = .ok (.iaload, 1) := by decide +kernel
theorem dX6_found_11 : decode cX6_found 11 = .ok (.if_icmp .ge 67, 3) := by decide +kernel
theorem dX6_found_14 : decode cX6_found 14 = .ok (.aload_n 0, 1) := by decide +kernel
theorem dX6_found_15 : decode cX6_found 15 = .ok (.iload_n 2, 1) := by decide +kernel
theorem dX6_found_16 : decode cX6_found 16 = .ok (.iconst 0, 1) := by decide +kernel
theorem dX6_found_17 : decode cX6_found 17 = .ok (.invokevirtual 51, 3) := by decide +kernel
theorem dX6_found_20 : decode cX6_found 20 = .ok (.bipush 63, 2) := by decide +kernel
theorem dX6_found_22 : decode cX6_found 22 = .ok (.if_icmp .ne 50, 3) := by decide +kernel
theorem dX6_found_25 : decode cX6_found 25 = .ok (.aload_n 0, 1) := by decide +kernel
theorem dX6_found_26 : decode cX6_found 26 = .ok (.iload_n 2, 1) := by decide +kernel
theorem dX6_found_27 : decode cX6_found 27 = .ok (.iconst 1, 1) := by decide +kernel
theorem dX6_found_28 : decode cX6_found 28 = .ok (.invokevirtual 51, 3) := by decide +kernel
theorem dX6_found_31 : decode cX6_found 31 = .ok (.aload_n 0, 1) := by decide +kernel
theorem dX6_found_32 : decode cX6_found 32 = .ok (.iload_n 2, 1) := by decide +kernel
theorem dX6_found_33 : decode cX6_found 33 = .ok (.iconst 2, 1) := by decide +kernel
theorem dX6_found_34 : decode cX6_found 34 = .ok (.invokevirtual 51, 3) := by decide +kernel
theorem dX6_found_37 : decode cX6_found 37 = .ok (.iadd, 1) := by decide +kernel
theorem dX6_found_38 : decode cX6_found 38 = .ok (.invokestatic 79, 3) := by decide +kernel
theorem dX6_found_41 : decode cX6_found 41 = .ok (.aload_n 0, 1) := by decide +kernel
theorem dX6_found_42 : decode cX6_found 42 = .ok (.iload_n 2, 1) := by decide +kernel
theorem dX6_found_43 : decode cX6_found 43 = .ok (.iconst 3, 1) := by decide +kernel
theorem dX6_found_44 : decode cX6_found 44 = .ok (.invokevirtual 51, 3) := by decide +kernel
theorem dX6_found_47 : decode cX6_found 47 = .ok (.if_icmp .eq 6, 3) := by decide +kernel
theorem dX6_found_50 : decode cX6_found 50 = .ok (.goto 22, 3) := by decide +kernel
theorem dX6_found_53 : decode cX6_found 53 = .ok (.iload_n 1, 1) := by decide +kernel
theorem dX6_found_54 : decode cX6_found 54 = .ok (.ifCond .lt 16, 3) := by decide +kernel
theorem dX6_found_57 : decode cX6_found 57 = .ok (.aload_n 0, 1) := by decide +kernel
theorem dX6_found_58 : decode cX6_found 58 = .ok (.iload_n 2, 1) := by decide +kernel
theorem dX6_found_59 : decode cX6_found 59 = .ok (.invokevirtual 116, 3) := by decide +kernel
theorem dX6_found_62 : decode cX6_found 62 = .ok (.aload_n 0, 1) := by decide +kernel
theorem dX6_found_63 : decode cX6_found 63 = .ok (.iload_n 1, 1) := by decide +kernel
theorem dX6_found_64 : decode cX6_found 64 = .ok (.invokevirtual 116, 3) := by decide +kernel
theorem dX6_found_67 : decode cX6_found 67 = .ok (.if_icmp .le 5, 3) := by decide +kernel
theorem dX6_found_70 : decode cX6_found 70 = .ok (.iload_n 2, 1) := by decide +kernel
theorem dX6_found_71 : decode cX6_found 71 = .ok (.istore_n 1, 1) := by decide +kernel
theorem dX6_found_72 : decode cX6_found 72 = .ok (.iinc 2 1, 3) := by decide +kernel
theorem dX6_found_75 : decode cX6_found 75 = .ok (.goto (-71), 3) := by decide +kernel
theorem dX6_found_78 : decode cX6_found 78 = .ok (.iload_n 1, 1) := by decide +kernel
theorem dX6_found_79 : decode cX6_found 79 = .ok (.ireturn, 1) := by decide +kernel
theorem dX6_switchesOn_0 : decode cX6_switchesOn 0 = .ok (.aload_n 0, 1) := by decide +kernel
theorem dX6_switchesOn_1 : decode cX6_switchesOn 1 = .ok (.invokevirtual 119, 3) := by decide +kernel
theorem dX6_switchesOn_4 : decode cX6_switchesOn 4 = .ok (.istore_n 1, 1) := by decide +kernel
theorem dX6_switchesOn_5 : decode cX6_switchesOn 5 = .ok (.aload_n 0, 1) := by decide +kernel
theorem dX6_switchesOn_6 : decode cX6_switchesOn 6 = .ok (.iload_n 1, 1) := by decide +kernel
theorem dX6_switchesOn_7 : decode cX6_switchesOn 7 = .ok (.invokevirtual 123, 3) := by decide +kernel
theorem dX6_switchesOn_10 : decode cX6_switchesOn 10 = .ok (.iload_n 1, 1) := by decide +kernel
theorem dX6_switchesOn_11 : decode cX6_switchesOn 11 = .ok (.ifCond .ge 23, 3) := by decide +kernel
theorem dX6_switchesOn_14 : decode cX6_switchesOn 14 = .ok (.aload_n 0, 1) := by decide +kernel
theorem dX6_switchesOn_15 : decode cX6_switchesOn 15 = .ok (.iconst (-1), 1) := by decide +kernel
theorem dX6_switchesOn_16 : decode cX6_switchesOn 16 = .ok (.invokevirtual 126, 3) := by decide +kernel
theorem dX6_switchesOn_19 : decode cX6_switchesOn 19 = .ok (.istore_n 1, 1) := by decide +kernel
theorem dX6_switchesOn_20 : decode cX6_switchesOn 20 = .ok (.aload_n 0, 1) := by decide +kernel
theorem dX6_switchesOn_21 : decode cX6_switchesOn 21 = .ok (.iload_n 1, 1) := by decide +kernel
theorem dX6_switchesOn_22 : decode cX6_switchesOn 22 = .ok (.iconst 1, 1) := by decide +kernel
theorem dX6_switchesOn_23 : decode cX6_switchesOn 23 = .ok (.invokevirtual 129, 3) := by decide +kernel
theorem dX6_switchesOn_26 : decode cX6_switchesOn 26 = .ok (.aload_n 0, 1) := by decide +kernel
theorem dX6_switchesOn_27 : decode cX6_switchesOn 27 = .ok (.iload_n 1, 1) := by decide +kernel
theorem dX6_switchesOn_28 : decode cX6_switchesOn 28 = .ok (.iconst 0, 1) := by decide +kernel
theorem dX6_switchesOn_29 : decode cX6_switchesOn 29 = .ok (.bipush 63, 2) := by decide +kernel
theorem dX6_switchesOn_31 : decode cX6_switchesOn 31 = .ok (.invokevirtual 109, 3) := by decide +kernel
theorem dX6_switchesOn_34 : decode cX6_switchesOn 34 = .ok (.aload_n 0, 1) := by decide +kernel
theorem dX6_switchesOn_35 : decode cX6_switchesOn 35 = .ok (.getfield 43, 3) := by decide +kernel
theorem dX6_switchesOn_38 : decode cX6_switchesOn 38 = .ok (.ifCond .eq 4, 3) := by decide +kernel
theorem dX6_switchesOn_41 : decode cX6_switchesOn 41 = .ok (.return_, 1) := by decide +kernel
theorem dX6_switchesOn_42 : decode cX6_switchesOn 42 = .ok (.aload_n 0, 1) := by decide +kernel
theorem dX6_switchesOn_43 : decode cX6_switchesOn 43 = .ok (.getfield 7, 3) := by decide +kernel
theorem dX6_switchesOn_46 : decode cX6_switchesOn 46 = .ok (.iconst 2, 1) := by decide +kernel
theorem dX6_switchesOn_47 : decode cX6_switchesOn 47 = .ok (.iconst 1, 1) := by decide +kernel
theorem dX6_switchesOn_48 : decode cX6_switchesOn 48 = .ok (.iastore, 1) := by decide +kernel
theorem dX6_switchesOn_49 : decode cX6_switchesOn 49 = .ok (.aload_n 0, 1) := by decide +kernel
theorem dX6_switchesOn_50 : decode cX6_switchesOn 50 = .ok (.getfield 7, 3) := by decide +kernel
theorem dX6_switchesOn_53 : decode cX6_switchesOn 53 = .ok (.iconst 3, 1) := by decide +kernel
theorem dX6_switchesOn_54 : decode cX6_switchesOn 54 = .ok (.iload_n 1, 1) := by decide +kernel
theorem dX6_switchesOn_55 : decode cX6_switchesOn 55 = .ok (.iastore, 1) := by decide +kernel
theorem dX6_switchesOn_56 : decode cX6_switchesOn 56 = .ok (.return_, 1) := by decide +kernel
theorem dX6_on_0 : decode cX6_on 0 = .ok (.aload_n 0, 1) := by decide +kernel
theorem dX6_on_1 : decode cX6_on 1 = .ok (.iconst 0, 1) := by decide +kernel
theorem dX6_on_2 : decode cX6_on 2 = .ok (.putfield 35, 3) := by decide +kernel
theorem dX6_on_5 : decode cX6_on 5 = .ok (.aload_n 0, 1) := by decide +kernel
theorem dX6_on_6 : decode cX6_on 6 = .ok (.invokevirtual 132, 3) := by decide +kernel
theorem dX6_on_9 : decode cX6_on 9 = .ok (.ifCond .eq 5, 3) := by decide +kernel
theorem dX6_on_12 : decode cX6_on 12 = .ok (.iconst (-1), 1) := by decide +kernel
theorem dX6_on_13 : decode cX6_on 13 = .ok (.ireturn, 1) := by decide +kernel
theorem dX6_on_14 : decode cX6_on 14 = .ok (.aload_n 0, 1) := by decide +kernel
theorem dX6_on_15 : decode cX6_on 15 = .ok (.invokevirtual 135, 3) := by decide +kernel
theorem dX6_on_18 : decode cX6_on 18 = .ok (.aload_n 0, 1) := by decide +kernel
theorem dX6_on_19 : decode cX6_on 19 = .ok (.invokevirtual 138, 3) := by decide +kernel
theorem dX6_on_22 : decode cX6_on 22 = .ok (.aload_n 0, 1) := by decide +kernel
theorem dX6_on_23 : decode cX6_on 23 = .ok (.getfield 43, 3) := by decide +kernel
theorem dX6_on_26 : decode cX6_on 26 = .ok (.ifCond .eq 6, 3) := by decide +kernel
theorem dX6_on_29 : decode cX6_on 29 = .ok (.bipush (-3), 2) := by decide +kernel
theorem dX6_on_31 : decode cX6_on 31 = .ok (.ireturn, 1) := by decide +kernel
theorem dX6_on_32 : decode cX6_on 32 = .ok (.aload_n 0, 1) := by decide +kernel
theorem dX6_on_33 : decode cX6_on 33 = .ok (.aload_n 0, 1) := by decide +kernel
theorem dX6_on_34 : decode cX6_on 34 = .ok (.getfield 7, 3) := by decide +kernel
theorem dX6_on_37 : decode cX6_on 37 = .ok (.iconst 3, 1) := by decide +kernel
theorem dX6_on_38 : decode cX6_on 38 = .ok (.iaload, 1) := by decide +kernel
theorem dX6_on_39 : decode cX6_on 39 = .ok (.invokevirtual 141, 3) := by decide +kernel
theorem dX6_on_42 : decode cX6_on 42 = .ok (.aload_n 0, 1) := by decide +kernel
theorem dX6_on_43 : decode cX6_on 43 = .ok (.aload_n 0, 1) := by decide +kernel
theorem dX6_on_44 : decode cX6_on 44 = .ok (.getfield 7, 3) := by decide +kernel
theorem dX6_on_47 : decode cX6_on 47 = .ok (.iconst 3, 1) := by decide +kernel
theorem dX6_on_48 : decode cX6_on 48 = .ok (.iaload, 1) := by decide +kernel
theorem dX6_on_49 : decode cX6_on 49 = .ok (.invokevirtual 144, 3) := by decide +kernel
theorem dX6_on_52 : decode cX6_on 52 = .ok (.ireturn, 1) := by decide +kernel
theorem dX6_off_0 : decode cX6_off 0 = .ok (.aload_n 0, 1) := by decide +kernel
theorem dX6_off_1 : decode cX6_off 1 = .ok (.iconst 0, 1) := by decide +kernel
theorem dX6_off_2 : decode cX6_off 2 = .ok (.putfield 35, 3) := by decide +kernel
theorem dX6_off_5 : decode cX6_off 5 = .ok (.aload_n 0, 1) := by decide +kernel
theorem dX6_off_6 : decode cX6_off 6 = .ok (.invokevirtual 132, 3) := by decide +kernel
theorem dX6_off_9 : decode cX6_off 9 = .ok (.ifCond .ne 5, 3) := by decide +kernel
theorem dX6_off_12 : decode cX6_off 12 = .ok (.iconst 0, 1) := by decide +kernel
theorem dX6_off_13 : decode cX6_off 13 = .ok (.ireturn, 1) := by decide +kernel
theorem dX6_off_14 : decode cX6_off 14 = .ok (.aload_n 0, 1) := by decide +kernel
theorem dX6_off_15 : decode cX6_off 15 = .ok (.getfield 7, 3) := by decide +kernel
theorem dX6_off_18 : decode cX6_off 18 = .ok (.iconst 2, 1) := by decide +kernel
theorem dX6_off_19 : decode cX6_off 19 = .ok (.iconst 0, 1) := by decide +kernel
theorem dX6_off_20 : decode cX6_off 20 = .ok (.iastore, 1) := by decide +kernel
theorem dX6_off_21 : decode cX6_off 21 = .ok (.aload_n 0, 1) := by decide +kernel
theorem dX6_off_22 : decode cX6_off 22 = .ok (.getfield 7, 3) := by decide +kernel
theorem dX6_off_25 : decode cX6_off 25 = .ok (.bipush 10, 2) := by decide +kernel
theorem dX6_off_27 : decode cX6_off 27 = .ok (.iconst 0, 1) := by decide +kernel
theorem dX6_off_28 : decode cX6_off 28 = .ok (.iastore, 1) := by decide +kernel
theorem dX6_off_29 : decode cX6_off 29 = .ok (.iconst 1, 1) := by decide +kernel
theorem dX6_off_30 : decode cX6_off 30 = .ok (.ireturn, 1) := by decide +kernel
theorem dX6_power_0 : decode cX6_power 0 = .ok (.aload_n 0, 1) := by decide +kernel
theorem dX6_power_1 : decode cX6_power 1 = .ok (.iconst 0, 1) := by decide +kernel
theorem dX6_power_2 : decode cX6_power 2 = .ok (.putfield 35, 3) := by decide +kernel
theorem dX6_power_5 : decode cX6_power 5 = .ok (.iload_n 1, 1) := by decide +kernel
theorem dX6_power_6 : decode cX6_power 6 = .ok (.iconst 0, 1) := by decide +kernel
theorem dX6_power_7 : decode cX6_power 7 = .ok (.sipush 9999, 3) := by decide +kernel
theorem dX6_power_10 : decode cX6_power 10 = .ok (.invokestatic 39, 3) := by decide +kernel
theorem dX6_power_13 : decode cX6_power 13 = .ok (.ifCond .eq 14, 3) := by decide +kernel
theorem dX6_power_16 : decode cX6_power 16 = .ok (.iload_n 2, 1) := by decide +kernel
theorem dX6_power_17 : decode cX6_power 17 = .ok (.iconst 0, 1) := by decide +kernel
theorem dX6_power_18 : decode cX6_power 18 = .ok (.sipush 255, 3) := by decide +kernel
theorem dX6_power_21 : decode cX6_power 21 = .ok (.invokestatic 39, 3) := by decide +kernel
theorem dX6_power_24 : decode cX6_power 24 = .ok (.ifCond .ne 5, 3) := by decide +kernel
theorem dX6_power_27 : decode cX6_power 27 = .ok (.iconst 0, 1) := by decide +kernel
theorem dX6_power_28 : decode cX6_power 28 = .ok (.ireturn, 1) := by decide +kernel
theorem dX6_power_29 : decode cX6_power 29 = .ok (.aload_n 0, 1) := by decide +kernel
theorem dX6_power_30 : decode cX6_power 30 = .ok (.getfield 7, 3) := by decide +kernel
theorem dX6_power_33 : decode cX6_power 33 = .ok (.iconst 4, 1) := by decide +kernel
theorem dX6_power_34 : decode cX6_power 34 = .ok (.iload_n 1, 1) := by decide +kernel
theorem dX6_power_35 : decode cX6_power 35 = .ok (.iastore, 1) := by decide +kernel
theorem dX6_power_36 : decode cX6_power 36 = .ok (.aload_n 0, 1) := by decide +kernel
theorem dX6_power_37 : decode cX6_power 37 = .ok (.getfield 7, 3) := by decide +kernel
theorem dX6_power_40 : decode cX6_power 40 = .ok (.iconst 5, 1) := by decide +kernel
theorem dX6_power_41 : decode cX6_power 41 = .ok (.iload_n 2, 1) := by decide +kernel
theorem dX6_power_42 : decode cX6_power 42 = .ok (.iastore, 1) := by decide +kernel
theorem dX6_power_43 : decode cX6_power 43 = .ok (.iconst 1, 1) := by decide +kernel
theorem dX6_power_44 : decode cX6_power 44 = .ok (.ireturn, 1) := by decide +kernel
theorem dX6_rot_0 : decode cX6_rot 0 = .ok (.aload_n 0, 1) := by decide +kernel
theorem dX6_rot_1 : decode cX6_rot 1 = .ok (.iconst 0, 1) := by decide +kernel
theorem dX6_rot_2 : decode cX6_rot 2 = .ok (.putfield 35, 3) := by decide +kernel
theorem dX6_rot_5 : decode cX6_rot 5 = .ok (.aload_n 0, 1) := by decide +kernel
theorem dX6_rot_6 : decode cX6_rot 6 = .ok (.invokevirtual 132, 3) := by decide +kernel
theorem dX6_rot_9 : decode cX6_rot 9 = .ok (.ifCond .ne 38, 3) := by decide +kernel
theorem dX6_rot_12 : decode cX6_rot 12 = .ok (.aload_n 0, 1) := by decide +kernel
theorem dX6_rot_13 : decode cX6_rot 13 = .ok (.iload_n 1, 1) := by decide +kernel
theorem dX6_rot_14 : decode cX6_rot 14 = .ok (.invokevirtual 147, 3) := by decide +kernel
theorem dX6_rot_17 : decode cX6_rot 17 = .ok (.ifCond .eq 30, 3) := by decide +kernel
theorem dX6_rot_20 : decode cX6_rot 20 = .ok (.iload_n 2, 1) := by decide +kernel
theorem dX6_rot_21 : decode cX6_rot 21 = .ok (.iconst 0, 1) := by decide +kernel
theorem dX6_rot_22 : decode cX6_rot 22 = .ok (.aload_n 0, 1) := by decide +kernel
theorem dX6_rot_23 : decode cX6_rot 23 = .ok (.getfield 7, 3) := by decide +kernel
theorem dX6_rot_26 : decode cX6_rot 26 = .ok (.iconst 1, 1) := by decide +kernel
theorem dX6_rot_27 : decode cX6_rot 27 = .ok (.iaload, 1) := by decide +kernel
theorem dX6_rot_28 : decode cX6_rot 28 = .ok (.iconst 1, 1) := by decide +kernel
theorem dX6_rot_29 : decode cX6_rot 29 = .ok (.isub, 1) := by decide +kernel
theorem dX6_rot_30 : decode cX6_rot 30 = .ok (.invokestatic 39, 3) := by decide +kernel
theorem dX6_rot_33 : decode cX6_rot 33 = .ok (.ifCond .eq 14, 3) := by decide +kernel
theorem dX6_rot_36 : decode cX6_rot 36 = .ok (.iload_n 3, 1) := by decide +kernel
theorem dX6_rot_37 : decode cX6_rot 37 = .ok (.iconst 0, 1) := by decide +kernel
theorem dX6_rot_38 : decode cX6_rot 38 = .ok (.sipush 255, 3) := by decide +kernel
theorem dX6_rot_41 : decode cX6_rot 41 = .ok (.invokestatic 39, 3) := by decide +kernel
theorem dX6_rot_44 : decode cX6_rot 44 = .ok (.ifCond .ne 5, 3) := by decide +kernel
theorem dX6_rot_47 : decode cX6_rot 47 = .ok (.iconst (-1), 1) := by decide +kernel
theorem dX6_rot_48 : decode cX6_rot 48 = .ok (.ireturn, 1) := by decide +kernel
theorem dX6_rot_49 : decode cX6_rot 49 = .ok (.aload_n 0, 1) := by decide +kernel
theorem dX6_rot_50 : decode cX6_rot 50 = .ok (.getfield 7, 3) := by decide +kernel
theorem dX6_rot_53 : decode cX6_rot 53 = .ok (.bipush 42, 2) := by decide +kernel
theorem dX6_rot_55 : decode cX6_rot 55 = .ok (.sipush 128, 3) := by decide +kernel
theorem dX6_rot_58 : decode cX6_rot 58 = .ok (.iload_n 1, 1) := by decide +kernel
theorem dX6_rot_59 : decode cX6_rot 59 = .ok (.imul, 1) := by decide +kernel
theorem dX6_rot_60 : decode cX6_rot 60 = .ok (.iadd, 1) := by decide +kernel
end
section
theorem dX6_rot_61 : decode cX6_rot 61 = .ok (.iload_n 2, 1) := by decide +kernel
theorem dX6_rot_62 : decode cX6_rot 62 = .ok (.iadd, 1) := by decide +kernel
theorem dX6_rot_63 : decode cX6_rot 63 = .ok (.dup2, 1) := by decide +kernel
theorem dX6_rot_64 : decode cX6_rot 64 = .ok (.iaload, 1) := by decide +kernel
theorem dX6_rot_65 : decode cX6_rot 65 = .ok (.iload_n 3, 1) := by decide +kernel
theorem dX6_rot_66 : decode cX6_rot 66 = .ok (.iand, 1) := by decide +kernel
theorem dX6_rot_67 : decode cX6_rot 67 = .ok (.iastore, 1) := by decide +kernel
theorem dX6_rot_68 : decode cX6_rot 68 = .ok (.aload_n 0, 1) := by decide +kernel
theorem dX6_rot_69 : decode cX6_rot 69 = .ok (.iload_n 1, 1) := by decide +kernel
theorem dX6_rot_70 : decode cX6_rot 70 = .ok (.iload_n 2, 1) := by decide +kernel
theorem dX6_rot_71 : decode cX6_rot 71 = .ok (.invokevirtual 51, 3) := by decide +kernel
theorem dX6_rot_74 : decode cX6_rot 74 = .ok (.ireturn, 1) := by decide +kernel
theorem dX6_lays_0 : decode cX6_lays 0 = .ok (.aload_n 0, 1) := by decide +kernel
theorem dX6_lays_1 : decode cX6_lays 1 = .ok (.aload_n 0, 1) := by decide +kernel
theorem dX6_lays_2 : decode cX6_lays 2 = .ok (.getfield 151, 3) := by decide +kernel
theorem dX6_lays_5 : decode cX6_lays 5 = .ok (.aload_n 0, 1) := by decide +kernel
theorem dX6_lays_6 : decode cX6_lays 6 = .ok (.getfield 154, 3) := by decide +kernel
theorem dX6_lays_9 : decode cX6_lays 9 = .ok (.iload_n 1, 1) := by decide +kernel
theorem dX6_lays_10 : decode cX6_lays 10 = .ok (.invokevirtual 109, 3) := by decide +kernel
theorem dX6_lays_13 : decode cX6_lays 13 = .ok (.aload_n 0, 1) := by decide +kernel
theorem dX6_lays_14 : decode cX6_lays 14 = .ok (.dup, 1) := by decide +kernel
theorem dX6_lays_15 : decode cX6_lays 15 = .ok (.getfield 154, 3) := by decide +kernel
theorem dX6_lays_18 : decode cX6_lays 18 = .ok (.iconst 1, 1) := by decide +kernel
theorem dX6_lays_19 : decode cX6_lays 19 = .ok (.iadd, 1) := by decide +kernel
theorem dX6_lays_20 : decode cX6_lays 20 = .ok (.putfield 154, 3) := by decide +kernel
theorem dX6_lays_23 : decode cX6_lays 23 = .ok (.aload_n 0, 1) := by decide +kernel
theorem dX6_lays_24 : decode cX6_lays 24 = .ok (.dup, 1) := by decide +kernel
theorem dX6_lays_25 : decode cX6_lays 25 = .ok (.getfield 157, 3) := by decide +kernel
theorem dX6_lays_28 : decode cX6_lays 28 = .ok (.iload_n 1, 1) := by decide +kernel
theorem dX6_lays_29 : decode cX6_lays 29 = .ok (.iadd, 1) := by decide +kernel
theorem dX6_lays_30 : decode cX6_lays 30 = .ok (.putfield 157, 3) := by decide +kernel
theorem dX6_lays_33 : decode cX6_lays 33 = .ok (.return_, 1) := by decide +kernel
theorem dX6_laysCheck_0 : decode cX6_laysCheck 0 = .ok (.aload_n 0, 1) := by decide +kernel
theorem dX6_laysCheck_1 : decode cX6_laysCheck 1 = .ok (.aload_n 0, 1) := by decide +kernel
theorem dX6_laysCheck_2 : decode cX6_laysCheck 2 = .ok (.getfield 157, 3) := by decide +kernel
theorem dX6_laysCheck_5 : decode cX6_laysCheck 5 = .ok (.invokestatic 79, 3) := by decide +kernel
theorem dX6_laysCheck_8 : decode cX6_laysCheck 8 = .ok (.invokevirtual 160, 3) := by decide +kernel
theorem dX6_laysCheck_11 : decode cX6_laysCheck 11 = .ok (.return_, 1) := by decide +kernel
theorem dX6_laysSetting_0 : decode cX6_laysSetting 0 = .ok (.aload_n 0, 1) := by decide +kernel
theorem dX6_laysSetting_1 : decode cX6_laysSetting 1 = .ok (.iconst 0, 1) := by decide +kernel
theorem dX6_laysSetting_2 : decode cX6_laysSetting 2 = .ok (.putfield 157, 3) := by decide +kernel
theorem dX6_laysSetting_5 : decode cX6_laysSetting 5 = .ok (.aload_n 0, 1) := by decide +kernel
theorem dX6_laysSetting_6 : decode cX6_laysSetting 6 = .ok (.iload_n 2, 1) := by decide +kernel
theorem dX6_laysSetting_7 : decode cX6_laysSetting 7 = .ok (.invokevirtual 160, 3) := by decide +kernel
theorem dX6_laysSetting_10 : decode cX6_laysSetting 10 = .ok (.aload_n 0, 1) := by decide +kernel
theorem dX6_laysSetting_11 : decode cX6_laysSetting 11 = .ok (.iload_n 1, 1) := by decide +kernel
theorem dX6_laysSetting_12 : decode cX6_laysSetting 12 = .ok (.iload_n 3, 1) := by decide +kernel
theorem dX6_laysSetting_13 : decode cX6_laysSetting 13 = .ok (.iadd, 1) := by decide +kernel
theorem dX6_laysSetting_14 : decode cX6_laysSetting 14 = .ok (.invokevirtual 160, 3) := by decide +kernel
theorem dX6_laysSetting_17 : decode cX6_laysSetting 17 = .ok (.iload_n 3, 1) := by decide +kernel
theorem dX6_laysSetting_18 : decode cX6_laysSetting 18 = .ok (.iconst 1, 1) := by decide +kernel
theorem dX6_laysSetting_19 : decode cX6_laysSetting 19 = .ok (.isub, 1) := by decide +kernel
theorem dX6_laysSetting_20 : decode cX6_laysSetting 20 = .ok (.istore 6, 2) := by decide +kernel
theorem dX6_laysSetting_22 : decode cX6_laysSetting 22 = .ok (.iload 6, 2) := by decide +kernel
theorem dX6_laysSetting_24 : decode cX6_laysSetting 24 = .ok (.ifCond .lt 26, 3) := by decide +kernel
theorem dX6_laysSetting_27 : decode cX6_laysSetting 27 = .ok (.aload_n 0, 1) := by decide +kernel
theorem dX6_laysSetting_28 : decode cX6_laysSetting 28 = .ok (.lload 4, 2) := by decide +kernel
theorem dX6_laysSetting_30 : decode cX6_laysSetting 30 = .ok (.bipush 8, 2) := by decide +kernel
theorem dX6_laysSetting_32 : decode cX6_laysSetting 32 = .ok (.iload 6, 2) := by decide +kernel
theorem dX6_laysSetting_34 : decode cX6_laysSetting 34 = .ok (.imul, 1) := by decide +kernel
theorem dX6_laysSetting_35 : decode cX6_laysSetting 35 = .ok (.lshr, 1) := by decide +kernel
theorem dX6_laysSetting_36 : decode cX6_laysSetting 36 = .ok (.l2i, 1) := by decide +kernel
theorem dX6_laysSetting_37 : decode cX6_laysSetting 37 = .ok (.sipush 255, 3) := by decide +kernel
theorem dX6_laysSetting_40 : decode cX6_laysSetting 40 = .ok (.iand, 1) := by decide +kernel
theorem dX6_laysSetting_41 : decode cX6_laysSetting 41 = .ok (.invokevirtual 160, 3) := by decide +kernel
theorem dX6_laysSetting_44 : decode cX6_laysSetting 44 = .ok (.iinc 6 (-1), 3) := by decide +kernel
theorem dX6_laysSetting_47 : decode cX6_laysSetting 47 = .ok (.goto (-25), 3) := by decide +kernel
theorem dX6_laysSetting_50 : decode cX6_laysSetting 50 = .ok (.aload_n 0, 1) := by decide +kernel
theorem dX6_laysSetting_51 : decode cX6_laysSetting 51 = .ok (.invokevirtual 163, 3) := by decide +kernel
theorem dX6_laysSetting_54 : decode cX6_laysSetting 54 = .ok (.return_, 1) := by decide +kernel
theorem dX6_laysCounter_0 : decode cX6_laysCounter 0 = .ok (.aload_n 0, 1) := by decide +kernel
theorem dX6_laysCounter_1 : decode cX6_laysCounter 1 = .ok (.iconst 0, 1) := by decide +kernel
theorem dX6_laysCounter_2 : decode cX6_laysCounter 2 = .ok (.putfield 157, 3) := by decide +kernel
theorem dX6_laysCounter_5 : decode cX6_laysCounter 5 = .ok (.aload_n 0, 1) := by decide +kernel
theorem dX6_laysCounter_6 : decode cX6_laysCounter 6 = .ok (.iload_n 1, 1) := by decide +kernel
theorem dX6_laysCounter_7 : decode cX6_laysCounter 7 = .ok (.invokevirtual 160, 3) := by decide +kernel
theorem dX6_laysCounter_10 : decode cX6_laysCounter 10 = .ok (.aload_n 0, 1) := by decide +kernel
theorem dX6_laysCounter_11 : decode cX6_laysCounter 11 = .ok (.bipush 43, 2) := by decide +kernel
theorem dX6_laysCounter_13 : decode cX6_laysCounter 13 = .ok (.invokevirtual 160, 3) := by decide +kernel
theorem dX6_laysCounter_16 : decode cX6_laysCounter 16 = .ok (.aload_n 0, 1) := by decide +kernel
theorem dX6_laysCounter_17 : decode cX6_laysCounter 17 = .ok (.iload_n 2, 1) := by decide +kernel
theorem dX6_laysCounter_18 : decode cX6_laysCounter 18 = .ok (.bipush 16, 2) := by decide +kernel
theorem dX6_laysCounter_20 : decode cX6_laysCounter 20 = .ok (.ishr, 1) := by decide +kernel
theorem dX6_laysCounter_21 : decode cX6_laysCounter 21 = .ok (.sipush 255, 3) := by decide +kernel
theorem dX6_laysCounter_24 : decode cX6_laysCounter 24 = .ok (.iand, 1) := by decide +kernel
theorem dX6_laysCounter_25 : decode cX6_laysCounter 25 = .ok (.invokevirtual 160, 3) := by decide +kernel
theorem dX6_laysCounter_28 : decode cX6_laysCounter 28 = .ok (.aload_n 0, 1) := by decide +kernel
theorem dX6_laysCounter_29 : decode cX6_laysCounter 29 = .ok (.iload_n 2, 1) := by decide +kernel
theorem dX6_laysCounter_30 : decode cX6_laysCounter 30 = .ok (.bipush 8, 2) := by decide +kernel
theorem dX6_laysCounter_32 : decode cX6_laysCounter 32 = .ok (.ishr, 1) := by decide +kernel
theorem dX6_laysCounter_33 : decode cX6_laysCounter 33 = .ok (.sipush 255, 3) := by decide +kernel
theorem dX6_laysCounter_36 : decode cX6_laysCounter 36 = .ok (.iand, 1) := by decide +kernel
theorem dX6_laysCounter_37 : decode cX6_laysCounter 37 = .ok (.invokevirtual 160, 3) := by decide +kernel
theorem dX6_laysCounter_40 : decode cX6_laysCounter 40 = .ok (.aload_n 0, 1) := by decide +kernel
theorem dX6_laysCounter_41 : decode cX6_laysCounter 41 = .ok (.iload_n 2, 1) := by decide +kernel
theorem dX6_laysCounter_42 : decode cX6_laysCounter 42 = .ok (.sipush 255, 3) := by decide +kernel
theorem dX6_laysCounter_45 : decode cX6_laysCounter 45 = .ok (.iand, 1) := by decide +kernel
theorem dX6_laysCounter_46 : decode cX6_laysCounter 46 = .ok (.invokevirtual 160, 3) := by decide +kernel
theorem dX6_laysCounter_49 : decode cX6_laysCounter 49 = .ok (.aload_n 0, 1) := by decide +kernel
theorem dX6_laysCounter_50 : decode cX6_laysCounter 50 = .ok (.invokevirtual 163, 3) := by decide +kernel
theorem dX6_laysCounter_53 : decode cX6_laysCounter 53 = .ok (.aload_n 0, 1) := by decide +kernel
theorem dX6_laysCounter_54 : decode cX6_laysCounter 54 = .ok (.dup, 1) := by decide +kernel
theorem dX6_laysCounter_55 : decode cX6_laysCounter 55 = .ok (.getfield 154, 3) := by decide +kernel
theorem dX6_laysCounter_58 : decode cX6_laysCounter 58 = .ok (.bipush 8, 2) := by decide +kernel
theorem dX6_laysCounter_60 : decode cX6_laysCounter 60 = .ok (.iadd, 1) := by decide +kernel
theorem dX6_laysCounter_61 : decode cX6_laysCounter 61 = .ok (.putfield 154, 3) := by decide +kernel
theorem dX6_laysCounter_64 : decode cX6_laysCounter 64 = .ok (.return_, 1) := by decide +kernel
theorem dX6_sizeNext_0 : decode cX6_sizeNext 0 = .ok (.iconst 4, 1) := by decide +kernel
theorem dX6_sizeNext_1 : decode cX6_sizeNext 1 = .ok (.istore_n 2, 1) := by decide +kernel
theorem dX6_sizeNext_2 : decode cX6_sizeNext 2 = .ok (.iconst 0, 1) := by decide +kernel
theorem dX6_sizeNext_3 : decode cX6_sizeNext 3 = .ok (.istore_n 3, 1) := by decide +kernel
theorem dX6_sizeNext_4 : decode cX6_sizeNext 4 = .ok (.iload_n 3, 1) := by decide +kernel
theorem dX6_sizeNext_5 : decode cX6_sizeNext 5 = .ok (.bipush 48, 2) := by decide +kernel
theorem dX6_sizeNext_7 : decode cX6_sizeNext 7 = .ok (.if_icmp .ge 54, 3) := by decide +kernel
theorem dX6_sizeNext_10 : decode cX6_sizeNext 10 = .ok (.aload_n 0, 1) := by decide +kernel
theorem dX6_sizeNext_11 : decode cX6_sizeNext 11 = .ok (.iload_n 1, 1) := by decide +kernel
theorem dX6_sizeNext_12 : decode cX6_sizeNext 12 = .ok (.iload_n 3, 1) := by decide +kernel
theorem dX6_sizeNext_13 : decode cX6_sizeNext 13 = .ok (.invokevirtual 106, 3) := by decide +kernel
theorem dX6_sizeNext_16 : decode cX6_sizeNext 16 = .ok (.ifCond .eq 39, 3) := by decide +kernel
theorem dX6_sizeNext_19 : decode cX6_sizeNext 19 = .ok (.iload_n 2, 1) := by decide +kernel
theorem dX6_sizeNext_20 : decode cX6_sizeNext 20 = .ok (.aload_n 0, 1) := by decide +kernel
theorem dX6_sizeNext_21 : decode cX6_sizeNext 21 = .ok (.getfield 19, 3) := by decide +kernel
theorem dX6_sizeNext_24 : decode cX6_sizeNext 24 = .ok (.aload_n 0, 1) := by decide +kernel
theorem dX6_sizeNext_25 : decode cX6_sizeNext 25 = .ok (.getfield 28, 3) := by decide +kernel
theorem dX6_sizeNext_28 : decode cX6_sizeNext 28 = .ok (.iload_n 3, 1) := by decide +kernel
theorem dX6_sizeNext_29 : decode cX6_sizeNext 29 = .ok (.iaload, 1) := by decide +kernel
theorem dX6_sizeNext_30 : decode cX6_sizeNext 30 = .ok (.iaload, 1) := by decide +kernel
theorem dX6_sizeNext_31 : decode cX6_sizeNext 31 = .ok (.iconst 1, 1) := by decide +kernel
theorem dX6_sizeNext_32 : decode cX6_sizeNext 32 = .ok (.if_icmp .ne 8, 3) := by decide +kernel
theorem dX6_sizeNext_35 : decode cX6_sizeNext 35 = .ok (.bipush 14, 2) := by decide +kernel
theorem dX6_sizeNext_37 : decode cX6_sizeNext 37 = .ok (.goto 16, 3) := by decide +kernel
theorem dX6_sizeNext_40 : decode cX6_sizeNext 40 = .ok (.iconst 3, 1) := by decide +kernel
theorem dX6_sizeNext_41 : decode cX6_sizeNext 41 = .ok (.aload_n 0, 1) := by decide +kernel
theorem dX6_sizeNext_42 : decode cX6_sizeNext 42 = .ok (.iload_n 1, 1) := by decide +kernel
theorem dX6_sizeNext_43 : decode cX6_sizeNext 43 = .ok (.aload_n 0, 1) := by decide +kernel
theorem dX6_sizeNext_44 : decode cX6_sizeNext 44 = .ok (.getfield 28, 3) := by decide +kernel
theorem dX6_sizeNext_47 : decode cX6_sizeNext 47 = .ok (.iload_n 3, 1) := by decide +kernel
theorem dX6_sizeNext_48 : decode cX6_sizeNext 48 = .ok (.iaload, 1) := by decide +kernel
theorem dX6_sizeNext_49 : decode cX6_sizeNext 49 = .ok (.invokevirtual 103, 3) := by decide +kernel
theorem dX6_sizeNext_52 : decode cX6_sizeNext 52 = .ok (.iadd, 1) := by decide +kernel
theorem dX6_sizeNext_53 : decode cX6_sizeNext 53 = .ok (.iadd, 1) := by decide +kernel
theorem dX6_sizeNext_54 : decode cX6_sizeNext 54 = .ok (.istore_n 2, 1) := by decide +kernel
theorem dX6_sizeNext_55 : decode cX6_sizeNext 55 = .ok (.iinc 3 1, 3) := by decide +kernel
theorem dX6_sizeNext_58 : decode cX6_sizeNext 58 = .ok (.goto (-54), 3) := by decide +kernel
theorem dX6_sizeNext_61 : decode cX6_sizeNext 61 = .ok (.iload_n 2, 1) := by decide +kernel
theorem dX6_sizeNext_62 : decode cX6_sizeNext 62 = .ok (.ireturn, 1) := by decide +kernel
theorem dX6_handsOver_0 : decode cX6_handsOver 0 = .ok (.aload_n 0, 1) := by decide +kernel
theorem dX6_handsOver_1 : decode cX6_handsOver 1 = .ok (.getfield 7, 3) := by decide +kernel
theorem dX6_handsOver_4 : decode cX6_handsOver 4 = .ok (.iconst 3, 1) := by decide +kernel
theorem dX6_handsOver_5 : decode cX6_handsOver 5 = .ok (.iaload, 1) := by decide +kernel
theorem dX6_handsOver_6 : decode cX6_handsOver 6 = .ok (.istore_n 1, 1) := by decide +kernel
theorem dX6_handsOver_7 : decode cX6_handsOver 7 = .ok (.aload_n 0, 1) := by decide +kernel
theorem dX6_handsOver_8 : decode cX6_handsOver 8 = .ok (.iload_n 1, 1) := by decide +kernel
theorem dX6_handsOver_9 : decode cX6_handsOver 9 = .ok (.invokevirtual 126, 3) := by decide +kernel
theorem dX6_handsOver_12 : decode cX6_handsOver 12 = .ok (.istore_n 2, 1) := by decide +kernel
theorem dX6_handsOver_13 : decode cX6_handsOver 13 = .ok (.aload_n 0, 1) := by decide +kernel
theorem dX6_handsOver_14 : decode cX6_handsOver 14 = .ok (.iload_n 2, 1) := by decide +kernel
theorem dX6_handsOver_15 : decode cX6_handsOver 15 = .ok (.iconst 0, 1) := by decide +kernel
theorem dX6_handsOver_16 : decode cX6_handsOver 16 = .ok (.invokevirtual 61, 3) := by decide +kernel
theorem dX6_handsOver_19 : decode cX6_handsOver 19 = .ok (.ifCond .ne 8, 3) := by decide +kernel
theorem dX6_handsOver_22 : decode cX6_handsOver 22 = .ok (.aload_n 0, 1) := by decide +kernel
theorem dX6_handsOver_23 : decode cX6_handsOver 23 = .ok (.iload_n 2, 1) := by decide +kernel
theorem dX6_handsOver_24 : decode cX6_handsOver 24 = .ok (.invokevirtual 113, 3) := by decide +kernel
theorem dX6_handsOver_27 : decode cX6_handsOver 27 = .ok (.aload_n 0, 1) := by decide +kernel
theorem dX6_handsOver_28 : decode cX6_handsOver 28 = .ok (.iload_n 2, 1) := by decide +kernel
theorem dX6_handsOver_29 : decode cX6_handsOver 29 = .ok (.aload_n 0, 1) := by decide +kernel
theorem dX6_handsOver_30 : decode cX6_handsOver 30 = .ok (.iload_n 1, 1) := by decide +kernel
theorem dX6_handsOver_31 : decode cX6_handsOver 31 = .ok (.invokevirtual 116, 3) := by decide +kernel
theorem dX6_handsOver_34 : decode cX6_handsOver 34 = .ok (.iconst 1, 1) := by decide +kernel
theorem dX6_handsOver_35 : decode cX6_handsOver 35 = .ok (.iadd, 1) := by decide +kernel
theorem dX6_handsOver_36 : decode cX6_handsOver 36 = .ok (.ldc 166, 2) := by decide +kernel
theorem dX6_handsOver_38 : decode cX6_handsOver 38 = .ok (.irem, 1) := by decide +kernel
theorem dX6_handsOver_39 : decode cX6_handsOver 39 = .ok (.invokevirtual 129, 3) := by decide +kernel
theorem dX6_handsOver_42 : decode cX6_handsOver 42 = .ok (.aload_n 0, 1) := by decide +kernel
theorem dX6_handsOver_43 : decode cX6_handsOver 43 = .ok (.iload_n 1, 1) := by decide +kernel
theorem dX6_handsOver_44 : decode cX6_handsOver 44 = .ok (.invokevirtual 141, 3) := by decide +kernel
theorem dX6_handsOver_47 : decode cX6_handsOver 47 = .ok (.aload_n 0, 1) := by decide +kernel
theorem dX6_handsOver_48 : decode cX6_handsOver 48 = .ok (.iload_n 2, 1) := by decide +kernel
theorem dX6_handsOver_49 : decode cX6_handsOver 49 = .ok (.putfield 151, 3) := by decide +kernel
theorem dX6_handsOver_52 : decode cX6_handsOver 52 = .ok (.aload_n 0, 1) := by decide +kernel
theorem dX6_handsOver_53 : decode cX6_handsOver 53 = .ok (.iconst 4, 1) := by decide +kernel
theorem dX6_handsOver_54 : decode cX6_handsOver 54 = .ok (.putfield 154, 3) := by decide +kernel
theorem dX6_handsOver_57 : decode cX6_handsOver 57 = .ok (.iconst 0, 1) := by decide +kernel
theorem dX6_handsOver_58 : decode cX6_handsOver 58 = .ok (.istore_n 3, 1) := by decide +kernel
theorem dX6_handsOver_59 : decode cX6_handsOver 59 = .ok (.iload_n 3, 1) := by decide +kernel
theorem dX6_handsOver_60 : decode cX6_handsOver 60 = .ok (.bipush 48, 2) := by decide +kernel
theorem dX6_handsOver_62 : decode cX6_handsOver 62 = .ok (.if_icmp .ge 77, 3) := by decide +kernel
theorem dX6_handsOver_65 : decode cX6_handsOver 65 = .ok (.aload_n 0, 1) := by decide +kernel
theorem dX6_handsOver_66 : decode cX6_handsOver 66 = .ok (.iload_n 1, 1) := by decide +kernel
theorem dX6_handsOver_67 : decode cX6_handsOver 67 = .ok (.iload_n 3, 1) := by decide +kernel
theorem dX6_handsOver_68 : decode cX6_handsOver 68 = .ok (.invokevirtual 106, 3) := by decide +kernel
theorem dX6_handsOver_71 : decode cX6_handsOver 71 = .ok (.ifCond .ne 6, 3) := by decide +kernel
theorem dX6_handsOver_74 : decode cX6_handsOver 74 = .ok (.goto 59, 3) := by decide +kernel
theorem dX6_handsOver_77 : decode cX6_handsOver 77 = .ok (.aload_n 0, 1) := by decide +kernel
theorem dX6_handsOver_78 : decode cX6_handsOver 78 = .ok (.getfield 28, 3) := by decide +kernel
theorem dX6_handsOver_81 : decode cX6_handsOver 81 = .ok (.iload_n 3, 1) := by decide +kernel
theorem dX6_handsOver_82 : decode cX6_handsOver 82 = .ok (.iaload, 1) := by decide +kernel
theorem dX6_handsOver_83 : decode cX6_handsOver 83 = .ok (.istore 4, 2) := by decide +kernel
theorem dX6_handsOver_85 : decode cX6_handsOver 85 = .ok (.aload_n 0, 1) := by decide +kernel
theorem dX6_handsOver_86 : decode cX6_handsOver 86 = .ok (.getfield 19, 3) := by decide +kernel
theorem dX6_handsOver_89 : decode cX6_handsOver 89 = .ok (.iload 4, 2) := by decide +kernel
theorem dX6_handsOver_91 : decode cX6_handsOver 91 = .ok (.iaload, 1) := by decide +kernel
theorem dX6_handsOver_92 : decode cX6_handsOver 92 = .ok (.iconst 1, 1) := by decide +kernel
theorem dX6_handsOver_93 : decode cX6_handsOver 93 = .ok (.if_icmp .ne 19, 3) := by decide +kernel
theorem dX6_handsOver_96 : decode cX6_handsOver 96 = .ok (.aload_n 0, 1) := by decide +kernel
theorem dX6_handsOver_97 : decode cX6_handsOver 97 = .ok (.iload_n 3, 1) := by decide +kernel
theorem dX6_handsOver_98 : decode cX6_handsOver 98 = .ok (.aload_n 0, 1) := by decide +kernel
theorem dX6_handsOver_99 : decode cX6_handsOver 99 = .ok (.iload_n 1, 1) := by decide +kernel
theorem dX6_handsOver_100 : decode cX6_handsOver 100 = .ok (.iload 4, 2) := by decide +kernel
theorem dX6_handsOver_102 : decode cX6_handsOver 102 = .ok (.invokevirtual 167, 3) := by decide +kernel
theorem dX6_handsOver_105 : decode cX6_handsOver 105 = .ok (.l2i, 1) := by decide +kernel
theorem dX6_handsOver_106 : decode cX6_handsOver 106 = .ok (.invokevirtual 171, 3) := by decide +kernel
theorem dX6_handsOver_109 : decode cX6_handsOver 109 = .ok (.goto 24, 3) := by decide +kernel
theorem dX6_handsOver_112 : decode cX6_handsOver 112 = .ok (.aload_n 0, 1) := by decide +kernel
theorem dX6_handsOver_113 : decode cX6_handsOver 113 = .ok (.bipush 16, 2) := by decide +kernel
theorem dX6_handsOver_115 : decode cX6_handsOver 115 = .ok (.iload_n 3, 1) := by decide +kernel
theorem dX6_handsOver_116 : decode cX6_handsOver 116 = .ok (.aload_n 0, 1) := by decide +kernel
theorem dX6_handsOver_117 : decode cX6_handsOver 117 = .ok (.iload_n 1, 1) := by decide +kernel
theorem dX6_handsOver_118 : decode cX6_handsOver 118 = .ok (.iload 4, 2) := by decide +kernel
theorem dX6_handsOver_120 : decode cX6_handsOver 120 = .ok (.invokevirtual 103, 3) := by decide +kernel
theorem dX6_handsOver_123 : decode cX6_handsOver 123 = .ok (.aload_n 0, 1) := by decide +kernel
theorem dX6_handsOver_124 : decode cX6_handsOver 124 = .ok (.iload_n 1, 1) := by decide +kernel
theorem dX6_handsOver_125 : decode cX6_handsOver 125 = .ok (.iload 4, 2) := by decide +kernel
theorem dX6_handsOver_127 : decode cX6_handsOver 127 = .ok (.invokevirtual 167, 3) := by decide +kernel
theorem dX6_handsOver_130 : decode cX6_handsOver 130 = .ok (.invokevirtual 174, 3) := by decide +kernel
theorem dX6_handsOver_133 : decode cX6_handsOver 133 = .ok (.iinc 3 1, 3) := by decide +kernel
theorem dX6_handsOver_136 : decode cX6_handsOver 136 = .ok (.goto (-77), 3) := by decide +kernel
theorem dX6_handsOver_139 : decode cX6_handsOver 139 = .ok (.aload_n 0, 1) := by decide +kernel
theorem dX6_handsOver_140 : decode cX6_handsOver 140 = .ok (.iload_n 2, 1) := by decide +kernel
theorem dX6_handsOver_141 : decode cX6_handsOver 141 = .ok (.iconst 0, 1) := by decide +kernel
theorem dX6_handsOver_142 : decode cX6_handsOver 142 = .ok (.bipush 63, 2) := by decide +kernel
theorem dX6_handsOver_144 : decode cX6_handsOver 144 = .ok (.invokevirtual 109, 3) := by decide +kernel
theorem dX6_handsOver_147 : decode cX6_handsOver 147 = .ok (.aload_n 0, 1) := by decide +kernel
theorem dX6_handsOver_148 : decode cX6_handsOver 148 = .ok (.iload_n 1, 1) := by decide +kernel
theorem dX6_handsOver_149 : decode cX6_handsOver 149 = .ok (.invokevirtual 113, 3) := by decide +kernel
theorem dX6_handsOver_152 : decode cX6_handsOver 152 = .ok (.aload_n 0, 1) := by decide +kernel
theorem dX6_handsOver_153 : decode cX6_handsOver 153 = .ok (.getfield 43, 3) := by decide +kernel
theorem dX6_handsOver_156 : decode cX6_handsOver 156 = .ok (.ifCond .eq 4, 3) := by decide +kernel
theorem dX6_handsOver_159 : decode cX6_handsOver 159 = .ok (.return_, 1) := by decide +kernel
theorem dX6_handsOver_160 : decode cX6_handsOver 160 = .ok (.aload_n 0, 1) := by decide +kernel
theorem dX6_handsOver_161 : decode cX6_handsOver 161 = .ok (.getfield 7, 3) := by decide +kernel
theorem dX6_handsOver_164 : decode cX6_handsOver 164 = .ok (.iconst 3, 1) := by decide +kernel
theorem dX6_handsOver_165 : decode cX6_handsOver 165 = .ok (.iload_n 2, 1) := by decide +kernel
theorem dX6_handsOver_166 : decode cX6_handsOver 166 = .ok (.iastore, 1) := by decide +kernel
theorem dX6_handsOver_167 : decode cX6_handsOver 167 = .ok (.aload_n 0, 1) := by decide +kernel
theorem dX6_handsOver_168 : decode cX6_handsOver 168 = .ok (.getfield 7, 3) := by decide +kernel
theorem dX6_handsOver_171 : decode cX6_handsOver 171 = .ok (.bipush 7, 2) := by decide +kernel
theorem dX6_handsOver_173 : decode cX6_handsOver 173 = .ok (.dup2, 1) := by decide +kernel
theorem dX6_handsOver_174 : decode cX6_handsOver 174 = .ok (.iaload, 1) := by decide +kernel
theorem dX6_handsOver_175 : decode cX6_handsOver 175 = .ok (.iconst 1, 1) := by decide +kernel
theorem dX6_handsOver_176 : decode cX6_handsOver 176 = .ok (.iadd, 1) := by decide +kernel
theorem dX6_handsOver_177 : decode cX6_handsOver 177 = .ok (.iastore, 1) := by decide +kernel
theorem dX6_handsOver_178 : decode cX6_handsOver 178 = .ok (.return_, 1) := by decide +kernel
theorem dX6_freeNow_0 : decode cX6_freeNow 0 = .ok (.aload_n 0, 1) := by decide +kernel
theorem dX6_freeNow_1 : decode cX6_freeNow 1 = .ok (.aload_n 0, 1) := by decide +kernel
theorem dX6_freeNow_2 : decode cX6_freeNow 2 = .ok (.getfield 7, 3) := by decide +kernel
theorem dX6_freeNow_5 : decode cX6_freeNow 5 = .ok (.iconst 3, 1) := by decide +kernel
theorem dX6_freeNow_6 : decode cX6_freeNow 6 = .ok (.iaload, 1) := by decide +kernel
theorem dX6_freeNow_7 : decode cX6_freeNow 7 = .ok (.invokevirtual 141, 3) := by decide +kernel
theorem dX6_freeNow_10 : decode cX6_freeNow 10 = .ok (.aload_n 0, 1) := by decide +kernel
theorem dX6_freeNow_11 : decode cX6_freeNow 11 = .ok (.getfield 7, 3) := by decide +kernel
theorem dX6_freeNow_14 : decode cX6_freeNow 14 = .ok (.iconst 1, 1) := by decide +kernel
theorem dX6_freeNow_15 : decode cX6_freeNow 15 = .ok (.iaload, 1) := by decide +kernel
theorem dX6_freeNow_16 : decode cX6_freeNow 16 = .ok (.aload_n 0, 1) := by decide +kernel
theorem dX6_freeNow_17 : decode cX6_freeNow 17 = .ok (.getfield 82, 3) := by decide +kernel
theorem dX6_freeNow_20 : decode cX6_freeNow 20 = .ok (.isub, 1) := by decide +kernel
theorem dX6_freeNow_21 : decode cX6_freeNow 21 = .ok (.ireturn, 1) := by decide +kernel
theorem dX6_freeThen_0 : decode cX6_freeThen 0 = .ok (.aload_n 0, 1) := by decide +kernel
theorem dX6_freeThen_1 : decode cX6_freeThen 1 = .ok (.aload_n 0, 1) := by decide +kernel
theorem dX6_freeThen_2 : decode cX6_freeThen 2 = .ok (.getfield 7, 3) := by decide +kernel
theorem dX6_freeThen_5 : decode cX6_freeThen 5 = .ok (.iconst 3, 1) := by decide +kernel
theorem dX6_freeThen_6 : decode cX6_freeThen 6 = .ok (.iaload, 1) := by decide +kernel
theorem dX6_freeThen_7 : decode cX6_freeThen 7 = .ok (.invokevirtual 141, 3) := by decide +kernel
theorem dX6_freeThen_10 : decode cX6_freeThen 10 = .ok (.aload_n 0, 1) := by decide +kernel
theorem dX6_freeThen_11 : decode cX6_freeThen 11 = .ok (.getfield 7, 3) := by decide +kernel
theorem dX6_freeThen_14 : decode cX6_freeThen 14 = .ok (.iconst 1, 1) := by decide +kernel
theorem dX6_freeThen_15 : decode cX6_freeThen 15 = .ok (.iaload, 1) := by decide +kernel
theorem dX6_freeThen_16 : decode cX6_freeThen 16 = .ok (.aload_n 0, 1) := by decide +kernel
theorem dX6_freeThen_17 : decode cX6_freeThen 17 = .ok (.aload_n 0, 1) := by decide +kernel
theorem dX6_freeThen_18 : decode cX6_freeThen 18 = .ok (.getfield 7, 3) := by decide +kernel
theorem dX6_freeThen_21 : decode cX6_freeThen 21 = .ok (.iconst 3, 1) := by decide +kernel
theorem dX6_freeThen_22 : decode cX6_freeThen 22 = .ok (.iaload, 1) := by decide +kernel
theorem dX6_freeThen_23 : decode cX6_freeThen 23 = .ok (.invokevirtual 178, 3) := by decide +kernel
theorem dX6_freeThen_26 : decode cX6_freeThen 26 = .ok (.isub, 1) := by decide +kernel
theorem dX6_freeThen_27 : decode cX6_freeThen 27 = .ok (.ireturn, 1) := by decide +kernel
theorem dX6_makesRoom_0 : decode cX6_makesRoom 0 = .ok (.aload_n 0, 1) := by decide +kernel
theorem dX6_makesRoom_1 : decode cX6_makesRoom 1 = .ok (.invokevirtual 181, 3) := by decide +kernel
theorem dX6_makesRoom_4 : decode cX6_makesRoom 4 = .ok (.iload_n 1, 1) := by decide +kernel
theorem dX6_makesRoom_5 : decode cX6_makesRoom 5 = .ok (.if_icmp .ge 17, 3) := by decide +kernel
theorem dX6_makesRoom_8 : decode cX6_makesRoom 8 = .ok (.aload_n 0, 1) := by decide +kernel
theorem dX6_makesRoom_9 : decode cX6_makesRoom 9 = .ok (.invokevirtual 184, 3) := by decide +kernel
theorem dX6_makesRoom_12 : decode cX6_makesRoom 12 = .ok (.iload_n 1, 1) := by decide +kernel
theorem dX6_makesRoom_13 : decode cX6_makesRoom 13 = .ok (.if_icmp .ge 5, 3) := by decide +kernel
theorem dX6_makesRoom_16 : decode cX6_makesRoom 16 = .ok (.iconst 0, 1) := by decide +kernel
theorem dX6_makesRoom_17 : decode cX6_makesRoom 17 = .ok (.ireturn, 1) := by decide +kernel
theorem dX6_makesRoom_18 : decode cX6_makesRoom 18 = .ok (.aload_n 0, 1) := by decide +kernel
theorem dX6_makesRoom_19 : decode cX6_makesRoom 19 = .ok (.invokevirtual 187, 3) := by decide +kernel
theorem dX6_makesRoom_22 : decode cX6_makesRoom 22 = .ok (.aload_n 0, 1) := by decide +kernel
theorem dX6_makesRoom_23 : decode cX6_makesRoom 23 = .ok (.getfield 43, 3) := by decide +kernel
theorem dX6_makesRoom_26 : decode cX6_makesRoom 26 = .ok (.ifCond .eq 5, 3) := by decide +kernel
theorem dX6_makesRoom_29 : decode cX6_makesRoom 29 = .ok (.iconst 1, 1) := by decide +kernel
theorem dX6_makesRoom_30 : decode cX6_makesRoom 30 = .ok (.ireturn, 1) := by decide +kernel
theorem dX6_makesRoom_31 : decode cX6_makesRoom 31 = .ok (.aload_n 0, 1) := by decide +kernel
theorem dX6_makesRoom_32 : decode cX6_makesRoom 32 = .ok (.aload_n 0, 1) := by decide +kernel
theorem dX6_makesRoom_33 : decode cX6_makesRoom 33 = .ok (.getfield 7, 3) := by decide +kernel
theorem dX6_makesRoom_36 : decode cX6_makesRoom 36 = .ok (.iconst 3, 1) := by decide +kernel
theorem dX6_makesRoom_37 : decode cX6_makesRoom 37 = .ok (.iaload, 1) := by decide +kernel
theorem dX6_makesRoom_38 : decode cX6_makesRoom 38 = .ok (.invokevirtual 141, 3) := by decide +kernel
theorem dX6_makesRoom_41 : decode cX6_makesRoom 41 = .ok (.aload_n 0, 1) := by decide +kernel
theorem dX6_makesRoom_42 : decode cX6_makesRoom 42 = .ok (.aload_n 0, 1) := by decide +kernel
theorem dX6_makesRoom_43 : decode cX6_makesRoom 43 = .ok (.getfield 7, 3) := by decide +kernel
theorem dX6_makesRoom_46 : decode cX6_makesRoom 46 = .ok (.iconst 3, 1) := by decide +kernel
theorem dX6_makesRoom_47 : decode cX6_makesRoom 47 = .ok (.iaload, 1) := by decide +kernel
theorem dX6_makesRoom_48 : decode cX6_makesRoom 48 = .ok (.putfield 151, 3) := by decide +kernel
theorem dX6_makesRoom_51 : decode cX6_makesRoom 51 = .ok (.aload_n 0, 1) := by decide +kernel
theorem dX6_makesRoom_52 : decode cX6_makesRoom 52 = .ok (.aload_n 0, 1) := by decide +kernel
theorem dX6_makesRoom_53 : decode cX6_makesRoom 53 = .ok (.getfield 82, 3) := by decide +kernel
theorem dX6_makesRoom_56 : decode cX6_makesRoom 56 = .ok (.putfield 154, 3) := by decide +kernel
theorem dX6_makesRoom_59 : decode cX6_makesRoom 59 = .ok (.iconst 1, 1) := by decide +kernel
theorem dX6_makesRoom_60 : decode cX6_makesRoom 60 = .ok (.ireturn, 1) := by decide +kernel
theorem dX6_inChange_0 : decode cX6_inChange 0 = .ok (.iconst 0, 1) := by decide +kernel
theorem dX6_inChange_1 : decode cX6_inChange 1 = .ok (.istore_n 2, 1) := by decide +kernel
theorem dX6_inChange_2 : decode cX6_inChange 2 = .ok (.iload_n 2, 1) := by decide +kernel
theorem dX6_inChange_3 : decode cX6_inChange 3 = .ok (.aload_n 0, 1) := by decide +kernel
theorem dX6_inChange_4 : decode cX6_inChange 4 = .ok (.getfield 7, 3) := by decide +kernel
theorem dX6_inChange_7 : decode cX6_inChange 7 = .ok (.bipush 11, 2) := by decide +kernel
theorem dX6_inChange_9 : decode cX6_inChange 9 = .ok (.iaload, 1) := by decide +kernel
theorem dX6_inChange_10 : decode cX6_inChange 10 = .ok (.if_icmp .ge 24, 3) := by decide +kernel
theorem dX6_inChange_13 : decode cX6_inChange 13 = .ok (.aload_n 0, 1) := by decide +kernel
theorem dX6_inChange_14 : decode cX6_inChange 14 = .ok (.getfield 7, 3) := by decide +kernel
theorem dX6_inChange_17 : decode cX6_inChange 17 = .ok (.bipush 12, 2) := by decide +kernel
theorem dX6_inChange_19 : decode cX6_inChange 19 = .ok (.iload_n 2, 1) := by decide +kernel
theorem dX6_inChange_20 : decode cX6_inChange 20 = .ok (.iadd, 1) := by decide +kernel
theorem dX6_inChange_21 : decode cX6_inChange 21 = .ok (.iaload, 1) := by decide +kernel
theorem dX6_inChange_22 : decode cX6_inChange 22 = .ok (.iload_n 1, 1) := by decide +kernel
theorem dX6_inChange_23 : decode cX6_inChange 23 = .ok (.if_icmp .ne 5, 3) := by decide +kernel
theorem dX6_inChange_26 : decode cX6_inChange 26 = .ok (.iload_n 2, 1) := by decide +kernel
theorem dX6_inChange_27 : decode cX6_inChange 27 = .ok (.ireturn, 1) := by decide +kernel
theorem dX6_inChange_28 : decode cX6_inChange 28 = .ok (.iinc 2 1, 3) := by decide +kernel
theorem dX6_inChange_31 : decode cX6_inChange 31 = .ok (.goto (-29), 3) := by decide +kernel
theorem dX6_inChange_34 : decode cX6_inChange 34 = .ok (.iconst (-1), 1) := by decide +kernel
theorem dX6_inChange_35 : decode cX6_inChange 35 = .ok (.ireturn, 1) := by decide +kernel
theorem dX6_tells_0 : decode cX6_tells 0 = .ok (.aload_n 0, 1) := by decide +kernel
theorem dX6_tells_1 : decode cX6_tells 1 = .ok (.iload_n 1, 1) := by decide +kernel
theorem dX6_tells_2 : decode cX6_tells 2 = .ok (.invokevirtual 190, 3) := by decide +kernel
theorem dX6_tells_5 : decode cX6_tells 5 = .ok (.istore 4, 2) := by decide +kernel
theorem dX6_tells_7 : decode cX6_tells 7 = .ok (.iload 4, 2) := by decide +kernel
theorem dX6_tells_9 : decode cX6_tells 9 = .ok (.ifCond .ge 37, 3) := by decide +kernel
theorem dX6_tells_12 : decode cX6_tells 12 = .ok (.aload_n 0, 1) := by decide +kernel
theorem dX6_tells_13 : decode cX6_tells 13 = .ok (.getfield 7, 3) := by decide +kernel
theorem dX6_tells_16 : decode cX6_tells 16 = .ok (.bipush 11, 2) := by decide +kernel
theorem dX6_tells_18 : decode cX6_tells 18 = .ok (.iaload, 1) := by decide +kernel
theorem dX6_tells_19 : decode cX6_tells 19 = .ok (.bipush 8, 2) := by decide +kernel
theorem dX6_tells_21 : decode cX6_tells 21 = .ok (.if_icmp .ne 5, 3) := by decide +kernel
theorem dX6_tells_24 : decode cX6_tells 24 = .ok (.iconst (-1), 1) := by decide +kernel
theorem dX6_tells_25 : decode cX6_tells 25 = .ok (.ireturn, 1) := by decide +kernel
theorem dX6_tells_26 : decode cX6_tells 26 = .ok (.aload_n 0, 1) := by decide +kernel
theorem dX6_tells_27 : decode cX6_tells 27 = .ok (.getfield 7, 3) := by decide +kernel
theorem dX6_tells_30 : decode cX6_tells 30 = .ok (.bipush 11, 2) := by decide +kernel
theorem dX6_tells_32 : decode cX6_tells 32 = .ok (.iaload, 1) := by decide +kernel
theorem dX6_tells_33 : decode cX6_tells 33 = .ok (.istore 4, 2) := by decide +kernel
theorem dX6_tells_35 : decode cX6_tells 35 = .ok (.aload_n 0, 1) := by decide +kernel
theorem dX6_tells_36 : decode cX6_tells 36 = .ok (.getfield 7, 3) := by decide +kernel
theorem dX6_tells_39 : decode cX6_tells 39 = .ok (.bipush 11, 2) := by decide +kernel
theorem dX6_tells_41 : decode cX6_tells 41 = .ok (.dup2, 1) := by decide +kernel
theorem dX6_tells_42 : decode cX6_tells 42 = .ok (.iaload, 1) := by decide +kernel
theorem dX6_tells_43 : decode cX6_tells 43 = .ok (.iconst 1, 1) := by decide +kernel
theorem dX6_tells_44 : decode cX6_tells 44 = .ok (.iadd, 1) := by decide +kernel
theorem dX6_tells_45 : decode cX6_tells 45 = .ok (.iastore, 1) := by decide +kernel
theorem dX6_tells_46 : decode cX6_tells 46 = .ok (.aload_n 0, 1) := by decide +kernel
theorem dX6_tells_47 : decode cX6_tells 47 = .ok (.getfield 7, 3) := by decide +kernel
theorem dX6_tells_50 : decode cX6_tells 50 = .ok (.bipush 12, 2) := by decide +kernel
theorem dX6_tells_52 : decode cX6_tells 52 = .ok (.iload 4, 2) := by decide +kernel
theorem dX6_tells_54 : decode cX6_tells 54 = .ok (.iadd, 1) := by decide +kernel
theorem dX6_tells_55 : decode cX6_tells 55 = .ok (.iload_n 1, 1) := by decide +kernel
theorem dX6_tells_56 : decode cX6_tells 56 = .ok (.iastore, 1) := by decide +kernel
theorem dX6_tells_57 : decode cX6_tells 57 = .ok (.aload_n 0, 1) := by decide +kernel
theorem dX6_tells_58 : decode cX6_tells 58 = .ok (.getfield 7, 3) := by decide +kernel
theorem dX6_tells_61 : decode cX6_tells 61 = .ok (.bipush 20, 2) := by decide +kernel
theorem dX6_tells_63 : decode cX6_tells 63 = .ok (.iload 4, 2) := by decide +kernel
theorem dX6_tells_65 : decode cX6_tells 65 = .ok (.iadd, 1) := by decide +kernel
theorem dX6_tells_66 : decode cX6_tells 66 = .ok (.iload_n 2, 1) := by decide +kernel
theorem dX6_tells_67 : decode cX6_tells 67 = .ok (.iastore, 1) := by decide +kernel
theorem dX6_tells_68 : decode cX6_tells 68 = .ok (.aload_n 0, 1) := by decide +kernel
theorem dX6_tells_69 : decode cX6_tells 69 = .ok (.getfield 7, 3) := by decide +kernel
theorem dX6_tells_72 : decode cX6_tells 72 = .ok (.bipush 28, 2) := by decide +kernel
theorem dX6_tells_74 : decode cX6_tells 74 = .ok (.iload 4, 2) := by decide +kernel
theorem dX6_tells_76 : decode cX6_tells 76 = .ok (.iadd, 1) := by decide +kernel
theorem dX6_tells_77 : decode cX6_tells 77 = .ok (.iload_n 3, 1) := by decide +kernel
theorem dX6_tells_78 : decode cX6_tells 78 = .ok (.iastore, 1) := by decide +kernel
theorem dX6_tells_79 : decode cX6_tells 79 = .ok (.iconst 0, 1) := by decide +kernel
theorem dX6_tells_80 : decode cX6_tells 80 = .ok (.ireturn, 1) := by decide +kernel
theorem dX6_sets_0 : decode cX6_sets 0 = .ok (.aload_n 0, 1) := by decide +kernel
theorem dX6_sets_1 : decode cX6_sets 1 = .ok (.getfield 7, 3) := by decide +kernel
theorem dX6_sets_4 : decode cX6_sets 4 = .ok (.bipush 10, 2) := by decide +kernel
theorem dX6_sets_6 : decode cX6_sets 6 = .ok (.iaload, 1) := by decide +kernel
theorem dX6_sets_7 : decode cX6_sets 7 = .ok (.iconst 1, 1) := by decide +kernel
theorem dX6_sets_8 : decode cX6_sets 8 = .ok (.if_icmp .ne 11, 3) := by decide +kernel
theorem dX6_sets_11 : decode cX6_sets 11 = .ok (.aload_n 0, 1) := by decide +kernel
theorem dX6_sets_12 : decode cX6_sets 12 = .ok (.iload_n 1, 1) := by decide +kernel
theorem dX6_sets_13 : decode cX6_sets 13 = .ok (.iload_n 2, 1) := by decide +kernel
theorem dX6_sets_14 : decode cX6_sets 14 = .ok (.iload_n 3, 1) := by decide +kernel
theorem dX6_sets_15 : decode cX6_sets 15 = .ok (.invokevirtual 193, 3) := by decide +kernel
theorem dX6_sets_18 : decode cX6_sets 18 = .ok (.ireturn, 1) := by decide +kernel
theorem dX6_sets_19 : decode cX6_sets 19 = .ok (.aload_n 0, 1) := by decide +kernel
theorem dX6_sets_20 : decode cX6_sets 20 = .ok (.invokevirtual 135, 3) := by decide +kernel
theorem dX6_sets_23 : decode cX6_sets 23 = .ok (.aload_n 0, 1) := by decide +kernel
theorem dX6_sets_24 : decode cX6_sets 24 = .ok (.iconst 3, 1) := by decide +kernel
theorem dX6_sets_25 : decode cX6_sets 25 = .ok (.iload_n 3, 1) := by decide +kernel
theorem dX6_sets_26 : decode cX6_sets 26 = .ok (.iadd, 1) := by decide +kernel
theorem dX6_sets_27 : decode cX6_sets 27 = .ok (.invokevirtual 196, 3) := by decide +kernel
theorem dX6_sets_30 : decode cX6_sets 30 = .ok (.ifCond .ne 6, 3) := by decide +kernel
theorem dX6_sets_33 : decode cX6_sets 33 = .ok (.bipush (-2), 2) := by decide +kernel
theorem dX6_sets_35 : decode cX6_sets 35 = .ok (.ireturn, 1) := by decide +kernel
theorem dX6_sets_36 : decode cX6_sets 36 = .ok (.aload_n 0, 1) := by decide +kernel
theorem dX6_sets_37 : decode cX6_sets 37 = .ok (.bipush 16, 2) := by decide +kernel
theorem dX6_sets_39 : decode cX6_sets 39 = .ok (.iload_n 1, 1) := by decide +kernel
theorem dX6_sets_40 : decode cX6_sets 40 = .ok (.iload_n 3, 1) := by decide +kernel
theorem dX6_sets_41 : decode cX6_sets 41 = .ok (.iload_n 2, 1) := by decide +kernel
theorem dX6_sets_42 : decode cX6_sets 42 = .ok (.i2l, 1) := by decide +kernel
theorem dX6_sets_43 : decode cX6_sets 43 = .ok (.invokevirtual 174, 3) := by decide +kernel
theorem dX6_sets_46 : decode cX6_sets 46 = .ok (.aload_n 0, 1) := by decide +kernel
theorem dX6_sets_47 : decode cX6_sets 47 = .ok (.invokevirtual 199, 3) := by decide +kernel
theorem dX6_sets_50 : decode cX6_sets 50 = .ok (.ireturn, 1) := by decide +kernel
theorem dX6_isSetting_0 : decode cX6_isSetting 0 = .ok (.aload_n 0, 1) := by decide +kernel
theorem dX6_isSetting_1 : decode cX6_isSetting 1 = .ok (.invokevirtual 132, 3) := by decide +kernel
theorem dX6_isSetting_4 : decode cX6_isSetting 4 = .ok (.ifCond .eq 26, 3) := by decide +kernel
theorem dX6_isSetting_7 : decode cX6_isSetting 7 = .ok (.iload_n 1, 1) := by decide +kernel
theorem dX6_isSetting_8 : decode cX6_isSetting 8 = .ok (.iconst 0, 1) := by decide +kernel
theorem dX6_isSetting_9 : decode cX6_isSetting 9 = .ok (.bipush 31, 2) := by decide +kernel
theorem dX6_isSetting_11 : decode cX6_isSetting 11 = .ok (.invokestatic 39, 3) := by decide +kernel
theorem dX6_isSetting_14 : decode cX6_isSetting 14 = .ok (.ifCond .eq 16, 3) := by decide +kernel
theorem dX6_isSetting_17 : decode cX6_isSetting 17 = .ok (.iload_n 2, 1) := by decide +kernel
theorem dX6_isSetting_18 : decode cX6_isSetting 18 = .ok (.iconst 1, 1) := by decide +kernel
theorem dX6_isSetting_19 : decode cX6_isSetting 19 = .ok (.iconst 4, 1) := by decide +kernel
theorem dX6_isSetting_20 : decode cX6_isSetting 20 = .ok (.invokestatic 39, 3) := by decide +kernel
theorem dX6_isSetting_23 : decode cX6_isSetting 23 = .ok (.ifCond .eq 7, 3) := by decide +kernel
theorem dX6_isSetting_26 : decode cX6_isSetting 26 = .ok (.iconst 1, 1) := by decide +kernel
theorem dX6_isSetting_27 : decode cX6_isSetting 27 = .ok (.goto 4, 3) := by decide +kernel
theorem dX6_isSetting_30 : decode cX6_isSetting 30 = .ok (.iconst 0, 1) := by decide +kernel
theorem dX6_isSetting_31 : decode cX6_isSetting 31 = .ok (.ireturn, 1) := by decide +kernel
theorem dX6_set_0 : decode cX6_set 0 = .ok (.aload_n 0, 1) := by decide +kernel
theorem dX6_set_1 : decode cX6_set 1 = .ok (.iconst 0, 1) := by decide +kernel
theorem dX6_set_2 : decode cX6_set 2 = .ok (.putfield 35, 3) := by decide +kernel
theorem dX6_set_5 : decode cX6_set 5 = .ok (.aload_n 0, 1) := by decide +kernel
theorem dX6_set_6 : decode cX6_set 6 = .ok (.iload_n 1, 1) := by decide +kernel
theorem dX6_set_7 : decode cX6_set 7 = .ok (.iload_n 3, 1) := by decide +kernel
theorem dX6_set_8 : decode cX6_set 8 = .ok (.invokevirtual 202, 3) := by decide +kernel
theorem dX6_set_11 : decode cX6_set 11 = .ok (.ifCond .eq 13, 3) := by decide +kernel
theorem dX6_set_14 : decode cX6_set 14 = .ok (.aload_n 0, 1) := by decide +kernel
theorem dX6_set_15 : decode cX6_set 15 = .ok (.iload_n 1, 1) := by decide +kernel
theorem dX6_set_16 : decode cX6_set 16 = .ok (.iload_n 2, 1) := by decide +kernel
theorem dX6_set_17 : decode cX6_set 17 = .ok (.iload_n 3, 1) := by decide +kernel
theorem dX6_set_18 : decode cX6_set 18 = .ok (.invokevirtual 205, 3) := by decide +kernel
theorem dX6_set_21 : decode cX6_set 21 = .ok (.goto 4, 3) := by decide +kernel
theorem dX6_set_24 : decode cX6_set 24 = .ok (.iconst (-1), 1) := by decide +kernel
theorem dX6_set_25 : decode cX6_set 25 = .ok (.ireturn, 1) := by decide +kernel
theorem dX6_drop_0 : decode cX6_drop 0 = .ok (.aload_n 0, 1) := by decide +kernel
theorem dX6_drop_1 : decode cX6_drop 1 = .ok (.iconst 0, 1) := by decide +kernel
theorem dX6_drop_2 : decode cX6_drop 2 = .ok (.putfield 35, 3) := by decide +kernel
theorem dX6_drop_5 : decode cX6_drop 5 = .ok (.aload_n 0, 1) := by decide +kernel
theorem dX6_drop_6 : decode cX6_drop 6 = .ok (.invokevirtual 132, 3) := by decide +kernel
theorem dX6_drop_9 : decode cX6_drop 9 = .ok (.ifCond .eq 13, 3) := by decide +kernel
theorem dX6_drop_12 : decode cX6_drop 12 = .ok (.iload_n 1, 1) := by decide +kernel
theorem dX6_drop_13 : decode cX6_drop 13 = .ok (.iconst 0, 1) := by decide +kernel
theorem dX6_drop_14 : decode cX6_drop 14 = .ok (.bipush 31, 2) := by decide +kernel
theorem dX6_drop_16 : decode cX6_drop 16 = .ok (.invokestatic 39, 3) := by decide +kernel
theorem dX6_drop_19 : decode cX6_drop 19 = .ok (.ifCond .ne 5, 3) := by decide +kernel
theorem dX6_drop_22 : decode cX6_drop 22 = .ok (.iconst (-1), 1) := by decide +kernel
theorem dX6_drop_23 : decode cX6_drop 23 = .ok (.ireturn, 1) := by decide +kernel
theorem dX6_drop_24 : decode cX6_drop 24 = .ok (.aload_n 0, 1) := by decide +kernel
theorem dX6_drop_25 : decode cX6_drop 25 = .ok (.aload_n 0, 1) := by decide +kernel
theorem dX6_drop_26 : decode cX6_drop 26 = .ok (.getfield 7, 3) := by decide +kernel
theorem dX6_drop_29 : decode cX6_drop 29 = .ok (.iconst 3, 1) := by decide +kernel
theorem dX6_drop_30 : decode cX6_drop 30 = .ok (.iaload, 1) := by decide +kernel
theorem dX6_drop_31 : decode cX6_drop 31 = .ok (.invokevirtual 141, 3) := by decide +kernel
theorem dX6_drop_34 : decode cX6_drop 34 = .ok (.aload_n 0, 1) := by decide +kernel
theorem dX6_drop_35 : decode cX6_drop 35 = .ok (.getfield 7, 3) := by decide +kernel
theorem dX6_drop_38 : decode cX6_drop 38 = .ok (.bipush 10, 2) := by decide +kernel
theorem dX6_drop_40 : decode cX6_drop 40 = .ok (.iaload, 1) := by decide +kernel
theorem dX6_drop_41 : decode cX6_drop 41 = .ok (.iconst 1, 1) := by decide +kernel
theorem dX6_drop_42 : decode cX6_drop 42 = .ok (.if_icmp .ne 11, 3) := by decide +kernel
theorem dX6_drop_45 : decode cX6_drop 45 = .ok (.aload_n 0, 1) := by decide +kernel
theorem dX6_drop_46 : decode cX6_drop 46 = .ok (.iload_n 1, 1) := by decide +kernel
theorem dX6_drop_47 : decode cX6_drop 47 = .ok (.invokevirtual 190, 3) := by decide +kernel
theorem dX6_drop_50 : decode cX6_drop 50 = .ok (.goto 4, 3) := by decide +kernel
theorem dX6_drop_53 : decode cX6_drop 53 = .ok (.iconst (-1), 1) := by decide +kernel
theorem dX6_drop_54 : decode cX6_drop 54 = .ok (.istore_n 2, 1) := by decide +kernel
theorem dX6_drop_55 : decode cX6_drop 55 = .ok (.iload_n 2, 1) := by decide +kernel
theorem dX6_drop_56 : decode cX6_drop 56 = .ok (.ifCond .lt 23, 3) := by decide +kernel
theorem dX6_drop_59 : decode cX6_drop 59 = .ok (.aload_n 0, 1) := by decide +kernel
theorem dX6_drop_60 : decode cX6_drop 60 = .ok (.getfield 7, 3) := by decide +kernel
theorem dX6_drop_63 : decode cX6_drop 63 = .ok (.bipush 28, 2) := by decide +kernel
theorem dX6_drop_65 : decode cX6_drop 65 = .ok (.iload_n 2, 1) := by decide +kernel
theorem dX6_drop_66 : decode cX6_drop 66 = .ok (.iadd, 1) := by decide +kernel
theorem dX6_drop_67 : decode cX6_drop 67 = .ok (.iaload, 1) := by decide +kernel
theorem dX6_drop_68 : decode cX6_drop 68 = .ok (.ifCond .le 7, 3) := by decide +kernel
theorem dX6_drop_71 : decode cX6_drop 71 = .ok (.iconst 1, 1) := by decide +kernel
theorem dX6_drop_72 : decode cX6_drop 72 = .ok (.goto 18, 3) := by decide +kernel
theorem dX6_drop_75 : decode cX6_drop 75 = .ok (.iconst 0, 1) := by decide +kernel
theorem dX6_drop_76 : decode cX6_drop 76 = .ok (.goto 14, 3) := by decide +kernel
theorem dX6_drop_79 : decode cX6_drop 79 = .ok (.aload_n 0, 1) := by decide +kernel
theorem dX6_drop_80 : decode cX6_drop 80 = .ok (.aload_n 0, 1) := by decide +kernel
theorem dX6_drop_81 : decode cX6_drop 81 = .ok (.getfield 7, 3) := by decide +kernel
theorem dX6_drop_84 : decode cX6_drop 84 = .ok (.iconst 3, 1) := by decide +kernel
theorem dX6_drop_85 : decode cX6_drop 85 = .ok (.iaload, 1) := by decide +kernel
theorem dX6_drop_86 : decode cX6_drop 86 = .ok (.iload_n 1, 1) := by decide +kernel
theorem dX6_drop_87 : decode cX6_drop 87 = .ok (.invokevirtual 106, 3) := by decide +kernel
theorem dX6_drop_90 : decode cX6_drop 90 = .ok (.istore_n 3, 1) := by decide +kernel
theorem dX6_drop_91 : decode cX6_drop 91 = .ok (.iload_n 3, 1) := by decide +kernel
theorem dX6_drop_92 : decode cX6_drop 92 = .ok (.ifCond .eq 13, 3) := by decide +kernel
theorem dX6_drop_95 : decode cX6_drop 95 = .ok (.aload_n 0, 1) := by decide +kernel
theorem dX6_drop_96 : decode cX6_drop 96 = .ok (.iload_n 1, 1) := by decide +kernel
theorem dX6_drop_97 : decode cX6_drop 97 = .ok (.iconst 0, 1) := by decide +kernel
theorem dX6_drop_98 : decode cX6_drop 98 = .ok (.iconst 0, 1) := by decide +kernel
theorem dX6_drop_99 : decode cX6_drop 99 = .ok (.invokevirtual 205, 3) := by decide +kernel
theorem dX6_drop_102 : decode cX6_drop 102 = .ok (.goto 4, 3) := by decide +kernel
theorem dX6_drop_105 : decode cX6_drop 105 = .ok (.iconst (-1), 1) := by decide +kernel
theorem dX6_drop_106 : decode cX6_drop 106 = .ok (.ireturn, 1) := by decide +kernel
theorem dX6_goesUp_0 : decode cX6_goesUp 0 = .ok (.iload_n 2, 1) := by decide +kernel
theorem dX6_goesUp_1 : decode cX6_goesUp 1 = .ok (.istore_n 3, 1) := by decide +kernel
theorem dX6_goesUp_2 : decode cX6_goesUp 2 = .ok (.iload_n 3, 1) := by decide +kernel
theorem dX6_goesUp_3 : decode cX6_goesUp 3 = .ok (.iload_n 2, 1) := by decide +kernel
theorem dX6_goesUp_4 : decode cX6_goesUp 4 = .ok (.bipush 8, 2) := by decide +kernel
theorem dX6_goesUp_6 : decode cX6_goesUp 6 = .ok (.iadd, 1) := by decide +kernel
theorem dX6_goesUp_7 : decode cX6_goesUp 7 = .ok (.if_icmp .ge 43, 3) := by decide +kernel
theorem dX6_goesUp_10 : decode cX6_goesUp 10 = .ok (.aload_n 0, 1) := by decide +kernel
theorem dX6_goesUp_11 : decode cX6_goesUp 11 = .ok (.iload_n 1, 1) := by decide +kernel
theorem dX6_goesUp_12 : decode cX6_goesUp 12 = .ok (.iload_n 3, 1) := by decide +kernel
theorem dX6_goesUp_13 : decode cX6_goesUp 13 = .ok (.invokevirtual 51, 3) := by decide +kernel
theorem dX6_goesUp_16 : decode cX6_goesUp 16 = .ok (.istore 4, 2) := by decide +kernel
theorem dX6_goesUp_18 : decode cX6_goesUp 18 = .ok (.iload 4, 2) := by decide +kernel
theorem dX6_goesUp_20 : decode cX6_goesUp 20 = .ok (.ifCond .ne 6, 3) := by decide +kernel
theorem dX6_goesUp_23 : decode cX6_goesUp 23 = .ok (.goto 21, 3) := by decide +kernel
theorem dX6_goesUp_26 : decode cX6_goesUp 26 = .ok (.aload_n 0, 1) := by decide +kernel
theorem dX6_goesUp_27 : decode cX6_goesUp 27 = .ok (.iload_n 1, 1) := by decide +kernel
theorem dX6_goesUp_28 : decode cX6_goesUp 28 = .ok (.iload_n 3, 1) := by decide +kernel
theorem dX6_goesUp_29 : decode cX6_goesUp 29 = .ok (.iload 4, 2) := by decide +kernel
theorem dX6_goesUp_31 : decode cX6_goesUp 31 = .ok (.iload 4, 2) := by decide +kernel
theorem dX6_goesUp_33 : decode cX6_goesUp 33 = .ok (.invokestatic 208, 3) := by decide +kernel
theorem dX6_goesUp_36 : decode cX6_goesUp 36 = .ok (.iconst (-1), 1) := by decide +kernel
theorem dX6_goesUp_37 : decode cX6_goesUp 37 = .ok (.ixor, 1) := by decide +kernel
theorem dX6_goesUp_38 : decode cX6_goesUp 38 = .ok (.iand, 1) := by decide +kernel
theorem dX6_goesUp_39 : decode cX6_goesUp 39 = .ok (.invokevirtual 109, 3) := by decide +kernel
theorem dX6_goesUp_42 : decode cX6_goesUp 42 = .ok (.iconst 1, 1) := by decide +kernel
theorem dX6_goesUp_43 : decode cX6_goesUp 43 = .ok (.ireturn, 1) := by decide +kernel
theorem dX6_goesUp_44 : decode cX6_goesUp 44 = .ok (.iinc 3 1, 3) := by decide +kernel
theorem dX6_goesUp_47 : decode cX6_goesUp 47 = .ok (.goto (-45), 3) := by decide +kernel
theorem dX6_goesUp_50 : decode cX6_goesUp 50 = .ok (.iconst 0, 1) := by decide +kernel
theorem dX6_goesUp_51 : decode cX6_goesUp 51 = .ok (.ireturn, 1) := by decide +kernel
theorem dX6_bump_0 : decode cX6_bump 0 = .ok (.aload_n 0, 1) := by decide +kernel
theorem dX6_bump_1 : decode cX6_bump 1 = .ok (.iconst 0, 1) := by decide +kernel
theorem dX6_bump_2 : decode cX6_bump 2 = .ok (.putfield 35, 3) := by decide +kernel
theorem dX6_bump_5 : decode cX6_bump 5 = .ok (.aload_n 0, 1) := by decide +kernel
theorem dX6_bump_6 : decode cX6_bump 6 = .ok (.invokevirtual 132, 3) := by decide +kernel
theorem dX6_bump_9 : decode cX6_bump 9 = .ok (.ifCond .eq 25, 3) := by decide +kernel
theorem dX6_bump_12 : decode cX6_bump 12 = .ok (.aload_n 0, 1) := by decide +kernel
theorem dX6_bump_13 : decode cX6_bump 13 = .ok (.getfield 7, 3) := by decide +kernel
theorem dX6_bump_16 : decode cX6_bump 16 = .ok (.bipush 10, 2) := by decide +kernel
theorem dX6_bump_18 : decode cX6_bump 18 = .ok (.iaload, 1) := by decide +kernel
theorem dX6_bump_19 : decode cX6_bump 19 = .ok (.iconst 1, 1) := by decide +kernel
theorem dX6_bump_20 : decode cX6_bump 20 = .ok (.if_icmp .eq 14, 3) := by decide +kernel
theorem dX6_bump_23 : decode cX6_bump 23 = .ok (.iload_n 1, 1) := by decide +kernel
theorem dX6_bump_24 : decode cX6_bump 24 = .ok (.bipush 32, 2) := by decide +kernel
theorem dX6_bump_26 : decode cX6_bump 26 = .ok (.bipush 47, 2) := by decide +kernel
theorem dX6_bump_28 : decode cX6_bump 28 = .ok (.invokestatic 39, 3) := by decide +kernel
theorem dX6_bump_31 : decode cX6_bump 31 = .ok (.ifCond .ne 5, 3) := by decide +kernel
theorem dX6_bump_34 : decode cX6_bump 34 = .ok (.iconst (-1), 1) := by decide +kernel
theorem dX6_bump_35 : decode cX6_bump 35 = .ok (.ireturn, 1) := by decide +kernel
theorem dX6_bump_36 : decode cX6_bump 36 = .ok (.aload_n 0, 1) := by decide +kernel
theorem dX6_bump_37 : decode cX6_bump 37 = .ok (.aload_n 0, 1) := by decide +kernel
theorem dX6_bump_38 : decode cX6_bump 38 = .ok (.getfield 7, 3) := by decide +kernel
theorem dX6_bump_41 : decode cX6_bump 41 = .ok (.iconst 3, 1) := by decide +kernel
theorem dX6_bump_42 : decode cX6_bump 42 = .ok (.iaload, 1) := by decide +kernel
theorem dX6_bump_43 : decode cX6_bump 43 = .ok (.invokevirtual 141, 3) := by decide +kernel
theorem dX6_bump_46 : decode cX6_bump 46 = .ok (.aload_n 0, 1) := by decide +kernel
theorem dX6_bump_47 : decode cX6_bump 47 = .ok (.getfield 28, 3) := by decide +kernel
theorem dX6_bump_50 : decode cX6_bump 50 = .ok (.iload_n 1, 1) := by decide +kernel
theorem dX6_bump_51 : decode cX6_bump 51 = .ok (.iaload, 1) := by decide +kernel
theorem dX6_bump_52 : decode cX6_bump 52 = .ok (.istore_n 2, 1) := by decide +kernel
theorem dX6_bump_53 : decode cX6_bump 53 = .ok (.iload_n 2, 1) := by decide +kernel
theorem dX6_bump_54 : decode cX6_bump 54 = .ok (.ifCond .ge 7, 3) := by decide +kernel
theorem dX6_bump_57 : decode cX6_bump 57 = .ok (.iconst 0, 1) := by decide +kernel
theorem dX6_bump_58 : decode cX6_bump 58 = .ok (.goto 15, 3) := by decide +kernel
theorem dX6_bump_61 : decode cX6_bump 61 = .ok (.aload_n 0, 1) := by decide +kernel
theorem dX6_bump_62 : decode cX6_bump 62 = .ok (.aload_n 0, 1) := by decide +kernel
theorem dX6_bump_63 : decode cX6_bump 63 = .ok (.getfield 7, 3) := by decide +kernel
theorem dX6_bump_66 : decode cX6_bump 66 = .ok (.iconst 3, 1) := by decide +kernel
theorem dX6_bump_67 : decode cX6_bump 67 = .ok (.iaload, 1) := by decide +kernel
theorem dX6_bump_68 : decode cX6_bump 68 = .ok (.iload_n 2, 1) := by decide +kernel
theorem dX6_bump_69 : decode cX6_bump 69 = .ok (.invokevirtual 167, 3) := by decide +kernel
theorem dX6_bump_72 : decode cX6_bump 72 = .ok (.l2i, 1) := by decide +kernel
theorem dX6_bump_73 : decode cX6_bump 73 = .ok (.istore_n 3, 1) := by decide +kernel
theorem dX6_bump_74 : decode cX6_bump 74 = .ok (.iload_n 3, 1) := by decide +kernel
theorem dX6_bump_75 : decode cX6_bump 75 = .ok (.ldc 211, 2) := by decide +kernel
theorem dX6_bump_77 : decode cX6_bump 77 = .ok (.if_icmp .lt 5, 3) := by decide +kernel
theorem dX6_bump_80 : decode cX6_bump 80 = .ok (.iconst (-1), 1) := by decide +kernel
theorem dX6_bump_81 : decode cX6_bump 81 = .ok (.ireturn, 1) := by decide +kernel
theorem dX6_bump_82 : decode cX6_bump 82 = .ok (.aload_n 0, 1) := by decide +kernel
theorem dX6_bump_83 : decode cX6_bump 83 = .ok (.invokevirtual 135, 3) := by decide +kernel
theorem dX6_bump_86 : decode cX6_bump 86 = .ok (.iload_n 2, 1) := by decide +kernel
theorem dX6_bump_87 : decode cX6_bump 87 = .ok (.ifCond .lt 25, 3) := by decide +kernel
theorem dX6_bump_90 : decode cX6_bump 90 = .ok (.aload_n 0, 1) := by decide +kernel
theorem dX6_bump_91 : decode cX6_bump 91 = .ok (.aload_n 0, 1) := by decide +kernel
theorem dX6_bump_92 : decode cX6_bump 92 = .ok (.getfield 7, 3) := by decide +kernel
theorem dX6_bump_95 : decode cX6_bump 95 = .ok (.iconst 3, 1) := by decide +kernel
theorem dX6_bump_96 : decode cX6_bump 96 = .ok (.iaload, 1) := by decide +kernel
theorem dX6_bump_97 : decode cX6_bump 97 = .ok (.aload_n 0, 1) := by decide +kernel
theorem dX6_bump_98 : decode cX6_bump 98 = .ok (.getfield 16, 3) := by decide +kernel
theorem dX6_bump_101 : decode cX6_bump 101 = .ok (.iload_n 2, 1) := by decide +kernel
theorem dX6_bump_102 : decode cX6_bump 102 = .ok (.iaload, 1) := by decide +kernel
theorem dX6_bump_103 : decode cX6_bump 103 = .ok (.bipush 6, 2) := by decide +kernel
theorem dX6_bump_105 : decode cX6_bump 105 = .ok (.iadd, 1) := by decide +kernel
theorem dX6_bump_106 : decode cX6_bump 106 = .ok (.invokevirtual 212, 3) := by decide +kernel
theorem dX6_bump_109 : decode cX6_bump 109 = .ok (.ifCond .ne 23, 3) := by decide +kernel
theorem dX6_bump_112 : decode cX6_bump 112 = .ok (.aload_n 0, 1) := by decide +kernel
theorem dX6_bump_113 : decode cX6_bump 113 = .ok (.bipush 14, 2) := by decide +kernel
theorem dX6_bump_115 : decode cX6_bump 115 = .ok (.invokevirtual 196, 3) := by decide +kernel
theorem dX6_bump_118 : decode cX6_bump 118 = .ok (.ifCond .ne 6, 3) := by decide +kernel
theorem dX6_bump_121 : decode cX6_bump 121 = .ok (.bipush (-2), 2) := by decide +kernel
theorem dX6_bump_123 : decode cX6_bump 123 = .ok (.ireturn, 1) := by decide +kernel
theorem dX6_bump_124 : decode cX6_bump 124 = .ok (.aload_n 0, 1) := by decide +kernel
theorem dX6_bump_125 : decode cX6_bump 125 = .ok (.iload_n 1, 1) := by decide +kernel
theorem dX6_bump_126 : decode cX6_bump 126 = .ok (.iload_n 3, 1) := by decide +kernel
theorem dX6_bump_127 : decode cX6_bump 127 = .ok (.iconst 1, 1) := by decide +kernel
theorem dX6_bump_128 : decode cX6_bump 128 = .ok (.iadd, 1) := by decide +kernel
theorem dX6_bump_129 : decode cX6_bump 129 = .ok (.invokevirtual 171, 3) := by decide +kernel
theorem dX6_bump_132 : decode cX6_bump 132 = .ok (.aload_n 0, 1) := by decide +kernel
theorem dX6_bump_133 : decode cX6_bump 133 = .ok (.getfield 43, 3) := by decide +kernel
theorem dX6_bump_136 : decode cX6_bump 136 = .ok (.ifCond .eq 8, 3) := by decide +kernel
theorem dX6_bump_139 : decode cX6_bump 139 = .ok (.bipush (-3), 2) := by decide +kernel
theorem dX6_bump_141 : decode cX6_bump 141 = .ok (.goto 6, 3) := by decide +kernel
theorem dX6_bump_144 : decode cX6_bump 144 = .ok (.iload_n 3, 1) := by decide +kernel
theorem dX6_bump_145 : decode cX6_bump 145 = .ok (.iconst 1, 1) := by decide +kernel
theorem dX6_bump_146 : decode cX6_bump 146 = .ok (.iadd, 1) := by decide +kernel
theorem dX6_bump_147 : decode cX6_bump 147 = .ok (.ireturn, 1) := by decide +kernel
theorem dX6_begin_0 : decode cX6_begin 0 = .ok (.aload_n 0, 1) := by decide +kernel
theorem dX6_begin_1 : decode cX6_begin 1 = .ok (.iconst 0, 1) := by decide +kernel
theorem dX6_begin_2 : decode cX6_begin 2 = .ok (.putfield 35, 3) := by decide +kernel
theorem dX6_begin_5 : decode cX6_begin 5 = .ok (.aload_n 0, 1) := by decide +kernel
theorem dX6_begin_6 : decode cX6_begin 6 = .ok (.invokevirtual 132, 3) := by decide +kernel
theorem dX6_begin_9 : decode cX6_begin 9 = .ok (.ifCond .eq 14, 3) := by decide +kernel
theorem dX6_begin_12 : decode cX6_begin 12 = .ok (.aload_n 0, 1) := by decide +kernel
theorem dX6_begin_13 : decode cX6_begin 13 = .ok (.getfield 7, 3) := by decide +kernel
theorem dX6_begin_16 : decode cX6_begin 16 = .ok (.bipush 10, 2) := by decide +kernel
theorem dX6_begin_18 : decode cX6_begin 18 = .ok (.iaload, 1) := by decide +kernel
theorem dX6_begin_19 : decode cX6_begin 19 = .ok (.iconst 1, 1) := by decide +kernel
theorem dX6_begin_20 : decode cX6_begin 20 = .ok (.if_icmp .ne 5, 3) := by decide +kernel
theorem dX6_begin_23 : decode cX6_begin 23 = .ok (.iconst 0, 1) := by decide +kernel
theorem dX6_begin_24 : decode cX6_begin 24 = .ok (.ireturn, 1) := by decide +kernel
theorem dX6_begin_25 : decode cX6_begin 25 = .ok (.aload_n 0, 1) := by decide +kernel
theorem dX6_begin_26 : decode cX6_begin 26 = .ok (.getfield 7, 3) := by decide +kernel
theorem dX6_begin_29 : decode cX6_begin 29 = .ok (.bipush 10, 2) := by decide +kernel
theorem dX6_begin_31 : decode cX6_begin 31 = .ok (.iconst 1, 1) := by decide +kernel
theorem dX6_begin_32 : decode cX6_begin 32 = .ok (.iastore, 1) := by decide +kernel
theorem dX6_begin_33 : decode cX6_begin 33 = .ok (.aload_n 0, 1) := by decide +kernel
theorem dX6_begin_34 : decode cX6_begin 34 = .ok (.getfield 7, 3) := by decide +kernel
theorem dX6_begin_37 : decode cX6_begin 37 = .ok (.bipush 11, 2) := by decide +kernel
theorem dX6_begin_39 : decode cX6_begin 39 = .ok (.iconst 0, 1) := by decide +kernel
theorem dX6_begin_40 : decode cX6_begin 40 = .ok (.iastore, 1) := by decide +kernel
theorem dX6_begin_41 : decode cX6_begin 41 = .ok (.iconst 1, 1) := by decide +kernel
theorem dX6_begin_42 : decode cX6_begin 42 = .ok (.ireturn, 1) := by decide +kernel
theorem dX6_commit_0 : decode cX6_commit 0 = .ok (.aload_n 0, 1) := by decide +kernel
theorem dX6_commit_1 : decode cX6_commit 1 = .ok (.iconst 0, 1) := by decide +kernel
theorem dX6_commit_2 : decode cX6_commit 2 = .ok (.putfield 35, 3) := by decide +kernel
theorem dX6_commit_5 : decode cX6_commit 5 = .ok (.aload_n 0, 1) := by decide +kernel
theorem dX6_commit_6 : decode cX6_commit 6 = .ok (.getfield 7, 3) := by decide +kernel
theorem dX6_commit_9 : decode cX6_commit 9 = .ok (.bipush 10, 2) := by decide +kernel
theorem dX6_commit_11 : decode cX6_commit 11 = .ok (.iaload, 1) := by decide +kernel
theorem dX6_commit_12 : decode cX6_commit 12 = .ok (.ifCond .ne 5, 3) := by decide +kernel
theorem dX6_commit_15 : decode cX6_commit 15 = .ok (.iconst (-1), 1) := by decide +kernel
theorem dX6_commit_16 : decode cX6_commit 16 = .ok (.ireturn, 1) := by decide +kernel
theorem dX6_commit_17 : decode cX6_commit 17 = .ok (.aload_n 0, 1) := by decide +kernel
theorem dX6_commit_18 : decode cX6_commit 18 = .ok (.getfield 7, 3) := by decide +kernel
theorem dX6_commit_21 : decode cX6_commit 21 = .ok (.bipush 11, 2) := by decide +kernel
theorem dX6_commit_23 : decode cX6_commit 23 = .ok (.iaload, 1) := by decide +kernel
theorem dX6_commit_24 : decode cX6_commit 24 = .ok (.ifCond .ne 13, 3) := by decide +kernel
theorem dX6_commit_27 : decode cX6_commit 27 = .ok (.aload_n 0, 1) := by decide +kernel
theorem dX6_commit_28 : decode cX6_commit 28 = .ok (.getfield 7, 3) := by decide +kernel
theorem dX6_commit_31 : decode cX6_commit 31 = .ok (.bipush 10, 2) := by decide +kernel
theorem dX6_commit_33 : decode cX6_commit 33 = .ok (.iconst 0, 1) := by decide +kernel
theorem dX6_commit_34 : decode cX6_commit 34 = .ok (.iastore, 1) := by decide +kernel
theorem dX6_commit_35 : decode cX6_commit 35 = .ok (.iconst (-1), 1) := by decide +kernel
theorem dX6_commit_36 : decode cX6_commit 36 = .ok (.ireturn, 1) := by decide +kernel
theorem dX6_commit_37 : decode cX6_commit 37 = .ok (.iconst 4, 1) := by decide +kernel
theorem dX6_commit_38 : decode cX6_commit 38 = .ok (.istore_n 1, 1) := by decide +kernel
theorem dX6_commit_39 : decode cX6_commit 39 = .ok (.iconst 0, 1) := by decide +kernel
theorem dX6_commit_40 : decode cX6_commit 40 = .ok (.istore_n 2, 1) := by decide +kernel
theorem dX6_commit_41 : decode cX6_commit 41 = .ok (.iload_n 2, 1) := by decide +kernel
theorem dX6_commit_42 : decode cX6_commit 42 = .ok (.aload_n 0, 1) := by decide +kernel
theorem dX6_commit_43 : decode cX6_commit 43 = .ok (.getfield 7, 3) := by decide +kernel
theorem dX6_commit_46 : decode cX6_commit 46 = .ok (.bipush 11, 2) := by decide +kernel
theorem dX6_commit_48 : decode cX6_commit 48 = .ok (.iaload, 1) := by decide +kernel
theorem dX6_commit_49 : decode cX6_commit 49 = .ok (.if_icmp .ge 23, 3) := by decide +kernel
theorem dX6_commit_52 : decode cX6_commit 52 = .ok (.iload_n 1, 1) := by decide +kernel
theorem dX6_commit_53 : decode cX6_commit 53 = .ok (.iconst 3, 1) := by decide +kernel
theorem dX6_commit_54 : decode cX6_commit 54 = .ok (.aload_n 0, 1) := by decide +kernel
theorem dX6_commit_55 : decode cX6_commit 55 = .ok (.getfield 7, 3) := by decide +kernel
theorem dX6_commit_58 : decode cX6_commit 58 = .ok (.bipush 28, 2) := by decide +kernel
theorem dX6_commit_60 : decode cX6_commit 60 = .ok (.iload_n 2, 1) := by decide +kernel
theorem dX6_commit_61 : decode cX6_commit 61 = .ok (.iadd, 1) := by decide +kernel
theorem dX6_commit_62 : decode cX6_commit 62 = .ok (.iaload, 1) := by decide +kernel
theorem dX6_commit_63 : decode cX6_commit 63 = .ok (.iadd, 1) := by decide +kernel
theorem dX6_commit_64 : decode cX6_commit 64 = .ok (.iadd, 1) := by decide +kernel
theorem dX6_commit_65 : decode cX6_commit 65 = .ok (.istore_n 1, 1) := by decide +kernel
theorem dX6_commit_66 : decode cX6_commit 66 = .ok (.iinc 2 1, 3) := by decide +kernel
theorem dX6_commit_69 : decode cX6_commit 69 = .ok (.goto (-28), 3) := by decide +kernel
theorem dX6_commit_72 : decode cX6_commit 72 = .ok (.aload_n 0, 1) := by decide +kernel
theorem dX6_commit_73 : decode cX6_commit 73 = .ok (.invokevirtual 135, 3) := by decide +kernel
theorem dX6_commit_76 : decode cX6_commit 76 = .ok (.aload_n 0, 1) := by decide +kernel
theorem dX6_commit_77 : decode cX6_commit 77 = .ok (.iload_n 1, 1) := by decide +kernel
theorem dX6_commit_78 : decode cX6_commit 78 = .ok (.invokevirtual 196, 3) := by decide +kernel
theorem dX6_commit_81 : decode cX6_commit 81 = .ok (.ifCond .ne 6, 3) := by decide +kernel
theorem dX6_commit_84 : decode cX6_commit 84 = .ok (.bipush (-2), 2) := by decide +kernel
theorem dX6_commit_86 : decode cX6_commit 86 = .ok (.ireturn, 1) := by decide +kernel
theorem dX6_commit_87 : decode cX6_commit 87 = .ok (.iconst 0, 1) := by decide +kernel
theorem dX6_commit_88 : decode cX6_commit 88 = .ok (.istore_n 2, 1) := by decide +kernel
theorem dX6_commit_89 : decode cX6_commit 89 = .ok (.iload_n 2, 1) := by decide +kernel
theorem dX6_commit_90 : decode cX6_commit 90 = .ok (.aload_n 0, 1) := by decide +kernel
theorem dX6_commit_91 : decode cX6_commit 91 = .ok (.getfield 7, 3) := by decide +kernel
theorem dX6_commit_94 : decode cX6_commit 94 = .ok (.bipush 11, 2) := by decide +kernel
theorem dX6_commit_96 : decode cX6_commit 96 = .ok (.iaload, 1) := by decide +kernel
theorem dX6_commit_97 : decode cX6_commit 97 = .ok (.if_icmp .ge 43, 3) := by decide +kernel
theorem dX6_commit_100 : decode cX6_commit 100 = .ok (.aload_n 0, 1) := by decide +kernel
theorem dX6_commit_101 : decode cX6_commit 101 = .ok (.bipush 48, 2) := by decide +kernel
theorem dX6_commit_103 : decode cX6_commit 103 = .ok (.aload_n 0, 1) := by decide +kernel
theorem dX6_commit_104 : decode cX6_commit 104 = .ok (.getfield 7, 3) := by decide +kernel
theorem dX6_commit_107 : decode cX6_commit 107 = .ok (.bipush 12, 2) := by decide +kernel
theorem dX6_commit_109 : decode cX6_commit 109 = .ok (.iload_n 2, 1) := by decide +kernel
theorem dX6_commit_110 : decode cX6_commit 110 = .ok (.iadd, 1) := by decide +kernel
theorem dX6_commit_111 : decode cX6_commit 111 = .ok (.iaload, 1) := by decide +kernel
theorem dX6_commit_112 : decode cX6_commit 112 = .ok (.aload_n 0, 1) := by decide +kernel
theorem dX6_commit_113 : decode cX6_commit 113 = .ok (.getfield 7, 3) := by decide +kernel
theorem dX6_commit_116 : decode cX6_commit 116 = .ok (.bipush 28, 2) := by decide +kernel
theorem dX6_commit_118 : decode cX6_commit 118 = .ok (.iload_n 2, 1) := by decide +kernel
theorem dX6_commit_119 : decode cX6_commit 119 = .ok (.iadd, 1) := by decide +kernel
theorem dX6_commit_120 : decode cX6_commit 120 = .ok (.iaload, 1) := by decide +kernel
theorem dX6_commit_121 : decode cX6_commit 121 = .ok (.aload_n 0, 1) := by decide +kernel
theorem dX6_commit_122 : decode cX6_commit 122 = .ok (.getfield 7, 3) := by decide +kernel
theorem dX6_commit_125 : decode cX6_commit 125 = .ok (.bipush 20, 2) := by decide +kernel
theorem dX6_commit_127 : decode cX6_commit 127 = .ok (.iload_n 2, 1) := by decide +kernel
theorem dX6_commit_128 : decode cX6_commit 128 = .ok (.iadd, 1) := by decide +kernel
theorem dX6_commit_129 : decode cX6_commit 129 = .ok (.iaload, 1) := by decide +kernel
theorem dX6_commit_130 : decode cX6_commit 130 = .ok (.i2l, 1) := by decide +kernel
theorem dX6_commit_131 : decode cX6_commit 131 = .ok (.invokevirtual 174, 3) := by decide +kernel
theorem dX6_commit_134 : decode cX6_commit 134 = .ok (.iinc 2 1, 3) := by decide +kernel
theorem dX6_commit_137 : decode cX6_commit 137 = .ok (.goto (-48), 3) := by decide +kernel
theorem dX6_commit_140 : decode cX6_commit 140 = .ok (.aload_n 0, 1) := by decide +kernel
theorem dX6_commit_141 : decode cX6_commit 141 = .ok (.iconst 0, 1) := by decide +kernel
theorem dX6_commit_142 : decode cX6_commit 142 = .ok (.putfield 157, 3) := by decide +kernel
theorem dX6_commit_145 : decode cX6_commit 145 = .ok (.aload_n 0, 1) := by decide +kernel
theorem dX6_commit_146 : decode cX6_commit 146 = .ok (.bipush 63, 2) := by decide +kernel
theorem dX6_commit_148 : decode cX6_commit 148 = .ok (.invokevirtual 160, 3) := by decide +kernel
theorem dX6_commit_151 : decode cX6_commit 151 = .ok (.aload_n 0, 1) := by decide +kernel
theorem dX6_commit_152 : decode cX6_commit 152 = .ok (.bipush 65, 2) := by decide +kernel
theorem dX6_commit_154 : decode cX6_commit 154 = .ok (.invokevirtual 160, 3) := by decide +kernel
theorem dX6_commit_157 : decode cX6_commit 157 = .ok (.aload_n 0, 1) := by decide +kernel
theorem dX6_commit_158 : decode cX6_commit 158 = .ok (.aload_n 0, 1) := by decide +kernel
theorem dX6_commit_159 : decode cX6_commit 159 = .ok (.getfield 7, 3) := by decide +kernel
theorem dX6_commit_162 : decode cX6_commit 162 = .ok (.bipush 11, 2) := by decide +kernel
theorem dX6_commit_164 : decode cX6_commit 164 = .ok (.iaload, 1) := by decide +kernel
theorem dX6_commit_165 : decode cX6_commit 165 = .ok (.invokevirtual 160, 3) := by decide +kernel
theorem dX6_commit_168 : decode cX6_commit 168 = .ok (.aload_n 0, 1) := by decide +kernel
theorem dX6_commit_169 : decode cX6_commit 169 = .ok (.invokevirtual 163, 3) := by decide +kernel
theorem dX6_commit_172 : decode cX6_commit 172 = .ok (.aload_n 0, 1) := by decide +kernel
theorem dX6_commit_173 : decode cX6_commit 173 = .ok (.getfield 7, 3) := by decide +kernel
theorem dX6_commit_176 : decode cX6_commit 176 = .ok (.bipush 10, 2) := by decide +kernel
theorem dX6_commit_178 : decode cX6_commit 178 = .ok (.iconst 0, 1) := by decide +kernel
theorem dX6_commit_179 : decode cX6_commit 179 = .ok (.iastore, 1) := by decide +kernel
theorem dX6_commit_180 : decode cX6_commit 180 = .ok (.aload_n 0, 1) := by decide +kernel
theorem dX6_commit_181 : decode cX6_commit 181 = .ok (.invokevirtual 199, 3) := by decide +kernel
theorem dX6_commit_184 : decode cX6_commit 184 = .ok (.ireturn, 1) := by decide +kernel
theorem dX6_abort_0 : decode cX6_abort 0 = .ok (.aload_n 0, 1) := by decide +kernel
theorem dX6_abort_1 : decode cX6_abort 1 = .ok (.iconst 0, 1) := by decide +kernel
theorem dX6_abort_2 : decode cX6_abort 2 = .ok (.putfield 35, 3) := by decide +kernel
theorem dX6_abort_5 : decode cX6_abort 5 = .ok (.aload_n 0, 1) := by decide +kernel
theorem dX6_abort_6 : decode cX6_abort 6 = .ok (.getfield 7, 3) := by decide +kernel
theorem dX6_abort_9 : decode cX6_abort 9 = .ok (.bipush 10, 2) := by decide +kernel
theorem dX6_abort_11 : decode cX6_abort 11 = .ok (.iaload, 1) := by decide +kernel
theorem dX6_abort_12 : decode cX6_abort 12 = .ok (.ifCond .ne 5, 3) := by decide +kernel
theorem dX6_abort_15 : decode cX6_abort 15 = .ok (.iconst (-1), 1) := by decide +kernel
theorem dX6_abort_16 : decode cX6_abort 16 = .ok (.ireturn, 1) := by decide +kernel
theorem dX6_abort_17 : decode cX6_abort 17 = .ok (.aload_n 0, 1) := by decide +kernel
theorem dX6_abort_18 : decode cX6_abort 18 = .ok (.getfield 7, 3) := by decide +kernel
theorem dX6_abort_21 : decode cX6_abort 21 = .ok (.bipush 10, 2) := by decide +kernel
theorem dX6_abort_23 : decode cX6_abort 23 = .ok (.iconst 0, 1) := by decide +kernel
theorem dX6_abort_24 : decode cX6_abort 24 = .ok (.iastore, 1) := by decide +kernel
theorem dX6_abort_25 : decode cX6_abort 25 = .ok (.aload_n 0, 1) := by decide +kernel
theorem dX6_abort_26 : decode cX6_abort 26 = .ok (.getfield 7, 3) := by decide +kernel
theorem dX6_abort_29 : decode cX6_abort 29 = .ok (.bipush 11, 2) := by decide +kernel
theorem dX6_abort_31 : decode cX6_abort 31 = .ok (.iaload, 1) := by decide +kernel
theorem dX6_abort_32 : decode cX6_abort 32 = .ok (.ireturn, 1) := by decide +kernel
theorem dX6_isTag_0 : decode cX6_isTag 0 = .ok (.iload_n 1, 1) := by decide +kernel
theorem dX6_isTag_1 : decode cX6_isTag 1 = .ok (.iconst 0, 1) := by decide +kernel
theorem dX6_isTag_2 : decode cX6_isTag 2 = .ok (.bipush 47, 2) := by decide +kernel
theorem dX6_isTag_4 : decode cX6_isTag 4 = .ok (.invokestatic 39, 3) := by decide +kernel
theorem dX6_isTag_7 : decode cX6_isTag 7 = .ok (.ireturn, 1) := by decide +kernel
theorem dX6_valueNow_0 : decode cX6_valueNow 0 = .ok (.aload_n 0, 1) := by decide +kernel
theorem dX6_valueNow_1 : decode cX6_valueNow 1 = .ok (.aload_n 0, 1) := by decide +kernel
theorem dX6_valueNow_2 : decode cX6_valueNow 2 = .ok (.getfield 7, 3) := by decide +kernel
theorem dX6_valueNow_5 : decode cX6_valueNow 5 = .ok (.iconst 3, 1) := by decide +kernel
theorem dX6_valueNow_6 : decode cX6_valueNow 6 = .ok (.iaload, 1) := by decide +kernel
theorem dX6_valueNow_7 : decode cX6_valueNow 7 = .ok (.invokevirtual 141, 3) := by decide +kernel
theorem dX6_valueNow_10 : decode cX6_valueNow 10 = .ok (.aload_n 0, 1) := by decide +kernel
theorem dX6_valueNow_11 : decode cX6_valueNow 11 = .ok (.getfield 28, 3) := by decide +kernel
theorem dX6_valueNow_14 : decode cX6_valueNow 14 = .ok (.iload_n 1, 1) := by decide +kernel
theorem dX6_valueNow_15 : decode cX6_valueNow 15 = .ok (.iaload, 1) := by decide +kernel
theorem dX6_valueNow_16 : decode cX6_valueNow 16 = .ok (.ifCond .ge 9, 3) := by decide +kernel
theorem dX6_valueNow_19 : decode cX6_valueNow 19 = .ok (.ldc2_w 101, 3) := by decide +kernel
theorem dX6_valueNow_22 : decode cX6_valueNow 22 = .ok (.goto 19, 3) := by decide +kernel
theorem dX6_valueNow_25 : decode cX6_valueNow 25 = .ok (.aload_n 0, 1) := by decide +kernel
theorem dX6_valueNow_26 : decode cX6_valueNow 26 = .ok (.aload_n 0, 1) := by decide +kernel
theorem dX6_valueNow_27 : decode cX6_valueNow 27 = .ok (.getfield 7, 3) := by decide +kernel
theorem dX6_valueNow_30 : decode cX6_valueNow 30 = .ok (.iconst 3, 1) := by decide +kernel
theorem dX6_valueNow_31 : decode cX6_valueNow 31 = .ok (.iaload, 1) := by decide +kernel
theorem dX6_valueNow_32 : decode cX6_valueNow 32 = .ok (.aload_n 0, 1) := by decide +kernel
theorem dX6_valueNow_33 : decode cX6_valueNow 33 = .ok (.getfield 28, 3) := by decide +kernel
theorem dX6_valueNow_36 : decode cX6_valueNow 36 = .ok (.iload_n 1, 1) := by decide +kernel
theorem dX6_valueNow_37 : decode cX6_valueNow 37 = .ok (.iaload, 1) := by decide +kernel
theorem dX6_valueNow_38 : decode cX6_valueNow 38 = .ok (.invokevirtual 167, 3) := by decide +kernel
theorem dX6_valueNow_41 : decode cX6_valueNow 41 = .ok (.lreturn, 1) := by decide +kernel
theorem dX6_get_0 : decode cX6_get 0 = .ok (.aload_n 0, 1) := by decide +kernel
theorem dX6_get_1 : decode cX6_get 1 = .ok (.iconst 0, 1) := by decide +kernel
theorem dX6_get_2 : decode cX6_get 2 = .ok (.putfield 35, 3) := by decide +kernel
theorem dX6_get_5 : decode cX6_get 5 = .ok (.aload_n 0, 1) := by decide +kernel
theorem dX6_get_6 : decode cX6_get 6 = .ok (.invokevirtual 132, 3) := by decide +kernel
theorem dX6_get_9 : decode cX6_get 9 = .ok (.ifCond .eq 19, 3) := by decide +kernel
theorem dX6_get_12 : decode cX6_get 12 = .ok (.aload_n 0, 1) := by decide +kernel
theorem dX6_get_13 : decode cX6_get 13 = .ok (.iload_n 1, 1) := by decide +kernel
theorem dX6_get_14 : decode cX6_get 14 = .ok (.invokevirtual 215, 3) := by decide +kernel
theorem dX6_get_17 : decode cX6_get 17 = .ok (.ifCond .eq 11, 3) := by decide +kernel
theorem dX6_get_20 : decode cX6_get 20 = .ok (.aload_n 0, 1) := by decide +kernel
theorem dX6_get_21 : decode cX6_get 21 = .ok (.iload_n 1, 1) := by decide +kernel
theorem dX6_get_22 : decode cX6_get 22 = .ok (.invokevirtual 218, 3) := by decide +kernel
theorem dX6_get_25 : decode cX6_get 25 = .ok (.goto 6, 3) := by decide +kernel
theorem dX6_get_28 : decode cX6_get 28 = .ok (.ldc2_w 222, 3) := by decide +kernel
theorem dX6_get_31 : decode cX6_get 31 = .ok (.lreturn, 1) := by decide +kernel
theorem dX6_length_0 : decode cX6_length 0 = .ok (.aload_n 0, 1) := by decide +kernel
theorem dX6_length_1 : decode cX6_length 1 = .ok (.iconst 0, 1) := by decide +kernel
theorem dX6_length_2 : decode cX6_length 2 = .ok (.putfield 35, 3) := by decide +kernel
theorem dX6_length_5 : decode cX6_length 5 = .ok (.aload_n 0, 1) := by decide +kernel
theorem dX6_length_6 : decode cX6_length 6 = .ok (.invokevirtual 132, 3) := by decide +kernel
theorem dX6_length_9 : decode cX6_length 9 = .ok (.ifCond .eq 11, 3) := by decide +kernel
theorem dX6_length_12 : decode cX6_length 12 = .ok (.aload_n 0, 1) := by decide +kernel
theorem dX6_length_13 : decode cX6_length 13 = .ok (.iload_n 1, 1) := by decide +kernel
theorem dX6_length_14 : decode cX6_length 14 = .ok (.invokevirtual 215, 3) := by decide +kernel
theorem dX6_length_17 : decode cX6_length 17 = .ok (.ifCond .ne 5, 3) := by decide +kernel
theorem dX6_length_20 : decode cX6_length 20 = .ok (.iconst (-1), 1) := by decide +kernel
theorem dX6_length_21 : decode cX6_length 21 = .ok (.ireturn, 1) := by decide +kernel
theorem dX6_length_22 : decode cX6_length 22 = .ok (.aload_n 0, 1) := by decide +kernel
theorem dX6_length_23 : decode cX6_length 23 = .ok (.aload_n 0, 1) := by decide +kernel
theorem dX6_length_24 : decode cX6_length 24 = .ok (.getfield 7, 3) := by decide +kernel
theorem dX6_length_27 : decode cX6_length 27 = .ok (.iconst 3, 1) := by decide +kernel
theorem dX6_length_28 : decode cX6_length 28 = .ok (.iaload, 1) := by decide +kernel
theorem dX6_length_29 : decode cX6_length 29 = .ok (.invokevirtual 141, 3) := by decide +kernel
theorem dX6_length_32 : decode cX6_length 32 = .ok (.aload_n 0, 1) := by decide +kernel
theorem dX6_length_33 : decode cX6_length 33 = .ok (.getfield 28, 3) := by decide +kernel
theorem dX6_length_36 : decode cX6_length 36 = .ok (.iload_n 1, 1) := by decide +kernel
theorem dX6_length_37 : decode cX6_length 37 = .ok (.iaload, 1) := by decide +kernel
theorem dX6_length_38 : decode cX6_length 38 = .ok (.ifCond .ge 7, 3) := by decide +kernel
theorem dX6_length_41 : decode cX6_length 41 = .ok (.iconst 0, 1) := by decide +kernel
theorem dX6_length_42 : decode cX6_length 42 = .ok (.goto 19, 3) := by decide +kernel
theorem dX6_length_45 : decode cX6_length 45 = .ok (.aload_n 0, 1) := by decide +kernel
theorem dX6_length_46 : decode cX6_length 46 = .ok (.aload_n 0, 1) := by decide +kernel
theorem dX6_length_47 : decode cX6_length 47 = .ok (.getfield 7, 3) := by decide +kernel
theorem dX6_length_50 : decode cX6_length 50 = .ok (.iconst 3, 1) := by decide +kernel
theorem dX6_length_51 : decode cX6_length 51 = .ok (.iaload, 1) := by decide +kernel
theorem dX6_length_52 : decode cX6_length 52 = .ok (.aload_n 0, 1) := by decide +kernel
theorem dX6_length_53 : decode cX6_length 53 = .ok (.getfield 28, 3) := by decide +kernel
theorem dX6_length_56 : decode cX6_length 56 = .ok (.iload_n 1, 1) := by decide +kernel
theorem dX6_length_57 : decode cX6_length 57 = .ok (.iaload, 1) := by decide +kernel
theorem dX6_length_58 : decode cX6_length 58 = .ok (.invokevirtual 103, 3) := by decide +kernel
theorem dX6_length_61 : decode cX6_length 61 = .ok (.ireturn, 1) := by decide +kernel
theorem dX6_hand_0 : decode cX6_hand 0 = .ok (.aload_n 0, 1) := by decide +kernel
theorem dX6_hand_1 : decode cX6_hand 1 = .ok (.iconst 0, 1) := by decide +kernel
theorem dX6_hand_2 : decode cX6_hand 2 = .ok (.putfield 35, 3) := by decide +kernel
theorem dX6_hand_5 : decode cX6_hand 5 = .ok (.aload_n 0, 1) := by decide +kernel
theorem dX6_hand_6 : decode cX6_hand 6 = .ok (.invokevirtual 132, 3) := by decide +kernel
theorem dX6_hand_9 : decode cX6_hand 9 = .ok (.ifCond .ne 5, 3) := by decide +kernel
theorem dX6_hand_12 : decode cX6_hand 12 = .ok (.iconst (-1), 1) := by decide +kernel
theorem dX6_hand_13 : decode cX6_hand 13 = .ok (.ireturn, 1) := by decide +kernel
theorem dX6_hand_14 : decode cX6_hand 14 = .ok (.aload_n 0, 1) := by decide +kernel
theorem dX6_hand_15 : decode cX6_hand 15 = .ok (.invokevirtual 135, 3) := by decide +kernel
theorem dX6_hand_18 : decode cX6_hand 18 = .ok (.aload_n 0, 1) := by decide +kernel
theorem dX6_hand_19 : decode cX6_hand 19 = .ok (.invokevirtual 187, 3) := by decide +kernel
theorem dX6_hand_22 : decode cX6_hand 22 = .ok (.aload_n 0, 1) := by decide +kernel
theorem dX6_hand_23 : decode cX6_hand 23 = .ok (.invokevirtual 199, 3) := by decide +kernel
theorem dX6_hand_26 : decode cX6_hand 26 = .ok (.ireturn, 1) := by decide +kernel
theorem dX6_at_0 : decode cX6_at 0 = .ok (.aload_n 0, 1) := by decide +kernel
theorem dX6_at_1 : decode cX6_at 1 = .ok (.aload_n 0, 1) := by decide +kernel
theorem dX6_at_2 : decode cX6_at 2 = .ok (.iload_n 1, 1) := by decide +kernel
theorem dX6_at_3 : decode cX6_at 3 = .ok (.invokevirtual 147, 3) := by decide +kernel
theorem dX6_at_6 : decode cX6_at 6 = .ok (.ifCond .eq 23, 3) := by decide +kernel
theorem dX6_at_9 : decode cX6_at 9 = .ok (.iload_n 2, 1) := by decide +kernel
theorem dX6_at_10 : decode cX6_at 10 = .ok (.iconst 0, 1) := by decide +kernel
theorem dX6_at_11 : decode cX6_at 11 = .ok (.aload_n 0, 1) := by decide +kernel
theorem dX6_at_12 : decode cX6_at 12 = .ok (.getfield 7, 3) := by decide +kernel
theorem dX6_at_15 : decode cX6_at 15 = .ok (.iconst 1, 1) := by decide +kernel
theorem dX6_at_16 : decode cX6_at 16 = .ok (.iaload, 1) := by decide +kernel
theorem dX6_at_17 : decode cX6_at 17 = .ok (.iconst 1, 1) := by decide +kernel
theorem dX6_at_18 : decode cX6_at 18 = .ok (.isub, 1) := by decide +kernel
theorem dX6_at_19 : decode cX6_at 19 = .ok (.invokestatic 39, 3) := by decide +kernel
theorem dX6_at_22 : decode cX6_at 22 = .ok (.ifCond .eq 7, 3) := by decide +kernel
theorem dX6_at_25 : decode cX6_at 25 = .ok (.iconst 0, 1) := by decide +kernel
theorem dX6_at_26 : decode cX6_at 26 = .ok (.goto 4, 3) := by decide +kernel
theorem dX6_at_29 : decode cX6_at 29 = .ok (.iconst 1, 1) := by decide +kernel
theorem dX6_at_30 : decode cX6_at 30 = .ok (.putfield 35, 3) := by decide +kernel
theorem dX6_at_33 : decode cX6_at 33 = .ok (.aload_n 0, 1) := by decide +kernel
theorem dX6_at_34 : decode cX6_at 34 = .ok (.getfield 35, 3) := by decide +kernel
theorem dX6_at_37 : decode cX6_at 37 = .ok (.ifCond .ne 12, 3) := by decide +kernel
theorem dX6_at_40 : decode cX6_at 40 = .ok (.aload_n 0, 1) := by decide +kernel
theorem dX6_at_41 : decode cX6_at 41 = .ok (.iload_n 1, 1) := by decide +kernel
theorem dX6_at_42 : decode cX6_at 42 = .ok (.iload_n 2, 1) := by decide +kernel
theorem dX6_at_43 : decode cX6_at 43 = .ok (.invokevirtual 51, 3) := by decide +kernel
theorem dX6_at_46 : decode cX6_at 46 = .ok (.goto 4, 3) := by decide +kernel
theorem dX6_at_49 : decode cX6_at 49 = .ok (.iconst 0, 1) := by decide +kernel
theorem dX6_at_50 : decode cX6_at 50 = .ok (.ireturn, 1) := by decide +kernel
theorem dX6_sector_0 : decode cX6_sector 0 = .ok (.aload_n 0, 1) := by decide +kernel
theorem dX6_sector_1 : decode cX6_sector 1 = .ok (.iconst 0, 1) := by decide +kernel
theorem dX6_sector_2 : decode cX6_sector 2 = .ok (.putfield 35, 3) := by decide +kernel
theorem dX6_sector_5 : decode cX6_sector 5 = .ok (.aload_n 0, 1) := by decide +kernel
theorem dX6_sector_6 : decode cX6_sector 6 = .ok (.iload_n 1, 1) := by decide +kernel
theorem dX6_sector_7 : decode cX6_sector 7 = .ok (.invokevirtual 147, 3) := by decide +kernel
theorem dX6_sector_10 : decode cX6_sector 10 = .ok (.ifCond .ne 5, 3) := by decide +kernel
theorem dX6_sector_13 : decode cX6_sector 13 = .ok (.iconst (-1), 1) := by decide +kernel
theorem dX6_sector_14 : decode cX6_sector 14 = .ok (.ireturn, 1) := by decide +kernel
theorem dX6_sector_15 : decode cX6_sector 15 = .ok (.iload_n 2, 1) := by decide +kernel
theorem dX6_sector_16 : decode cX6_sector 16 = .ok (.tableswitch 97 0 4 #[36, 43, 49, 59, 74], 36) := by decide +kernel
theorem dX6_sector_52 : decode cX6_sector 52 = .ok (.aload_n 0, 1) := by decide +kernel
theorem dX6_sector_53 : decode cX6_sector 53 = .ok (.iload_n 1, 1) := by decide +kernel
theorem dX6_sector_54 : decode cX6_sector 54 = .ok (.iconst 0, 1) := by decide +kernel
theorem dX6_sector_55 : decode cX6_sector 55 = .ok (.invokevirtual 51, 3) := by decide +kernel
theorem dX6_sector_58 : decode cX6_sector 58 = .ok (.ireturn, 1) := by decide +kernel
theorem dX6_sector_59 : decode cX6_sector 59 = .ok (.aload_n 0, 1) := by decide +kernel
theorem dX6_sector_60 : decode cX6_sector 60 = .ok (.iload_n 1, 1) := by decide +kernel
theorem dX6_sector_61 : decode cX6_sector 61 = .ok (.invokevirtual 116, 3) := by decide +kernel
theorem dX6_sector_64 : decode cX6_sector 64 = .ok (.ireturn, 1) := by decide +kernel
theorem dX6_sector_65 : decode cX6_sector 65 = .ok (.aload_n 0, 1) := by decide +kernel
theorem dX6_sector_66 : decode cX6_sector 66 = .ok (.getfield 7, 3) := by decide +kernel
theorem dX6_sector_69 : decode cX6_sector 69 = .ok (.bipush 36, 2) := by decide +kernel
theorem dX6_sector_71 : decode cX6_sector 71 = .ok (.iload_n 1, 1) := by decide +kernel
theorem dX6_sector_72 : decode cX6_sector 72 = .ok (.iadd, 1) := by decide +kernel
theorem dX6_sector_73 : decode cX6_sector 73 = .ok (.iaload, 1) := by decide +kernel
theorem dX6_sector_74 : decode cX6_sector 74 = .ok (.ireturn, 1) := by decide +kernel
theorem dX6_sector_75 : decode cX6_sector 75 = .ok (.aload_n 0, 1) := by decide +kernel
theorem dX6_sector_76 : decode cX6_sector 76 = .ok (.iload_n 1, 1) := by decide +kernel
theorem dX6_sector_77 : decode cX6_sector 77 = .ok (.iconst 0, 1) := by decide +kernel
theorem dX6_sector_78 : decode cX6_sector 78 = .ok (.invokevirtual 61, 3) := by decide +kernel
theorem dX6_sector_81 : decode cX6_sector 81 = .ok (.ifCond .eq 7, 3) := by decide +kernel
theorem dX6_sector_84 : decode cX6_sector 84 = .ok (.iconst 1, 1) := by decide +kernel
theorem dX6_sector_85 : decode cX6_sector 85 = .ok (.goto 4, 3) := by decide +kernel
theorem dX6_sector_88 : decode cX6_sector 88 = .ok (.iconst 0, 1) := by decide +kernel
theorem dX6_sector_89 : decode cX6_sector 89 = .ok (.ireturn, 1) := by decide +kernel
theorem dX6_sector_90 : decode cX6_sector 90 = .ok (.aload_n 0, 1) := by decide +kernel
theorem dX6_sector_91 : decode cX6_sector 91 = .ok (.invokevirtual 132, 3) := by decide +kernel
theorem dX6_sector_94 : decode cX6_sector 94 = .ok (.ifCond .eq 17, 3) := by decide +kernel
theorem dX6_sector_97 : decode cX6_sector 97 = .ok (.aload_n 0, 1) := by decide +kernel
theorem dX6_sector_98 : decode cX6_sector 98 = .ok (.getfield 7, 3) := by decide +kernel
theorem dX6_sector_101 : decode cX6_sector 101 = .ok (.iconst 3, 1) := by decide +kernel
theorem dX6_sector_102 : decode cX6_sector 102 = .ok (.iaload, 1) := by decide +kernel
theorem dX6_sector_103 : decode cX6_sector 103 = .ok (.iload_n 1, 1) := by decide +kernel
theorem dX6_sector_104 : decode cX6_sector 104 = .ok (.if_icmp .ne 7, 3) := by decide +kernel
theorem dX6_sector_107 : decode cX6_sector 107 = .ok (.iconst 1, 1) := by decide +kernel
theorem dX6_sector_108 : decode cX6_sector 108 = .ok (.goto 4, 3) := by decide +kernel
theorem dX6_sector_111 : decode cX6_sector 111 = .ok (.iconst 0, 1) := by decide +kernel
theorem dX6_sector_112 : decode cX6_sector 112 = .ok (.ireturn, 1) := by decide +kernel
theorem dX6_sector_113 : decode cX6_sector 113 = .ok (.iconst (-1), 1) := by decide +kernel
theorem dX6_sector_114 : decode cX6_sector 114 = .ok (.ireturn, 1) := by decide +kernel
theorem dX6_entry_0 : decode cX6_entry 0 = .ok (.aload_n 0, 1) := by decide +kernel
theorem dX6_entry_1 : decode cX6_entry 1 = .ok (.iconst 0, 1) := by decide +kernel
theorem dX6_entry_2 : decode cX6_entry 2 = .ok (.putfield 35, 3) := by decide +kernel
theorem dX6_entry_5 : decode cX6_entry 5 = .ok (.aload_n 0, 1) := by decide +kernel
theorem dX6_entry_6 : decode cX6_entry 6 = .ok (.iload_n 1, 1) := by decide +kernel
theorem dX6_entry_7 : decode cX6_entry 7 = .ok (.invokevirtual 147, 3) := by decide +kernel
theorem dX6_entry_10 : decode cX6_entry 10 = .ok (.ifCond .eq 12, 3) := by decide +kernel
theorem dX6_entry_13 : decode cX6_entry 13 = .ok (.iload_n 3, 1) := by decide +kernel
theorem dX6_entry_14 : decode cX6_entry 14 = .ok (.iconst 0, 1) := by decide +kernel
theorem dX6_entry_15 : decode cX6_entry 15 = .ok (.iconst 4, 1) := by decide +kernel
theorem dX6_entry_16 : decode cX6_entry 16 = .ok (.invokestatic 39, 3) := by decide +kernel
theorem dX6_entry_19 : decode cX6_entry 19 = .ok (.ifCond .ne 5, 3) := by decide +kernel
theorem dX6_entry_22 : decode cX6_entry 22 = .ok (.iconst (-1), 1) := by decide +kernel
theorem dX6_entry_23 : decode cX6_entry 23 = .ok (.ireturn, 1) := by decide +kernel
theorem dX6_entry_24 : decode cX6_entry 24 = .ok (.aload_n 0, 1) := by decide +kernel
theorem dX6_entry_25 : decode cX6_entry 25 = .ok (.iload_n 1, 1) := by decide +kernel
theorem dX6_entry_26 : decode cX6_entry 26 = .ok (.invokevirtual 141, 3) := by decide +kernel
theorem dX6_entry_29 : decode cX6_entry 29 = .ok (.iload_n 2, 1) := by decide +kernel
theorem dX6_entry_30 : decode cX6_entry 30 = .ok (.iconst (-1), 1) := by decide +kernel
theorem dX6_entry_31 : decode cX6_entry 31 = .ok (.if_icmp .ne 8, 3) := by decide +kernel
theorem dX6_entry_34 : decode cX6_entry 34 = .ok (.aload_n 0, 1) := by decide +kernel
theorem dX6_entry_35 : decode cX6_entry 35 = .ok (.getfield 55, 3) := by decide +kernel
theorem dX6_entry_38 : decode cX6_entry 38 = .ok (.ireturn, 1) := by decide +kernel
theorem dX6_entry_39 : decode cX6_entry 39 = .ok (.iload_n 2, 1) := by decide +kernel
theorem dX6_entry_40 : decode cX6_entry 40 = .ok (.iconst 0, 1) := by decide +kernel
theorem dX6_entry_41 : decode cX6_entry 41 = .ok (.aload_n 0, 1) := by decide +kernel
theorem dX6_entry_42 : decode cX6_entry 42 = .ok (.getfield 55, 3) := by decide +kernel
theorem dX6_entry_45 : decode cX6_entry 45 = .ok (.iconst 1, 1) := by decide +kernel
theorem dX6_entry_46 : decode cX6_entry 46 = .ok (.isub, 1) := by decide +kernel
theorem dX6_entry_47 : decode cX6_entry 47 = .ok (.invokestatic 39, 3) := by decide +kernel
theorem dX6_entry_50 : decode cX6_entry 50 = .ok (.ifCond .ne 5, 3) := by decide +kernel
theorem dX6_entry_53 : decode cX6_entry 53 = .ok (.iconst (-1), 1) := by decide +kernel
theorem dX6_entry_54 : decode cX6_entry 54 = .ok (.ireturn, 1) := by decide +kernel
theorem dX6_entry_55 : decode cX6_entry 55 = .ok (.iload_n 3, 1) := by decide +kernel
theorem dX6_entry_56 : decode cX6_entry 56 = .ok (.tableswitch 65 0 3 #[32, 39, 51, 58], 32) := by decide +kernel
theorem dX6_entry_88 : decode cX6_entry 88 = .ok (.aload_n 0, 1) := by decide +kernel
theorem dX6_entry_89 : decode cX6_entry 89 = .ok (.getfield 16, 3) := by decide +kernel
theorem dX6_entry_92 : decode cX6_entry 92 = .ok (.iload_n 2, 1) := by decide +kernel
theorem dX6_entry_93 : decode cX6_entry 93 = .ok (.iaload, 1) := by decide +kernel
theorem dX6_entry_94 : decode cX6_entry 94 = .ok (.ireturn, 1) := by decide +kernel
theorem dX6_entry_95 : decode cX6_entry 95 = .ok (.aload_n 0, 1) := by decide +kernel
theorem dX6_entry_96 : decode cX6_entry 96 = .ok (.iload_n 1, 1) := by decide +kernel
theorem dX6_entry_97 : decode cX6_entry 97 = .ok (.aload_n 0, 1) := by decide +kernel
theorem dX6_entry_98 : decode cX6_entry 98 = .ok (.getfield 16, 3) := by decide +kernel
theorem dX6_entry_101 : decode cX6_entry 101 = .ok (.iload_n 2, 1) := by decide +kernel
theorem dX6_entry_102 : decode cX6_entry 102 = .ok (.iaload, 1) := by decide +kernel
theorem dX6_entry_103 : decode cX6_entry 103 = .ok (.invokevirtual 51, 3) := by decide +kernel
theorem dX6_entry_106 : decode cX6_entry 106 = .ok (.ireturn, 1) := by decide +kernel
theorem dX6_entry_107 : decode cX6_entry 107 = .ok (.aload_n 0, 1) := by decide +kernel
theorem dX6_entry_108 : decode cX6_entry 108 = .ok (.getfield 19, 3) := by decide +kernel
theorem dX6_entry_111 : decode cX6_entry 111 = .ok (.iload_n 2, 1) := by decide +kernel
theorem dX6_entry_112 : decode cX6_entry 112 = .ok (.iaload, 1) := by decide +kernel
theorem dX6_entry_113 : decode cX6_entry 113 = .ok (.ireturn, 1) := by decide +kernel
theorem dX6_entry_114 : decode cX6_entry 114 = .ok (.aload_n 0, 1) := by decide +kernel
theorem dX6_entry_115 : decode cX6_entry 115 = .ok (.getfield 22, 3) := by decide +kernel
theorem dX6_entry_118 : decode cX6_entry 118 = .ok (.iload_n 2, 1) := by decide +kernel
theorem dX6_entry_119 : decode cX6_entry 119 = .ok (.iaload, 1) := by decide +kernel
theorem dX6_entry_120 : decode cX6_entry 120 = .ok (.ireturn, 1) := by decide +kernel
theorem dX6_entry_121 : decode cX6_entry 121 = .ok (.aload_n 0, 1) := by decide +kernel
theorem dX6_entry_122 : decode cX6_entry 122 = .ok (.getfield 25, 3) := by decide +kernel
theorem dX6_entry_125 : decode cX6_entry 125 = .ok (.iload_n 2, 1) := by decide +kernel
theorem dX6_entry_126 : decode cX6_entry 126 = .ok (.iaload, 1) := by decide +kernel
theorem dX6_entry_127 : decode cX6_entry 127 = .ok (.ireturn, 1) := by decide +kernel
theorem dX6_space_0 : decode cX6_space 0 = .ok (.aload_n 0, 1) := by decide +kernel
theorem dX6_space_1 : decode cX6_space 1 = .ok (.iconst 0, 1) := by decide +kernel
theorem dX6_space_2 : decode cX6_space 2 = .ok (.putfield 35, 3) := by decide +kernel
theorem dX6_space_5 : decode cX6_space 5 = .ok (.aload_n 0, 1) := by decide +kernel
theorem dX6_space_6 : decode cX6_space 6 = .ok (.iload_n 1, 1) := by decide +kernel
theorem dX6_space_7 : decode cX6_space 7 = .ok (.invokevirtual 147, 3) := by decide +kernel
theorem dX6_space_10 : decode cX6_space 10 = .ok (.ifCond .eq 12, 3) := by decide +kernel
theorem dX6_space_13 : decode cX6_space 13 = .ok (.iload_n 2, 1) := by decide +kernel
theorem dX6_space_14 : decode cX6_space 14 = .ok (.iconst 0, 1) := by decide +kernel
theorem dX6_space_15 : decode cX6_space 15 = .ok (.iconst 3, 1) := by decide +kernel
theorem dX6_space_16 : decode cX6_space 16 = .ok (.invokestatic 39, 3) := by decide +kernel
theorem dX6_space_19 : decode cX6_space 19 = .ok (.ifCond .ne 5, 3) := by decide +kernel
theorem dX6_space_22 : decode cX6_space 22 = .ok (.iconst (-1), 1) := by decide +kernel
theorem dX6_space_23 : decode cX6_space 23 = .ok (.ireturn, 1) := by decide +kernel
theorem dX6_space_24 : decode cX6_space 24 = .ok (.aload_n 0, 1) := by decide +kernel
theorem dX6_space_25 : decode cX6_space 25 = .ok (.iload_n 1, 1) := by decide +kernel
theorem dX6_space_26 : decode cX6_space 26 = .ok (.invokevirtual 141, 3) := by decide +kernel
theorem dX6_space_29 : decode cX6_space 29 = .ok (.iload_n 2, 1) := by decide +kernel
theorem dX6_space_30 : decode cX6_space 30 = .ok (.iconst 2, 1) := by decide +kernel
theorem dX6_space_31 : decode cX6_space 31 = .ok (.if_icmp .ge 19, 3) := by decide +kernel
theorem dX6_space_34 : decode cX6_space 34 = .ok (.iload_n 2, 1) := by decide +kernel
theorem dX6_space_35 : decode cX6_space 35 = .ok (.ifCond .ne 10, 3) := by decide +kernel
theorem dX6_space_38 : decode cX6_space 38 = .ok (.aload_n 0, 1) := by decide +kernel
theorem dX6_space_39 : decode cX6_space 39 = .ok (.getfield 82, 3) := by decide +kernel
theorem dX6_space_42 : decode cX6_space 42 = .ok (.goto 7, 3) := by decide +kernel
theorem dX6_space_45 : decode cX6_space 45 = .ok (.aload_n 0, 1) := by decide +kernel
theorem dX6_space_46 : decode cX6_space 46 = .ok (.getfield 58, 3) := by decide +kernel
theorem dX6_space_49 : decode cX6_space 49 = .ok (.ireturn, 1) := by decide +kernel
theorem dX6_space_50 : decode cX6_space 50 = .ok (.iconst 0, 1) := by decide +kernel
theorem dX6_space_51 : decode cX6_space 51 = .ok (.istore_n 3, 1) := by decide +kernel
theorem dX6_space_52 : decode cX6_space 52 = .ok (.iconst 0, 1) := by decide +kernel
theorem dX6_space_53 : decode cX6_space 53 = .ok (.istore 4, 2) := by decide +kernel
theorem dX6_space_55 : decode cX6_space 55 = .ok (.iconst 0, 1) := by decide +kernel
theorem dX6_space_56 : decode cX6_space 56 = .ok (.istore 5, 2) := by decide +kernel
theorem dX6_space_58 : decode cX6_space 58 = .ok (.iload 5, 2) := by decide +kernel
theorem dX6_space_60 : decode cX6_space 60 = .ok (.aload_n 0, 1) := by decide +kernel
theorem dX6_space_61 : decode cX6_space 61 = .ok (.getfield 55, 3) := by decide +kernel
theorem dX6_space_64 : decode cX6_space 64 = .ok (.if_icmp .ge 62, 3) := by decide +kernel
theorem dX6_space_67 : decode cX6_space 67 = .ok (.iload 4, 2) := by decide +kernel
theorem dX6_space_69 : decode cX6_space 69 = .ok (.aload_n 0, 1) := by decide +kernel
theorem dX6_space_70 : decode cX6_space 70 = .ok (.getfield 22, 3) := by decide +kernel
theorem dX6_space_73 : decode cX6_space 73 = .ok (.iload 5, 2) := by decide +kernel
theorem dX6_space_75 : decode cX6_space 75 = .ok (.iaload, 1) := by decide +kernel
theorem dX6_space_76 : decode cX6_space 76 = .ok (.iadd, 1) := by decide +kernel
theorem dX6_space_77 : decode cX6_space 77 = .ok (.istore 4, 2) := by decide +kernel
theorem dX6_space_79 : decode cX6_space 79 = .ok (.aload_n 0, 1) := by decide +kernel
theorem dX6_space_80 : decode cX6_space 80 = .ok (.getfield 19, 3) := by decide +kernel
theorem dX6_space_83 : decode cX6_space 83 = .ok (.iload 5, 2) := by decide +kernel
theorem dX6_space_85 : decode cX6_space 85 = .ok (.iaload, 1) := by decide +kernel
theorem dX6_space_86 : decode cX6_space 86 = .ok (.iconst 3, 1) := by decide +kernel
theorem dX6_space_87 : decode cX6_space 87 = .ok (.if_icmp .eq 33, 3) := by decide +kernel
theorem dX6_space_90 : decode cX6_space 90 = .ok (.aload_n 0, 1) := by decide +kernel
theorem dX6_space_91 : decode cX6_space 91 = .ok (.getfield 25, 3) := by decide +kernel
theorem dX6_space_94 : decode cX6_space 94 = .ok (.iload 5, 2) := by decide +kernel
theorem dX6_space_96 : decode cX6_space 96 = .ok (.iaload, 1) := by decide +kernel
theorem dX6_space_97 : decode cX6_space 97 = .ok (.ifCond .ne 23, 3) := by decide +kernel
theorem dX6_space_100 : decode cX6_space 100 = .ok (.aload_n 0, 1) := by decide +kernel
theorem dX6_space_101 : decode cX6_space 101 = .ok (.iload_n 1, 1) := by decide +kernel
theorem dX6_space_102 : decode cX6_space 102 = .ok (.iload 5, 2) := by decide +kernel
theorem dX6_space_104 : decode cX6_space 104 = .ok (.invokevirtual 103, 3) := by decide +kernel
theorem dX6_space_107 : decode cX6_space 107 = .ok (.ifCond .le 13, 3) := by decide +kernel
theorem dX6_space_110 : decode cX6_space 110 = .ok (.iload_n 3, 1) := by decide +kernel
theorem dX6_space_111 : decode cX6_space 111 = .ok (.aload_n 0, 1) := by decide +kernel
theorem dX6_space_112 : decode cX6_space 112 = .ok (.getfield 22, 3) := by decide +kernel
theorem dX6_space_115 : decode cX6_space 115 = .ok (.iload 5, 2) := by decide +kernel
theorem dX6_space_117 : decode cX6_space 117 = .ok (.iaload, 1) := by decide +kernel
theorem dX6_space_118 : decode cX6_space 118 = .ok (.iadd, 1) := by decide +kernel
theorem dX6_space_119 : decode cX6_space 119 = .ok (.istore_n 3, 1) := by decide +kernel
theorem dX6_space_120 : decode cX6_space 120 = .ok (.iinc 5 1, 3) := by decide +kernel
theorem dX6_space_123 : decode cX6_space 123 = .ok (.goto (-65), 3) := by decide +kernel
theorem dX6_space_126 : decode cX6_space 126 = .ok (.iload_n 2, 1) := by decide +kernel
theorem dX6_space_127 : decode cX6_space 127 = .ok (.iconst 2, 1) := by decide +kernel
theorem dX6_space_128 : decode cX6_space 128 = .ok (.if_icmp .ne 7, 3) := by decide +kernel
theorem dX6_space_131 : decode cX6_space 131 = .ok (.iload_n 3, 1) := by decide +kernel
theorem dX6_space_132 : decode cX6_space 132 = .ok (.goto 7, 3) := by decide +kernel
theorem dX6_space_135 : decode cX6_space 135 = .ok (.iload 4, 2) := by decide +kernel
theorem dX6_space_137 : decode cX6_space 137 = .ok (.iload_n 3, 1) := by decide +kernel
theorem dX6_space_138 : decode cX6_space 138 = .ok (.isub, 1) := by decide +kernel
theorem dX6_space_139 : decode cX6_space 139 = .ok (.ireturn, 1) := by decide +kernel
theorem dX6_until_0 : decode cX6_until 0 = .ok (.aload_n 0, 1) := by decide +kernel
theorem dX6_until_1 : decode cX6_until 1 = .ok (.iconst 0, 1) := by decide +kernel
theorem dX6_until_2 : decode cX6_until 2 = .ok (.putfield 35, 3) := by decide +kernel
theorem dX6_until_5 : decode cX6_until 5 = .ok (.aload_n 0, 1) := by decide +kernel
theorem dX6_until_6 : decode cX6_until 6 = .ok (.invokevirtual 132, 3) := by decide +kernel
theorem dX6_until_9 : decode cX6_until 9 = .ok (.ifCond .eq 23, 3) := by decide +kernel
theorem dX6_until_12 : decode cX6_until 12 = .ok (.iload_n 1, 1) := by decide +kernel
theorem dX6_until_13 : decode cX6_until 13 = .ok (.iconst 1, 1) := by decide +kernel
theorem dX6_until_14 : decode cX6_until 14 = .ok (.iconst 4, 1) := by decide +kernel
theorem dX6_until_15 : decode cX6_until 15 = .ok (.invokestatic 39, 3) := by decide +kernel
theorem dX6_until_18 : decode cX6_until 18 = .ok (.ifCond .eq 14, 3) := by decide +kernel
theorem dX6_until_21 : decode cX6_until 21 = .ok (.aload_n 0, 1) := by decide +kernel
theorem dX6_until_22 : decode cX6_until 22 = .ok (.invokevirtual 181, 3) := by decide +kernel
theorem dX6_until_25 : decode cX6_until 25 = .ok (.iconst 3, 1) := by decide +kernel
theorem dX6_until_26 : decode cX6_until 26 = .ok (.iload_n 1, 1) := by decide +kernel
theorem dX6_until_27 : decode cX6_until 27 = .ok (.iadd, 1) := by decide +kernel
theorem dX6_until_28 : decode cX6_until 28 = .ok (.idiv, 1) := by decide +kernel
theorem dX6_until_29 : decode cX6_until 29 = .ok (.goto 4, 3) := by decide +kernel
theorem dX6_until_32 : decode cX6_until 32 = .ok (.iconst (-1), 1) := by decide +kernel
theorem dX6_until_33 : decode cX6_until 33 = .ok (.ireturn, 1) := by decide +kernel
theorem dX6_after_0 : decode cX6_after 0 = .ok (.aload_n 0, 1) := by decide +kernel
theorem dX6_after_1 : decode cX6_after 1 = .ok (.iconst 0, 1) := by decide +kernel
theorem dX6_after_2 : decode cX6_after 2 = .ok (.putfield 35, 3) := by decide +kernel
theorem dX6_after_5 : decode cX6_after 5 = .ok (.aload_n 0, 1) := by decide +kernel
theorem dX6_after_6 : decode cX6_after 6 = .ok (.invokevirtual 132, 3) := by decide +kernel
theorem dX6_after_9 : decode cX6_after 9 = .ok (.ifCond .eq 10, 3) := by decide +kernel
theorem dX6_after_12 : decode cX6_after 12 = .ok (.aload_n 0, 1) := by decide +kernel
theorem dX6_after_13 : decode cX6_after 13 = .ok (.invokevirtual 184, 3) := by decide +kernel
theorem dX6_after_16 : decode cX6_after 16 = .ok (.goto 4, 3) := by decide +kernel
theorem dX6_after_19 : decode cX6_after 19 = .ok (.iconst (-1), 1) := by decide +kernel
theorem dX6_after_20 : decode cX6_after 20 = .ok (.ireturn, 1) := by decide +kernel
theorem dX6_wouldCost_0 : decode cX6_wouldCost 0 = .ok (.aload_n 0, 1) := by decide +kernel
theorem dX6_wouldCost_1 : decode cX6_wouldCost 1 = .ok (.invokevirtual 224, 3) := by decide +kernel
theorem dX6_wouldCost_4 : decode cX6_wouldCost 4 = .ok (.aload_n 0, 1) := by decide +kernel
theorem dX6_wouldCost_5 : decode cX6_wouldCost 5 = .ok (.getfield 7, 3) := by decide +kernel
theorem dX6_wouldCost_8 : decode cX6_wouldCost 8 = .ok (.iconst 4, 1) := by decide +kernel
theorem dX6_wouldCost_9 : decode cX6_wouldCost 9 = .ok (.iconst 0, 1) := by decide +kernel
theorem dX6_wouldCost_10 : decode cX6_wouldCost 10 = .ok (.iastore, 1) := by decide +kernel
theorem dX6_wouldCost_11 : decode cX6_wouldCost 11 = .ok (.aload_n 0, 1) := by decide +kernel
theorem dX6_wouldCost_12 : decode cX6_wouldCost 12 = .ok (.iconst 0, 1) := by decide +kernel
theorem dX6_wouldCost_13 : decode cX6_wouldCost 13 = .ok (.iconst 0, 1) := by decide +kernel
theorem dX6_wouldCost_14 : decode cX6_wouldCost 14 = .ok (.iload_n 1, 1) := by decide +kernel
theorem dX6_wouldCost_15 : decode cX6_wouldCost 15 = .ok (.invokevirtual 205, 3) := by decide +kernel
theorem dX6_wouldCost_18 : decode cX6_wouldCost 18 = .ok (.istore_n 2, 1) := by decide +kernel
theorem dX6_wouldCost_19 : decode cX6_wouldCost 19 = .ok (.aload_n 0, 1) := by decide +kernel
theorem dX6_wouldCost_20 : decode cX6_wouldCost 20 = .ok (.invokevirtual 227, 3) := by decide +kernel
theorem dX6_wouldCost_23 : decode cX6_wouldCost 23 = .ok (.iload_n 2, 1) := by decide +kernel
theorem dX6_wouldCost_24 : decode cX6_wouldCost 24 = .ok (.ireturn, 1) := by decide +kernel
theorem dX6_costs_0 : decode cX6_costs 0 = .ok (.aload_n 0, 1) := by decide +kernel
theorem dX6_costs_1 : decode cX6_costs 1 = .ok (.iconst 0, 1) := by decide +kernel
theorem dX6_costs_2 : decode cX6_costs 2 = .ok (.putfield 35, 3) := by decide +kernel
theorem dX6_costs_5 : decode cX6_costs 5 = .ok (.aload_n 0, 1) := by decide +kernel
theorem dX6_costs_6 : decode cX6_costs 6 = .ok (.invokevirtual 132, 3) := by decide +kernel
theorem dX6_costs_9 : decode cX6_costs 9 = .ok (.ifCond .eq 30, 3) := by decide +kernel
theorem dX6_costs_12 : decode cX6_costs 12 = .ok (.aload_n 0, 1) := by decide +kernel
theorem dX6_costs_13 : decode cX6_costs 13 = .ok (.getfield 7, 3) := by decide +kernel
theorem dX6_costs_16 : decode cX6_costs 16 = .ok (.bipush 10, 2) := by decide +kernel
theorem dX6_costs_18 : decode cX6_costs 18 = .ok (.iaload, 1) := by decide +kernel
theorem dX6_costs_19 : decode cX6_costs 19 = .ok (.ifCond .ne 20, 3) := by decide +kernel
theorem dX6_costs_22 : decode cX6_costs 22 = .ok (.iload_n 1, 1) := by decide +kernel
theorem dX6_costs_23 : decode cX6_costs 23 = .ok (.iconst 1, 1) := by decide +kernel
theorem dX6_costs_24 : decode cX6_costs 24 = .ok (.iconst 4, 1) := by decide +kernel
theorem dX6_costs_25 : decode cX6_costs 25 = .ok (.invokestatic 39, 3) := by decide +kernel
theorem dX6_costs_28 : decode cX6_costs 28 = .ok (.ifCond .eq 11, 3) := by decide +kernel
theorem dX6_costs_31 : decode cX6_costs 31 = .ok (.aload_n 0, 1) := by decide +kernel
theorem dX6_costs_32 : decode cX6_costs 32 = .ok (.iload_n 1, 1) := by decide +kernel
theorem dX6_costs_33 : decode cX6_costs 33 = .ok (.invokevirtual 230, 3) := by decide +kernel
theorem dX6_costs_36 : decode cX6_costs 36 = .ok (.goto 4, 3) := by decide +kernel
theorem dX6_costs_39 : decode cX6_costs 39 = .ok (.iconst (-1), 1) := by decide +kernel
theorem dX6_costs_40 : decode cX6_costs 40 = .ok (.ireturn, 1) := by decide +kernel
theorem dX6_torn_0 : decode cX6_torn 0 = .ok (.aload_n 0, 1) := by decide +kernel
theorem dX6_torn_1 : decode cX6_torn 1 = .ok (.iconst 0, 1) := by decide +kernel
theorem dX6_torn_2 : decode cX6_torn 2 = .ok (.putfield 35, 3) := by decide +kernel
theorem dX6_torn_5 : decode cX6_torn 5 = .ok (.aload_n 0, 1) := by decide +kernel
theorem dX6_torn_6 : decode cX6_torn 6 = .ok (.iload_n 1, 1) := by decide +kernel
theorem dX6_torn_7 : decode cX6_torn 7 = .ok (.iload_n 3, 1) := by decide +kernel
theorem dX6_torn_8 : decode cX6_torn 8 = .ok (.invokevirtual 202, 3) := by decide +kernel
theorem dX6_torn_11 : decode cX6_torn 11 = .ok (.ifCond .eq 36, 3) := by decide +kernel
theorem dX6_torn_14 : decode cX6_torn 14 = .ok (.aload_n 0, 1) := by decide +kernel
theorem dX6_torn_15 : decode cX6_torn 15 = .ok (.getfield 7, 3) := by decide +kernel
theorem dX6_torn_18 : decode cX6_torn 18 = .ok (.bipush 10, 2) := by decide +kernel
theorem dX6_torn_20 : decode cX6_torn 20 = .ok (.iaload, 1) := by decide +kernel
theorem dX6_torn_21 : decode cX6_torn 21 = .ok (.iconst 1, 1) := by decide +kernel
theorem dX6_torn_22 : decode cX6_torn 22 = .ok (.if_icmp .eq 25, 3) := by decide +kernel
theorem dX6_torn_25 : decode cX6_torn 25 = .ok (.iload 5, 2) := by decide +kernel
theorem dX6_torn_27 : decode cX6_torn 27 = .ok (.iconst 0, 1) := by decide +kernel
theorem dX6_torn_28 : decode cX6_torn 28 = .ok (.sipush 255, 3) := by decide +kernel
theorem dX6_torn_31 : decode cX6_torn 31 = .ok (.invokestatic 39, 3) := by decide +kernel
theorem dX6_torn_34 : decode cX6_torn 34 = .ok (.ifCond .eq 13, 3) := by decide +kernel
theorem dX6_torn_37 : decode cX6_torn 37 = .ok (.iload 6, 2) := by decide +kernel
end
section
theorem dX6_torn_39 : decode cX6_torn 39 = .ok (.iconst 0, 1) := by decide +kernel
theorem dX6_torn_40 : decode cX6_torn 40 = .ok (.iconst 3, 1) := by decide +kernel
theorem dX6_torn_41 : decode cX6_torn 41 = .ok (.invokestatic 39, 3) := by decide +kernel
theorem dX6_torn_44 : decode cX6_torn 44 = .ok (.ifCond .ne 7, 3) := by decide +kernel
theorem dX6_torn_47 : decode cX6_torn 47 = .ok (.ldc2_w 222, 3) := by decide +kernel
theorem dX6_torn_50 : decode cX6_torn 50 = .ok (.lreturn, 1) := by decide +kernel
theorem dX6_torn_51 : decode cX6_torn 51 = .ok (.iload 4, 2) := by decide +kernel
theorem dX6_torn_53 : decode cX6_torn 53 = .ok (.iconst 1, 1) := by decide +kernel
theorem dX6_torn_54 : decode cX6_torn 54 = .ok (.if_icmp .lt 13, 3) := by decide +kernel
theorem dX6_torn_57 : decode cX6_torn 57 = .ok (.iload 4, 2) := by decide +kernel
theorem dX6_torn_59 : decode cX6_torn 59 = .ok (.aload_n 0, 1) := by decide +kernel
theorem dX6_torn_60 : decode cX6_torn 60 = .ok (.iload_n 3, 1) := by decide +kernel
theorem dX6_torn_61 : decode cX6_torn 61 = .ok (.invokevirtual 230, 3) := by decide +kernel
theorem dX6_torn_64 : decode cX6_torn 64 = .ok (.if_icmp .le 7, 3) := by decide +kernel
theorem dX6_torn_67 : decode cX6_torn 67 = .ok (.ldc2_w 222, 3) := by decide +kernel
theorem dX6_torn_70 : decode cX6_torn 70 = .ok (.lreturn, 1) := by decide +kernel
theorem dX6_torn_71 : decode cX6_torn 71 = .ok (.aload_n 0, 1) := by decide +kernel
theorem dX6_torn_72 : decode cX6_torn 72 = .ok (.invokevirtual 224, 3) := by decide +kernel
theorem dX6_torn_75 : decode cX6_torn 75 = .ok (.aload_n 0, 1) := by decide +kernel
theorem dX6_torn_76 : decode cX6_torn 76 = .ok (.getfield 7, 3) := by decide +kernel
theorem dX6_torn_79 : decode cX6_torn 79 = .ok (.iconst 4, 1) := by decide +kernel
theorem dX6_torn_80 : decode cX6_torn 80 = .ok (.iload 4, 2) := by decide +kernel
theorem dX6_torn_82 : decode cX6_torn 82 = .ok (.iastore, 1) := by decide +kernel
theorem dX6_torn_83 : decode cX6_torn 83 = .ok (.aload_n 0, 1) := by decide +kernel
theorem dX6_torn_84 : decode cX6_torn 84 = .ok (.getfield 7, 3) := by decide +kernel
theorem dX6_torn_87 : decode cX6_torn 87 = .ok (.iconst 5, 1) := by decide +kernel
theorem dX6_torn_88 : decode cX6_torn 88 = .ok (.iload 5, 2) := by decide +kernel
theorem dX6_torn_90 : decode cX6_torn 90 = .ok (.iastore, 1) := by decide +kernel
theorem dX6_torn_91 : decode cX6_torn 91 = .ok (.aload_n 0, 1) := by decide +kernel
theorem dX6_torn_92 : decode cX6_torn 92 = .ok (.iload_n 1, 1) := by decide +kernel
theorem dX6_torn_93 : decode cX6_torn 93 = .ok (.iload_n 2, 1) := by decide +kernel
theorem dX6_torn_94 : decode cX6_torn 94 = .ok (.iload_n 3, 1) := by decide +kernel
theorem dX6_torn_95 : decode cX6_torn 95 = .ok (.invokevirtual 205, 3) := by decide +kernel
theorem dX6_torn_98 : decode cX6_torn 98 = .ok (.istore 7, 2) := by decide +kernel
theorem dX6_torn_100 : decode cX6_torn 100 = .ok (.aload_n 0, 1) := by decide +kernel
theorem dX6_torn_101 : decode cX6_torn 101 = .ok (.invokevirtual 135, 3) := by decide +kernel
theorem dX6_torn_104 : decode cX6_torn 104 = .ok (.aload_n 0, 1) := by decide +kernel
theorem dX6_torn_105 : decode cX6_torn 105 = .ok (.invokevirtual 138, 3) := by decide +kernel
theorem dX6_torn_108 : decode cX6_torn 108 = .ok (.aload_n 0, 1) := by decide +kernel
theorem dX6_torn_109 : decode cX6_torn 109 = .ok (.getfield 7, 3) := by decide +kernel
theorem dX6_torn_112 : decode cX6_torn 112 = .ok (.bipush 8, 2) := by decide +kernel
theorem dX6_torn_114 : decode cX6_torn 114 = .ok (.iaload, 1) := by decide +kernel
theorem dX6_torn_115 : decode cX6_torn 115 = .ok (.istore 8, 2) := by decide +kernel
theorem dX6_torn_117 : decode cX6_torn 117 = .ok (.iload 6, 2) := by decide +kernel
theorem dX6_torn_119 : decode cX6_torn 119 = .ok (.ifCond .ne 11, 3) := by decide +kernel
theorem dX6_torn_122 : decode cX6_torn 122 = .ok (.aload_n 0, 1) := by decide +kernel
theorem dX6_torn_123 : decode cX6_torn 123 = .ok (.iload_n 1, 1) := by decide +kernel
theorem dX6_torn_124 : decode cX6_torn 124 = .ok (.invokevirtual 218, 3) := by decide +kernel
theorem dX6_torn_127 : decode cX6_torn 127 = .ok (.goto 20, 3) := by decide +kernel
theorem dX6_torn_130 : decode cX6_torn 130 = .ok (.iload 6, 2) := by decide +kernel
theorem dX6_torn_132 : decode cX6_torn 132 = .ok (.iconst 1, 1) := by decide +kernel
theorem dX6_torn_133 : decode cX6_torn 133 = .ok (.if_icmp .ne 11, 3) := by decide +kernel
theorem dX6_torn_136 : decode cX6_torn 136 = .ok (.aload_n 0, 1) := by decide +kernel
theorem dX6_torn_137 : decode cX6_torn 137 = .ok (.invokevirtual 181, 3) := by decide +kernel
theorem dX6_torn_140 : decode cX6_torn 140 = .ok (.i2l, 1) := by decide +kernel
theorem dX6_torn_141 : decode cX6_torn 141 = .ok (.goto 6, 3) := by decide +kernel
theorem dX6_torn_144 : decode cX6_torn 144 = .ok (.iload 8, 2) := by decide +kernel
theorem dX6_torn_146 : decode cX6_torn 146 = .ok (.i2l, 1) := by decide +kernel
theorem dX6_torn_147 : decode cX6_torn 147 = .ok (.lstore 9, 2) := by decide +kernel
theorem dX6_torn_149 : decode cX6_torn 149 = .ok (.iload 6, 2) := by decide +kernel
theorem dX6_torn_151 : decode cX6_torn 151 = .ok (.iconst 3, 1) := by decide +kernel
theorem dX6_torn_152 : decode cX6_torn 152 = .ok (.if_icmp .ne 26, 3) := by decide +kernel
theorem dX6_torn_155 : decode cX6_torn 155 = .ok (.aload_n 0, 1) := by decide +kernel
theorem dX6_torn_156 : decode cX6_torn 156 = .ok (.aload_n 0, 1) := by decide +kernel
theorem dX6_torn_157 : decode cX6_torn 157 = .ok (.getfield 7, 3) := by decide +kernel
theorem dX6_torn_160 : decode cX6_torn 160 = .ok (.iconst 3, 1) := by decide +kernel
theorem dX6_torn_161 : decode cX6_torn 161 = .ok (.iaload, 1) := by decide +kernel
theorem dX6_torn_162 : decode cX6_torn 162 = .ok (.invokevirtual 141, 3) := by decide +kernel
theorem dX6_torn_165 : decode cX6_torn 165 = .ok (.aload_n 0, 1) := by decide +kernel
theorem dX6_torn_166 : decode cX6_torn 166 = .ok (.aload_n 0, 1) := by decide +kernel
theorem dX6_torn_167 : decode cX6_torn 167 = .ok (.getfield 7, 3) := by decide +kernel
theorem dX6_torn_170 : decode cX6_torn 170 = .ok (.iconst 3, 1) := by decide +kernel
theorem dX6_torn_171 : decode cX6_torn 171 = .ok (.iaload, 1) := by decide +kernel
theorem dX6_torn_172 : decode cX6_torn 172 = .ok (.invokevirtual 144, 3) := by decide +kernel
theorem dX6_torn_175 : decode cX6_torn 175 = .ok (.i2l, 1) := by decide +kernel
theorem dX6_torn_176 : decode cX6_torn 176 = .ok (.lstore 9, 2) := by decide +kernel
theorem dX6_torn_178 : decode cX6_torn 178 = .ok (.aload_n 0, 1) := by decide +kernel
theorem dX6_torn_179 : decode cX6_torn 179 = .ok (.invokevirtual 227, 3) := by decide +kernel
theorem dX6_torn_182 : decode cX6_torn 182 = .ok (.lload 9, 2) := by decide +kernel
theorem dX6_torn_184 : decode cX6_torn 184 = .ok (.lreturn, 1) := by decide +kernel
theorem dX6_isOf_0 : decode cX6_isOf 0 = .ok (.aload_n 0, 1) := by decide +kernel
theorem dX6_isOf_1 : decode cX6_isOf 1 = .ok (.iload_n 1, 1) := by decide +kernel
theorem dX6_isOf_2 : decode cX6_isOf 2 = .ok (.aload_n 0, 1) := by decide +kernel
theorem dX6_isOf_3 : decode cX6_isOf 3 = .ok (.getfield 16, 3) := by decide +kernel
theorem dX6_isOf_6 : decode cX6_isOf 6 = .ok (.iload_n 2, 1) := by decide +kernel
theorem dX6_isOf_7 : decode cX6_isOf 7 = .ok (.iaload, 1) := by decide +kernel
theorem dX6_isOf_8 : decode cX6_isOf 8 = .ok (.invokevirtual 51, 3) := by decide +kernel
theorem dX6_isOf_11 : decode cX6_isOf 11 = .ok (.iload_n 3, 1) := by decide +kernel
theorem dX6_isOf_12 : decode cX6_isOf 12 = .ok (.if_icmp .ne 27, 3) := by decide +kernel
theorem dX6_isOf_15 : decode cX6_isOf 15 = .ok (.aload_n 0, 1) := by decide +kernel
theorem dX6_isOf_16 : decode cX6_isOf 16 = .ok (.getfield 19, 3) := by decide +kernel
theorem dX6_isOf_19 : decode cX6_isOf 19 = .ok (.iload_n 2, 1) := by decide +kernel
theorem dX6_isOf_20 : decode cX6_isOf 20 = .ok (.iaload, 1) := by decide +kernel
theorem dX6_isOf_21 : decode cX6_isOf 21 = .ok (.iconst 3, 1) := by decide +kernel
theorem dX6_isOf_22 : decode cX6_isOf 22 = .ok (.if_icmp .eq 17, 3) := by decide +kernel
theorem dX6_isOf_25 : decode cX6_isOf 25 = .ok (.aload_n 0, 1) := by decide +kernel
theorem dX6_isOf_26 : decode cX6_isOf 26 = .ok (.getfield 25, 3) := by decide +kernel
theorem dX6_isOf_29 : decode cX6_isOf 29 = .ok (.iload_n 2, 1) := by decide +kernel
theorem dX6_isOf_30 : decode cX6_isOf 30 = .ok (.iaload, 1) := by decide +kernel
theorem dX6_isOf_31 : decode cX6_isOf 31 = .ok (.iconst 2, 1) := by decide +kernel
theorem dX6_isOf_32 : decode cX6_isOf 32 = .ok (.if_icmp .ge 7, 3) := by decide +kernel
theorem dX6_isOf_35 : decode cX6_isOf 35 = .ok (.iconst 1, 1) := by decide +kernel
theorem dX6_isOf_36 : decode cX6_isOf 36 = .ok (.goto 4, 3) := by decide +kernel
theorem dX6_isOf_39 : decode cX6_isOf 39 = .ok (.iconst 0, 1) := by decide +kernel
theorem dX6_isOf_40 : decode cX6_isOf 40 = .ok (.ireturn, 1) := by decide +kernel
theorem dX6_history_0 : decode cX6_history 0 = .ok (.aload_n 0, 1) := by decide +kernel
theorem dX6_history_1 : decode cX6_history 1 = .ok (.iconst 0, 1) := by decide +kernel
theorem dX6_history_2 : decode cX6_history 2 = .ok (.putfield 35, 3) := by decide +kernel
theorem dX6_history_5 : decode cX6_history 5 = .ok (.aload_n 0, 1) := by decide +kernel
theorem dX6_history_6 : decode cX6_history 6 = .ok (.invokevirtual 132, 3) := by decide +kernel
theorem dX6_history_9 : decode cX6_history 9 = .ok (.ifCond .eq 16, 3) := by decide +kernel
theorem dX6_history_12 : decode cX6_history 12 = .ok (.aload_n 0, 1) := by decide +kernel
theorem dX6_history_13 : decode cX6_history 13 = .ok (.iload_n 1, 1) := by decide +kernel
theorem dX6_history_14 : decode cX6_history 14 = .ok (.invokevirtual 215, 3) := by decide +kernel
theorem dX6_history_17 : decode cX6_history 17 = .ok (.ifCond .eq 8, 3) := by decide +kernel
theorem dX6_history_20 : decode cX6_history 20 = .ok (.iload_n 2, 1) := by decide +kernel
theorem dX6_history_21 : decode cX6_history 21 = .ok (.iconst (-1), 1) := by decide +kernel
theorem dX6_history_22 : decode cX6_history 22 = .ok (.if_icmp .ge 7, 3) := by decide +kernel
theorem dX6_history_25 : decode cX6_history 25 = .ok (.ldc2_w 222, 3) := by decide +kernel
theorem dX6_history_28 : decode cX6_history 28 = .ok (.lreturn, 1) := by decide +kernel
theorem dX6_history_29 : decode cX6_history 29 = .ok (.aload_n 0, 1) := by decide +kernel
theorem dX6_history_30 : decode cX6_history 30 = .ok (.getfield 7, 3) := by decide +kernel
theorem dX6_history_33 : decode cX6_history 33 = .ok (.iconst 3, 1) := by decide +kernel
theorem dX6_history_34 : decode cX6_history 34 = .ok (.iaload, 1) := by decide +kernel
theorem dX6_history_35 : decode cX6_history 35 = .ok (.istore_n 3, 1) := by decide +kernel
theorem dX6_history_36 : decode cX6_history 36 = .ok (.aload_n 0, 1) := by decide +kernel
theorem dX6_history_37 : decode cX6_history 37 = .ok (.iload_n 3, 1) := by decide +kernel
theorem dX6_history_38 : decode cX6_history 38 = .ok (.invokevirtual 141, 3) := by decide +kernel
theorem dX6_history_41 : decode cX6_history 41 = .ok (.iconst 0, 1) := by decide +kernel
theorem dX6_history_42 : decode cX6_history 42 = .ok (.istore 4, 2) := by decide +kernel
theorem dX6_history_44 : decode cX6_history 44 = .ok (.aload_n 0, 1) := by decide +kernel
theorem dX6_history_45 : decode cX6_history 45 = .ok (.getfield 55, 3) := by decide +kernel
theorem dX6_history_48 : decode cX6_history 48 = .ok (.iconst 1, 1) := by decide +kernel
theorem dX6_history_49 : decode cX6_history 49 = .ok (.isub, 1) := by decide +kernel
theorem dX6_history_50 : decode cX6_history 50 = .ok (.istore 5, 2) := by decide +kernel
theorem dX6_history_52 : decode cX6_history 52 = .ok (.iload 5, 2) := by decide +kernel
theorem dX6_history_54 : decode cX6_history 54 = .ok (.ifCond .lt 40, 3) := by decide +kernel
theorem dX6_history_57 : decode cX6_history 57 = .ok (.aload_n 0, 1) := by decide +kernel
theorem dX6_history_58 : decode cX6_history 58 = .ok (.iload_n 3, 1) := by decide +kernel
theorem dX6_history_59 : decode cX6_history 59 = .ok (.iload 5, 2) := by decide +kernel
theorem dX6_history_61 : decode cX6_history 61 = .ok (.iload_n 1, 1) := by decide +kernel
theorem dX6_history_62 : decode cX6_history 62 = .ok (.invokevirtual 233, 3) := by decide +kernel
theorem dX6_history_65 : decode cX6_history 65 = .ok (.ifCond .ne 6, 3) := by decide +kernel
theorem dX6_history_68 : decode cX6_history 68 = .ok (.goto 20, 3) := by decide +kernel
theorem dX6_history_71 : decode cX6_history 71 = .ok (.iload 4, 2) := by decide +kernel
theorem dX6_history_73 : decode cX6_history 73 = .ok (.iload_n 2, 1) := by decide +kernel
theorem dX6_history_74 : decode cX6_history 74 = .ok (.if_icmp .ne 11, 3) := by decide +kernel
theorem dX6_history_77 : decode cX6_history 77 = .ok (.aload_n 0, 1) := by decide +kernel
theorem dX6_history_78 : decode cX6_history 78 = .ok (.iload_n 3, 1) := by decide +kernel
theorem dX6_history_79 : decode cX6_history 79 = .ok (.iload 5, 2) := by decide +kernel
theorem dX6_history_81 : decode cX6_history 81 = .ok (.invokevirtual 167, 3) := by decide +kernel
theorem dX6_history_84 : decode cX6_history 84 = .ok (.lreturn, 1) := by decide +kernel
theorem dX6_history_85 : decode cX6_history 85 = .ok (.iinc 4 1, 3) := by decide +kernel
theorem dX6_history_88 : decode cX6_history 88 = .ok (.iinc 5 (-1), 3) := by decide +kernel
theorem dX6_history_91 : decode cX6_history 91 = .ok (.goto (-39), 3) := by decide +kernel
theorem dX6_history_94 : decode cX6_history 94 = .ok (.iload_n 2, 1) := by decide +kernel
theorem dX6_history_95 : decode cX6_history 95 = .ok (.iconst (-1), 1) := by decide +kernel
theorem dX6_history_96 : decode cX6_history 96 = .ok (.if_icmp .ne 9, 3) := by decide +kernel
theorem dX6_history_99 : decode cX6_history 99 = .ok (.iload 4, 2) := by decide +kernel
theorem dX6_history_101 : decode cX6_history 101 = .ok (.i2l, 1) := by decide +kernel
theorem dX6_history_102 : decode cX6_history 102 = .ok (.goto 6, 3) := by decide +kernel
theorem dX6_history_105 : decode cX6_history 105 = .ok (.ldc2_w 236, 3) := by decide +kernel
theorem dX6_history_108 : decode cX6_history 108 = .ok (.lreturn, 1) := by decide +kernel
theorem dX6_extreme_0 : decode cX6_extreme 0 = .ok (.iconst 0, 1) := by decide +kernel
theorem dX6_extreme_1 : decode cX6_extreme 1 = .ok (.istore_n 2, 1) := by decide +kernel
theorem dX6_extreme_2 : decode cX6_extreme 2 = .ok (.iconst 1, 1) := by decide +kernel
theorem dX6_extreme_3 : decode cX6_extreme 3 = .ok (.istore_n 3, 1) := by decide +kernel
theorem dX6_extreme_4 : decode cX6_extreme 4 = .ok (.iload_n 3, 1) := by decide +kernel
theorem dX6_extreme_5 : decode cX6_extreme 5 = .ok (.aload_n 0, 1) := by decide +kernel
theorem dX6_extreme_6 : decode cX6_extreme 6 = .ok (.getfield 7, 3) := by decide +kernel
theorem dX6_extreme_9 : decode cX6_extreme 9 = .ok (.iconst 0, 1) := by decide +kernel
theorem dX6_extreme_10 : decode cX6_extreme 10 = .ok (.iaload, 1) := by decide +kernel
theorem dX6_extreme_11 : decode cX6_extreme 11 = .ok (.if_icmp .ge 60, 3) := by decide +kernel
theorem dX6_extreme_14 : decode cX6_extreme 14 = .ok (.iload_n 1, 1) := by decide +kernel
theorem dX6_extreme_15 : decode cX6_extreme 15 = .ok (.ifCond .eq 27, 3) := by decide +kernel
theorem dX6_extreme_18 : decode cX6_extreme 18 = .ok (.aload_n 0, 1) := by decide +kernel
theorem dX6_extreme_19 : decode cX6_extreme 19 = .ok (.getfield 7, 3) := by decide +kernel
theorem dX6_extreme_22 : decode cX6_extreme 22 = .ok (.bipush 36, 2) := by decide +kernel
theorem dX6_extreme_24 : decode cX6_extreme 24 = .ok (.iload_n 3, 1) := by decide +kernel
theorem dX6_extreme_25 : decode cX6_extreme 25 = .ok (.iadd, 1) := by decide +kernel
theorem dX6_extreme_26 : decode cX6_extreme 26 = .ok (.iaload, 1) := by decide +kernel
theorem dX6_extreme_27 : decode cX6_extreme 27 = .ok (.aload_n 0, 1) := by decide +kernel
theorem dX6_extreme_28 : decode cX6_extreme 28 = .ok (.getfield 7, 3) := by decide +kernel
theorem dX6_extreme_31 : decode cX6_extreme 31 = .ok (.bipush 36, 2) := by decide +kernel
theorem dX6_extreme_33 : decode cX6_extreme 33 = .ok (.iload_n 2, 1) := by decide +kernel
theorem dX6_extreme_34 : decode cX6_extreme 34 = .ok (.iadd, 1) := by decide +kernel
theorem dX6_extreme_35 : decode cX6_extreme 35 = .ok (.iaload, 1) := by decide +kernel
theorem dX6_extreme_36 : decode cX6_extreme 36 = .ok (.if_icmp .le 29, 3) := by decide +kernel
theorem dX6_extreme_39 : decode cX6_extreme 39 = .ok (.goto 24, 3) := by decide +kernel
theorem dX6_extreme_42 : decode cX6_extreme 42 = .ok (.aload_n 0, 1) := by decide +kernel
theorem dX6_extreme_43 : decode cX6_extreme 43 = .ok (.getfield 7, 3) := by decide +kernel
theorem dX6_extreme_46 : decode cX6_extreme 46 = .ok (.bipush 36, 2) := by decide +kernel
theorem dX6_extreme_48 : decode cX6_extreme 48 = .ok (.iload_n 3, 1) := by decide +kernel
theorem dX6_extreme_49 : decode cX6_extreme 49 = .ok (.iadd, 1) := by decide +kernel
theorem dX6_extreme_50 : decode cX6_extreme 50 = .ok (.iaload, 1) := by decide +kernel
theorem dX6_extreme_51 : decode cX6_extreme 51 = .ok (.aload_n 0, 1) := by decide +kernel
theorem dX6_extreme_52 : decode cX6_extreme 52 = .ok (.getfield 7, 3) := by decide +kernel
theorem dX6_extreme_55 : decode cX6_extreme 55 = .ok (.bipush 36, 2) := by decide +kernel
theorem dX6_extreme_57 : decode cX6_extreme 57 = .ok (.iload_n 2, 1) := by decide +kernel
theorem dX6_extreme_58 : decode cX6_extreme 58 = .ok (.iadd, 1) := by decide +kernel
theorem dX6_extreme_59 : decode cX6_extreme 59 = .ok (.iaload, 1) := by decide +kernel
theorem dX6_extreme_60 : decode cX6_extreme 60 = .ok (.if_icmp .ge 5, 3) := by decide +kernel
theorem dX6_extreme_63 : decode cX6_extreme 63 = .ok (.iload_n 3, 1) := by decide +kernel
theorem dX6_extreme_64 : decode cX6_extreme 64 = .ok (.istore_n 2, 1) := by decide +kernel
theorem dX6_extreme_65 : decode cX6_extreme 65 = .ok (.iinc 3 1, 3) := by decide +kernel
theorem dX6_extreme_68 : decode cX6_extreme 68 = .ok (.goto (-64), 3) := by decide +kernel
theorem dX6_extreme_71 : decode cX6_extreme 71 = .ok (.aload_n 0, 1) := by decide +kernel
theorem dX6_extreme_72 : decode cX6_extreme 72 = .ok (.getfield 7, 3) := by decide +kernel
theorem dX6_extreme_75 : decode cX6_extreme 75 = .ok (.bipush 36, 2) := by decide +kernel
theorem dX6_extreme_77 : decode cX6_extreme 77 = .ok (.iload_n 2, 1) := by decide +kernel
theorem dX6_extreme_78 : decode cX6_extreme 78 = .ok (.iadd, 1) := by decide +kernel
theorem dX6_extreme_79 : decode cX6_extreme 79 = .ok (.iaload, 1) := by decide +kernel
theorem dX6_extreme_80 : decode cX6_extreme 80 = .ok (.ireturn, 1) := by decide +kernel
theorem dX6_wears_0 : decode cX6_wears 0 = .ok (.aload_n 0, 1) := by decide +kernel
theorem dX6_wears_1 : decode cX6_wears 1 = .ok (.iconst 0, 1) := by decide +kernel
theorem dX6_wears_2 : decode cX6_wears 2 = .ok (.putfield 35, 3) := by decide +kernel
theorem dX6_wears_5 : decode cX6_wears 5 = .ok (.aload_n 0, 1) := by decide +kernel
theorem dX6_wears_6 : decode cX6_wears 6 = .ok (.invokevirtual 132, 3) := by decide +kernel
theorem dX6_wears_9 : decode cX6_wears 9 = .ok (.ifCond .eq 23, 3) := by decide +kernel
theorem dX6_wears_12 : decode cX6_wears 12 = .ok (.iload_n 1, 1) := by decide +kernel
theorem dX6_wears_13 : decode cX6_wears 13 = .ok (.iconst 0, 1) := by decide +kernel
theorem dX6_wears_14 : decode cX6_wears 14 = .ok (.sipush 1000, 3) := by decide +kernel
theorem dX6_wears_17 : decode cX6_wears 17 = .ok (.invokestatic 39, 3) := by decide +kernel
theorem dX6_wears_20 : decode cX6_wears 20 = .ok (.ifCond .eq 12, 3) := by decide +kernel
theorem dX6_wears_23 : decode cX6_wears 23 = .ok (.iload_n 2, 1) := by decide +kernel
theorem dX6_wears_24 : decode cX6_wears 24 = .ok (.iconst 0, 1) := by decide +kernel
theorem dX6_wears_25 : decode cX6_wears 25 = .ok (.iconst 2, 1) := by decide +kernel
theorem dX6_wears_26 : decode cX6_wears 26 = .ok (.invokestatic 39, 3) := by decide +kernel
theorem dX6_wears_29 : decode cX6_wears 29 = .ok (.ifCond .ne 5, 3) := by decide +kernel
theorem dX6_wears_32 : decode cX6_wears 32 = .ok (.iconst (-1), 1) := by decide +kernel
theorem dX6_wears_33 : decode cX6_wears 33 = .ok (.ireturn, 1) := by decide +kernel
theorem dX6_wears_34 : decode cX6_wears 34 = .ok (.aload_n 0, 1) := by decide +kernel
theorem dX6_wears_35 : decode cX6_wears 35 = .ok (.invokevirtual 224, 3) := by decide +kernel
theorem dX6_wears_38 : decode cX6_wears 38 = .ok (.aload_n 0, 1) := by decide +kernel
theorem dX6_wears_39 : decode cX6_wears 39 = .ok (.getfield 7, 3) := by decide +kernel
theorem dX6_wears_42 : decode cX6_wears 42 = .ok (.iconst 3, 1) := by decide +kernel
theorem dX6_wears_43 : decode cX6_wears 43 = .ok (.iaload, 1) := by decide +kernel
theorem dX6_wears_44 : decode cX6_wears 44 = .ok (.istore_n 3, 1) := by decide +kernel
theorem dX6_wears_45 : decode cX6_wears 45 = .ok (.iconst 0, 1) := by decide +kernel
theorem dX6_wears_46 : decode cX6_wears 46 = .ok (.istore 4, 2) := by decide +kernel
theorem dX6_wears_48 : decode cX6_wears 48 = .ok (.iload 4, 2) := by decide +kernel
theorem dX6_wears_50 : decode cX6_wears 50 = .ok (.iload_n 1, 1) := by decide +kernel
theorem dX6_wears_51 : decode cX6_wears 51 = .ok (.if_icmp .ge 133, 3) := by decide +kernel
theorem dX6_wears_54 : decode cX6_wears 54 = .ok (.aload_n 0, 1) := by decide +kernel
theorem dX6_wears_55 : decode cX6_wears 55 = .ok (.iload_n 3, 1) := by decide +kernel
theorem dX6_wears_56 : decode cX6_wears 56 = .ok (.invokevirtual 126, 3) := by decide +kernel
theorem dX6_wears_59 : decode cX6_wears 59 = .ok (.istore 5, 2) := by decide +kernel
theorem dX6_wears_61 : decode cX6_wears 61 = .ok (.aload_n 0, 1) := by decide +kernel
theorem dX6_wears_62 : decode cX6_wears 62 = .ok (.iload 5, 2) := by decide +kernel
theorem dX6_wears_64 : decode cX6_wears 64 = .ok (.iconst 0, 1) := by decide +kernel
theorem dX6_wears_65 : decode cX6_wears 65 = .ok (.invokevirtual 61, 3) := by decide +kernel
theorem dX6_wears_68 : decode cX6_wears 68 = .ok (.ifCond .ne 17, 3) := by decide +kernel
theorem dX6_wears_71 : decode cX6_wears 71 = .ok (.aload_n 0, 1) := by decide +kernel
theorem dX6_wears_72 : decode cX6_wears 72 = .ok (.getfield 7, 3) := by decide +kernel
theorem dX6_wears_75 : decode cX6_wears 75 = .ok (.bipush 36, 2) := by decide +kernel
theorem dX6_wears_77 : decode cX6_wears 77 = .ok (.iload 5, 2) := by decide +kernel
theorem dX6_wears_79 : decode cX6_wears 79 = .ok (.iadd, 1) := by decide +kernel
theorem dX6_wears_80 : decode cX6_wears 80 = .ok (.dup2, 1) := by decide +kernel
theorem dX6_wears_81 : decode cX6_wears 81 = .ok (.iaload, 1) := by decide +kernel
theorem dX6_wears_82 : decode cX6_wears 82 = .ok (.iconst 1, 1) := by decide +kernel
theorem dX6_wears_83 : decode cX6_wears 83 = .ok (.iadd, 1) := by decide +kernel
theorem dX6_wears_84 : decode cX6_wears 84 = .ok (.iastore, 1) := by decide +kernel
theorem dX6_wears_85 : decode cX6_wears 85 = .ok (.iconst 0, 1) := by decide +kernel
theorem dX6_wears_86 : decode cX6_wears 86 = .ok (.istore 6, 2) := by decide +kernel
theorem dX6_wears_88 : decode cX6_wears 88 = .ok (.iload 6, 2) := by decide +kernel
theorem dX6_wears_90 : decode cX6_wears 90 = .ok (.aload_n 0, 1) := by decide +kernel
theorem dX6_wears_91 : decode cX6_wears 91 = .ok (.getfield 7, 3) := by decide +kernel
theorem dX6_wears_94 : decode cX6_wears 94 = .ok (.iconst 1, 1) := by decide +kernel
theorem dX6_wears_95 : decode cX6_wears 95 = .ok (.iaload, 1) := by decide +kernel
theorem dX6_wears_96 : decode cX6_wears 96 = .ok (.if_icmp .ge 27, 3) := by decide +kernel
theorem dX6_wears_99 : decode cX6_wears 99 = .ok (.aload_n 0, 1) := by decide +kernel
theorem dX6_wears_100 : decode cX6_wears 100 = .ok (.getfield 7, 3) := by decide +kernel
theorem dX6_wears_103 : decode cX6_wears 103 = .ok (.bipush 42, 2) := by decide +kernel
theorem dX6_wears_105 : decode cX6_wears 105 = .ok (.sipush 128, 3) := by decide +kernel
theorem dX6_wears_108 : decode cX6_wears 108 = .ok (.iload 5, 2) := by decide +kernel
theorem dX6_wears_110 : decode cX6_wears 110 = .ok (.imul, 1) := by decide +kernel
theorem dX6_wears_111 : decode cX6_wears 111 = .ok (.iadd, 1) := by decide +kernel
theorem dX6_wears_112 : decode cX6_wears 112 = .ok (.iload 6, 2) := by decide +kernel
theorem dX6_wears_114 : decode cX6_wears 114 = .ok (.iadd, 1) := by decide +kernel
theorem dX6_wears_115 : decode cX6_wears 115 = .ok (.iconst 0, 1) := by decide +kernel
theorem dX6_wears_116 : decode cX6_wears 116 = .ok (.iastore, 1) := by decide +kernel
theorem dX6_wears_117 : decode cX6_wears 117 = .ok (.iinc 6 1, 3) := by decide +kernel
theorem dX6_wears_120 : decode cX6_wears 120 = .ok (.goto (-32), 3) := by decide +kernel
theorem dX6_wears_123 : decode cX6_wears 123 = .ok (.iconst 0, 1) := by decide +kernel
theorem dX6_wears_124 : decode cX6_wears 124 = .ok (.istore 6, 2) := by decide +kernel
theorem dX6_wears_126 : decode cX6_wears 126 = .ok (.iload 6, 2) := by decide +kernel
theorem dX6_wears_128 : decode cX6_wears 128 = .ok (.aload_n 0, 1) := by decide +kernel
theorem dX6_wears_129 : decode cX6_wears 129 = .ok (.getfield 7, 3) := by decide +kernel
theorem dX6_wears_132 : decode cX6_wears 132 = .ok (.iconst 1, 1) := by decide +kernel
theorem dX6_wears_133 : decode cX6_wears 133 = .ok (.iaload, 1) := by decide +kernel
theorem dX6_wears_134 : decode cX6_wears 134 = .ok (.if_icmp .ge 28, 3) := by decide +kernel
theorem dX6_wears_137 : decode cX6_wears 137 = .ok (.aload_n 0, 1) := by decide +kernel
theorem dX6_wears_138 : decode cX6_wears 138 = .ok (.getfield 7, 3) := by decide +kernel
theorem dX6_wears_141 : decode cX6_wears 141 = .ok (.bipush 42, 2) := by decide +kernel
theorem dX6_wears_143 : decode cX6_wears 143 = .ok (.sipush 128, 3) := by decide +kernel
theorem dX6_wears_146 : decode cX6_wears 146 = .ok (.iload_n 3, 1) := by decide +kernel
theorem dX6_wears_147 : decode cX6_wears 147 = .ok (.imul, 1) := by decide +kernel
theorem dX6_wears_148 : decode cX6_wears 148 = .ok (.iadd, 1) := by decide +kernel
theorem dX6_wears_149 : decode cX6_wears 149 = .ok (.iload 6, 2) := by decide +kernel
theorem dX6_wears_151 : decode cX6_wears 151 = .ok (.iadd, 1) := by decide +kernel
theorem dX6_wears_152 : decode cX6_wears 152 = .ok (.sipush 255, 3) := by decide +kernel
theorem dX6_wears_155 : decode cX6_wears 155 = .ok (.iastore, 1) := by decide +kernel
theorem dX6_wears_156 : decode cX6_wears 156 = .ok (.iinc 6 1, 3) := by decide +kernel
theorem dX6_wears_159 : decode cX6_wears 159 = .ok (.goto (-33), 3) := by decide +kernel
theorem dX6_wears_162 : decode cX6_wears 162 = .ok (.aload_n 0, 1) := by decide +kernel
theorem dX6_wears_163 : decode cX6_wears 163 = .ok (.getfield 7, 3) := by decide +kernel
theorem dX6_wears_166 : decode cX6_wears 166 = .ok (.bipush 36, 2) := by decide +kernel
theorem dX6_wears_168 : decode cX6_wears 168 = .ok (.iload_n 3, 1) := by decide +kernel
theorem dX6_wears_169 : decode cX6_wears 169 = .ok (.iadd, 1) := by decide +kernel
theorem dX6_wears_170 : decode cX6_wears 170 = .ok (.dup2, 1) := by decide +kernel
theorem dX6_wears_171 : decode cX6_wears 171 = .ok (.iaload, 1) := by decide +kernel
theorem dX6_wears_172 : decode cX6_wears 172 = .ok (.iconst 1, 1) := by decide +kernel
theorem dX6_wears_173 : decode cX6_wears 173 = .ok (.iadd, 1) := by decide +kernel
theorem dX6_wears_174 : decode cX6_wears 174 = .ok (.iastore, 1) := by decide +kernel
theorem dX6_wears_175 : decode cX6_wears 175 = .ok (.iload 5, 2) := by decide +kernel
theorem dX6_wears_177 : decode cX6_wears 177 = .ok (.istore_n 3, 1) := by decide +kernel
theorem dX6_wears_178 : decode cX6_wears 178 = .ok (.iinc 4 1, 3) := by decide +kernel
theorem dX6_wears_181 : decode cX6_wears 181 = .ok (.goto (-133), 3) := by decide +kernel
theorem dX6_wears_184 : decode cX6_wears 184 = .ok (.iload_n 2, 1) := by decide +kernel
theorem dX6_wears_185 : decode cX6_wears 185 = .ok (.iconst 2, 1) := by decide +kernel
theorem dX6_wears_186 : decode cX6_wears 186 = .ok (.if_icmp .ne 7, 3) := by decide +kernel
theorem dX6_wears_189 : decode cX6_wears 189 = .ok (.iload_n 3, 1) := by decide +kernel
theorem dX6_wears_190 : decode cX6_wears 190 = .ok (.goto 16, 3) := by decide +kernel
theorem dX6_wears_193 : decode cX6_wears 193 = .ok (.aload_n 0, 1) := by decide +kernel
theorem dX6_wears_194 : decode cX6_wears 194 = .ok (.iload_n 2, 1) := by decide +kernel
theorem dX6_wears_195 : decode cX6_wears 195 = .ok (.ifCond .ne 7, 3) := by decide +kernel
theorem dX6_wears_198 : decode cX6_wears 198 = .ok (.iconst 1, 1) := by decide +kernel
theorem dX6_wears_199 : decode cX6_wears 199 = .ok (.goto 4, 3) := by decide +kernel
theorem dX6_wears_202 : decode cX6_wears 202 = .ok (.iconst 0, 1) := by decide +kernel
theorem dX6_wears_203 : decode cX6_wears 203 = .ok (.invokevirtual 238, 3) := by decide +kernel
theorem dX6_wears_206 : decode cX6_wears 206 = .ok (.istore 4, 2) := by decide +kernel
theorem dX6_wears_208 : decode cX6_wears 208 = .ok (.aload_n 0, 1) := by decide +kernel
theorem dX6_wears_209 : decode cX6_wears 209 = .ok (.invokevirtual 227, 3) := by decide +kernel
theorem dX6_wears_212 : decode cX6_wears 212 = .ok (.iload 4, 2) := by decide +kernel
theorem dX6_wears_214 : decode cX6_wears 214 = .ok (.ireturn, 1) := by decide +kernel
theorem dX6_erasesOfAll_0 : decode cX6_erasesOfAll 0 = .ok (.iconst 0, 1) := by decide +kernel
theorem dX6_erasesOfAll_1 : decode cX6_erasesOfAll 1 = .ok (.istore_n 1, 1) := by decide +kernel
theorem dX6_erasesOfAll_2 : decode cX6_erasesOfAll 2 = .ok (.iconst 0, 1) := by decide +kernel
theorem dX6_erasesOfAll_3 : decode cX6_erasesOfAll 3 = .ok (.istore_n 2, 1) := by decide +kernel
theorem dX6_erasesOfAll_4 : decode cX6_erasesOfAll 4 = .ok (.iload_n 2, 1) := by decide +kernel
theorem dX6_erasesOfAll_5 : decode cX6_erasesOfAll 5 = .ok (.aload_n 0, 1) := by decide +kernel
theorem dX6_erasesOfAll_6 : decode cX6_erasesOfAll 6 = .ok (.getfield 7, 3) := by decide +kernel
theorem dX6_erasesOfAll_9 : decode cX6_erasesOfAll 9 = .ok (.iconst 0, 1) := by decide +kernel
theorem dX6_erasesOfAll_10 : decode cX6_erasesOfAll 10 = .ok (.iaload, 1) := by decide +kernel
theorem dX6_erasesOfAll_11 : decode cX6_erasesOfAll 11 = .ok (.if_icmp .ge 21, 3) := by decide +kernel
theorem dX6_erasesOfAll_14 : decode cX6_erasesOfAll 14 = .ok (.iload_n 1, 1) := by decide +kernel
theorem dX6_erasesOfAll_15 : decode cX6_erasesOfAll 15 = .ok (.aload_n 0, 1) := by decide +kernel
theorem dX6_erasesOfAll_16 : decode cX6_erasesOfAll 16 = .ok (.getfield 7, 3) := by decide +kernel
theorem dX6_erasesOfAll_19 : decode cX6_erasesOfAll 19 = .ok (.bipush 36, 2) := by decide +kernel
theorem dX6_erasesOfAll_21 : decode cX6_erasesOfAll 21 = .ok (.iload_n 2, 1) := by decide +kernel
theorem dX6_erasesOfAll_22 : decode cX6_erasesOfAll 22 = .ok (.iadd, 1) := by decide +kernel
theorem dX6_erasesOfAll_23 : decode cX6_erasesOfAll 23 = .ok (.iaload, 1) := by decide +kernel
theorem dX6_erasesOfAll_24 : decode cX6_erasesOfAll 24 = .ok (.iadd, 1) := by decide +kernel
theorem dX6_erasesOfAll_25 : decode cX6_erasesOfAll 25 = .ok (.istore_n 1, 1) := by decide +kernel
theorem dX6_erasesOfAll_26 : decode cX6_erasesOfAll 26 = .ok (.iinc 2 1, 3) := by decide +kernel
theorem dX6_erasesOfAll_29 : decode cX6_erasesOfAll 29 = .ok (.goto (-25), 3) := by decide +kernel
theorem dX6_erasesOfAll_32 : decode cX6_erasesOfAll 32 = .ok (.iload_n 1, 1) := by decide +kernel
theorem dX6_erasesOfAll_33 : decode cX6_erasesOfAll 33 = .ok (.ireturn, 1) := by decide +kernel
theorem dX6_wear_0 : decode cX6_wear 0 = .ok (.aload_n 0, 1) := by decide +kernel
theorem dX6_wear_1 : decode cX6_wear 1 = .ok (.iconst 0, 1) := by decide +kernel
theorem dX6_wear_2 : decode cX6_wear 2 = .ok (.putfield 35, 3) := by decide +kernel
theorem dX6_wear_5 : decode cX6_wear 5 = .ok (.iload_n 1, 1) := by decide +kernel
theorem dX6_wear_6 : decode cX6_wear 6 = .ok (.tableswitch 96 0 4 #[34, 34, 48, 53, 61], 34) := by decide +kernel
theorem dX6_wear_40 : decode cX6_wear 40 = .ok (.aload_n 0, 1) := by decide +kernel
theorem dX6_wear_41 : decode cX6_wear 41 = .ok (.iload_n 1, 1) := by decide +kernel
theorem dX6_wear_42 : decode cX6_wear 42 = .ok (.ifCond .ne 7, 3) := by decide +kernel
theorem dX6_wear_45 : decode cX6_wear 45 = .ok (.iconst 1, 1) := by decide +kernel
theorem dX6_wear_46 : decode cX6_wear 46 = .ok (.goto 4, 3) := by decide +kernel
theorem dX6_wear_49 : decode cX6_wear 49 = .ok (.iconst 0, 1) := by decide +kernel
theorem dX6_wear_50 : decode cX6_wear 50 = .ok (.invokevirtual 238, 3) := by decide +kernel
theorem dX6_wear_53 : decode cX6_wear 53 = .ok (.ireturn, 1) := by decide +kernel
theorem dX6_wear_54 : decode cX6_wear 54 = .ok (.aload_n 0, 1) := by decide +kernel
theorem dX6_wear_55 : decode cX6_wear 55 = .ok (.invokevirtual 242, 3) := by decide +kernel
theorem dX6_wear_58 : decode cX6_wear 58 = .ok (.ireturn, 1) := by decide +kernel
theorem dX6_wear_59 : decode cX6_wear 59 = .ok (.aload_n 0, 1) := by decide +kernel
theorem dX6_wear_60 : decode cX6_wear 60 = .ok (.getfield 7, 3) := by decide +kernel
theorem dX6_wear_63 : decode cX6_wear 63 = .ok (.bipush 9, 2) := by decide +kernel
theorem dX6_wear_65 : decode cX6_wear 65 = .ok (.iaload, 1) := by decide +kernel
theorem dX6_wear_66 : decode cX6_wear 66 = .ok (.ireturn, 1) := by decide +kernel
theorem dX6_wear_67 : decode cX6_wear 67 = .ok (.aload_n 0, 1) := by decide +kernel
theorem dX6_wear_68 : decode cX6_wear 68 = .ok (.invokevirtual 242, 3) := by decide +kernel
theorem dX6_wear_71 : decode cX6_wear 71 = .ok (.ifCond .ne 7, 3) := by decide +kernel
theorem dX6_wear_74 : decode cX6_wear 74 = .ok (.iconst 0, 1) := by decide +kernel
theorem dX6_wear_75 : decode cX6_wear 75 = .ok (.goto 26, 3) := by decide +kernel
theorem dX6_wear_78 : decode cX6_wear 78 = .ok (.aload_n 0, 1) := by decide +kernel
theorem dX6_wear_79 : decode cX6_wear 79 = .ok (.iconst 1, 1) := by decide +kernel
theorem dX6_wear_80 : decode cX6_wear 80 = .ok (.invokevirtual 238, 3) := by decide +kernel
theorem dX6_wear_83 : decode cX6_wear 83 = .ok (.i2f, 1) := by decide +kernel
theorem dX6_wear_84 : decode cX6_wear 84 = .ok (.aload_n 0, 1) := by decide +kernel
theorem dX6_wear_85 : decode cX6_wear 85 = .ok (.invokevirtual 242, 3) := by decide +kernel
theorem dX6_wear_88 : decode cX6_wear 88 = .ok (.i2f, 1) := by decide +kernel
theorem dX6_wear_89 : decode cX6_wear 89 = .ok (.aload_n 0, 1) := by decide +kernel
theorem dX6_wear_90 : decode cX6_wear 90 = .ok (.getfield 7, 3) := by decide +kernel
theorem dX6_wear_93 : decode cX6_wear 93 = .ok (.iconst 0, 1) := by decide +kernel
theorem dX6_wear_94 : decode cX6_wear 94 = .ok (.iaload, 1) := by decide +kernel
theorem dX6_wear_95 : decode cX6_wear 95 = .ok (.i2f, 1) := by decide +kernel
theorem dX6_wear_96 : decode cX6_wear 96 = .ok (.fdiv, 1) := by decide +kernel
theorem dX6_wear_97 : decode cX6_wear 97 = .ok (.fdiv, 1) := by decide +kernel
theorem dX6_wear_98 : decode cX6_wear 98 = .ok (.invokestatic 245, 3) := by decide +kernel
theorem dX6_wear_101 : decode cX6_wear 101 = .ok (.ireturn, 1) := by decide +kernel
theorem dX6_wear_102 : decode cX6_wear 102 = .ok (.iconst (-1), 1) := by decide +kernel
theorem dX6_wear_103 : decode cX6_wear 103 = .ok (.ireturn, 1) := by decide +kernel
theorem dX6_tags_0 : decode cX6_tags 0 = .ok (.aload_n 0, 1) := by decide +kernel
theorem dX6_tags_1 : decode cX6_tags 1 = .ok (.iconst 0, 1) := by decide +kernel
theorem dX6_tags_2 : decode cX6_tags 2 = .ok (.putfield 35, 3) := by decide +kernel
theorem dX6_tags_5 : decode cX6_tags 5 = .ok (.aload_n 0, 1) := by decide +kernel
theorem dX6_tags_6 : decode cX6_tags 6 = .ok (.invokevirtual 132, 3) := by decide +kernel
theorem dX6_tags_9 : decode cX6_tags 9 = .ok (.ifCond .ne 7, 3) := by decide +kernel
theorem dX6_tags_12 : decode cX6_tags 12 = .ok (.ldc2_w 222, 3) := by decide +kernel
theorem dX6_tags_15 : decode cX6_tags 15 = .ok (.lreturn, 1) := by decide +kernel
theorem dX6_tags_16 : decode cX6_tags 16 = .ok (.aload_n 0, 1) := by decide +kernel
theorem dX6_tags_17 : decode cX6_tags 17 = .ok (.aload_n 0, 1) := by decide +kernel
theorem dX6_tags_18 : decode cX6_tags 18 = .ok (.getfield 7, 3) := by decide +kernel
theorem dX6_tags_21 : decode cX6_tags 21 = .ok (.iconst 3, 1) := by decide +kernel
theorem dX6_tags_22 : decode cX6_tags 22 = .ok (.iaload, 1) := by decide +kernel
theorem dX6_tags_23 : decode cX6_tags 23 = .ok (.invokevirtual 141, 3) := by decide +kernel
theorem dX6_tags_26 : decode cX6_tags 26 = .ok (.lconst 0, 1) := by decide +kernel
theorem dX6_tags_27 : decode cX6_tags 27 = .ok (.lstore_n 1, 1) := by decide +kernel
theorem dX6_tags_28 : decode cX6_tags 28 = .ok (.iconst 0, 1) := by decide +kernel
theorem dX6_tags_29 : decode cX6_tags 29 = .ok (.istore_n 3, 1) := by decide +kernel
theorem dX6_tags_30 : decode cX6_tags 30 = .ok (.iload_n 3, 1) := by decide +kernel
theorem dX6_tags_31 : decode cX6_tags 31 = .ok (.bipush 48, 2) := by decide +kernel
theorem dX6_tags_33 : decode cX6_tags 33 = .ok (.if_icmp .ge 29, 3) := by decide +kernel
theorem dX6_tags_36 : decode cX6_tags 36 = .ok (.aload_n 0, 1) := by decide +kernel
theorem dX6_tags_37 : decode cX6_tags 37 = .ok (.aload_n 0, 1) := by decide +kernel
theorem dX6_tags_38 : decode cX6_tags 38 = .ok (.getfield 7, 3) := by decide +kernel
theorem dX6_tags_41 : decode cX6_tags 41 = .ok (.iconst 3, 1) := by decide +kernel
theorem dX6_tags_42 : decode cX6_tags 42 = .ok (.iaload, 1) := by decide +kernel
theorem dX6_tags_43 : decode cX6_tags 43 = .ok (.iload_n 3, 1) := by decide +kernel
theorem dX6_tags_44 : decode cX6_tags 44 = .ok (.invokevirtual 106, 3) := by decide +kernel
theorem dX6_tags_47 : decode cX6_tags 47 = .ok (.ifCond .eq 9, 3) := by decide +kernel
theorem dX6_tags_50 : decode cX6_tags 50 = .ok (.lload_n 1, 1) := by decide +kernel
theorem dX6_tags_51 : decode cX6_tags 51 = .ok (.lconst 1, 1) := by decide +kernel
theorem dX6_tags_52 : decode cX6_tags 52 = .ok (.iload_n 3, 1) := by decide +kernel
theorem dX6_tags_53 : decode cX6_tags 53 = .ok (.lshl, 1) := by decide +kernel
theorem dX6_tags_54 : decode cX6_tags 54 = .ok (.lor, 1) := by decide +kernel
theorem dX6_tags_55 : decode cX6_tags 55 = .ok (.lstore_n 1, 1) := by decide +kernel
theorem dX6_tags_56 : decode cX6_tags 56 = .ok (.iinc 3 1, 3) := by decide +kernel
theorem dX6_tags_59 : decode cX6_tags 59 = .ok (.goto (-29), 3) := by decide +kernel
theorem dX6_tags_62 : decode cX6_tags 62 = .ok (.lload_n 1, 1) := by decide +kernel
theorem dX6_tags_63 : decode cX6_tags 63 = .ok (.lreturn, 1) := by decide +kernel
theorem dX6_count_0 : decode cX6_count 0 = .ok (.aload_n 0, 1) := by decide +kernel
theorem dX6_count_1 : decode cX6_count 1 = .ok (.iconst 0, 1) := by decide +kernel
theorem dX6_count_2 : decode cX6_count 2 = .ok (.putfield 35, 3) := by decide +kernel
theorem dX6_count_5 : decode cX6_count 5 = .ok (.iload_n 1, 1) := by decide +kernel
theorem dX6_count_6 : decode cX6_count 6 = .ok (.tableswitch 131 0 7 #[46, 53, 60, 67, 85, 108, 115, 123], 46) := by decide +kernel
theorem dX6_count_52 : decode cX6_count 52 = .ok (.aload_n 0, 1) := by decide +kernel
theorem dX6_count_53 : decode cX6_count 53 = .ok (.getfield 7, 3) := by decide +kernel
theorem dX6_count_56 : decode cX6_count 56 = .ok (.iconst 0, 1) := by decide +kernel
theorem dX6_count_57 : decode cX6_count 57 = .ok (.iaload, 1) := by decide +kernel
theorem dX6_count_58 : decode cX6_count 58 = .ok (.ireturn, 1) := by decide +kernel
theorem dX6_count_59 : decode cX6_count 59 = .ok (.aload_n 0, 1) := by decide +kernel
theorem dX6_count_60 : decode cX6_count 60 = .ok (.getfield 7, 3) := by decide +kernel
theorem dX6_count_63 : decode cX6_count 63 = .ok (.iconst 1, 1) := by decide +kernel
theorem dX6_count_64 : decode cX6_count 64 = .ok (.iaload, 1) := by decide +kernel
theorem dX6_count_65 : decode cX6_count 65 = .ok (.ireturn, 1) := by decide +kernel
theorem dX6_count_66 : decode cX6_count 66 = .ok (.aload_n 0, 1) := by decide +kernel
theorem dX6_count_67 : decode cX6_count 67 = .ok (.getfield 7, 3) := by decide +kernel
theorem dX6_count_70 : decode cX6_count 70 = .ok (.iconst 2, 1) := by decide +kernel
theorem dX6_count_71 : decode cX6_count 71 = .ok (.iaload, 1) := by decide +kernel
theorem dX6_count_72 : decode cX6_count 72 = .ok (.ireturn, 1) := by decide +kernel
theorem dX6_count_73 : decode cX6_count 73 = .ok (.aload_n 0, 1) := by decide +kernel
theorem dX6_count_74 : decode cX6_count 74 = .ok (.invokevirtual 132, 3) := by decide +kernel
theorem dX6_count_77 : decode cX6_count 77 = .ok (.ifCond .eq 12, 3) := by decide +kernel
theorem dX6_count_80 : decode cX6_count 80 = .ok (.aload_n 0, 1) := by decide +kernel
theorem dX6_count_81 : decode cX6_count 81 = .ok (.getfield 7, 3) := by decide +kernel
theorem dX6_count_84 : decode cX6_count 84 = .ok (.iconst 3, 1) := by decide +kernel
theorem dX6_count_85 : decode cX6_count 85 = .ok (.iaload, 1) := by decide +kernel
theorem dX6_count_86 : decode cX6_count 86 = .ok (.goto 4, 3) := by decide +kernel
theorem dX6_count_89 : decode cX6_count 89 = .ok (.iconst (-1), 1) := by decide +kernel
theorem dX6_count_90 : decode cX6_count 90 = .ok (.ireturn, 1) := by decide +kernel
theorem dX6_count_91 : decode cX6_count 91 = .ok (.aload_n 0, 1) := by decide +kernel
theorem dX6_count_92 : decode cX6_count 92 = .ok (.getfield 7, 3) := by decide +kernel
theorem dX6_count_95 : decode cX6_count 95 = .ok (.bipush 10, 2) := by decide +kernel
theorem dX6_count_97 : decode cX6_count 97 = .ok (.iaload, 1) := by decide +kernel
theorem dX6_count_98 : decode cX6_count 98 = .ok (.iconst 1, 1) := by decide +kernel
theorem dX6_count_99 : decode cX6_count 99 = .ok (.if_icmp .ne 13, 3) := by decide +kernel
theorem dX6_count_102 : decode cX6_count 102 = .ok (.aload_n 0, 1) := by decide +kernel
theorem dX6_count_103 : decode cX6_count 103 = .ok (.getfield 7, 3) := by decide +kernel
theorem dX6_count_106 : decode cX6_count 106 = .ok (.bipush 11, 2) := by decide +kernel
theorem dX6_count_108 : decode cX6_count 108 = .ok (.iaload, 1) := by decide +kernel
theorem dX6_count_109 : decode cX6_count 109 = .ok (.goto 4, 3) := by decide +kernel
theorem dX6_count_112 : decode cX6_count 112 = .ok (.iconst (-1), 1) := by decide +kernel
theorem dX6_count_113 : decode cX6_count 113 = .ok (.ireturn, 1) := by decide +kernel
theorem dX6_count_114 : decode cX6_count 114 = .ok (.aload_n 0, 1) := by decide +kernel
theorem dX6_count_115 : decode cX6_count 115 = .ok (.getfield 7, 3) := by decide +kernel
theorem dX6_count_118 : decode cX6_count 118 = .ok (.iconst 4, 1) := by decide +kernel
theorem dX6_count_119 : decode cX6_count 119 = .ok (.iaload, 1) := by decide +kernel
theorem dX6_count_120 : decode cX6_count 120 = .ok (.ireturn, 1) := by decide +kernel
theorem dX6_count_121 : decode cX6_count 121 = .ok (.aload_n 0, 1) := by decide +kernel
theorem dX6_count_122 : decode cX6_count 122 = .ok (.getfield 7, 3) := by decide +kernel
theorem dX6_count_125 : decode cX6_count 125 = .ok (.bipush 6, 2) := by decide +kernel
theorem dX6_count_127 : decode cX6_count 127 = .ok (.iaload, 1) := by decide +kernel
theorem dX6_count_128 : decode cX6_count 128 = .ok (.ireturn, 1) := by decide +kernel
theorem dX6_count_129 : decode cX6_count 129 = .ok (.aload_n 0, 1) := by decide +kernel
theorem dX6_count_130 : decode cX6_count 130 = .ok (.getfield 7, 3) := by decide +kernel
theorem dX6_count_133 : decode cX6_count 133 = .ok (.bipush 7, 2) := by decide +kernel
theorem dX6_count_135 : decode cX6_count 135 = .ok (.iaload, 1) := by decide +kernel
theorem dX6_count_136 : decode cX6_count 136 = .ok (.ireturn, 1) := by decide +kernel
theorem dX6_count_137 : decode cX6_count 137 = .ok (.iconst (-1), 1) := by decide +kernel
theorem dX6_count_138 : decode cX6_count 138 = .ok (.ireturn, 1) := by decide +kernel
end
section
theorem dJxf58ca_isNaN_12338_0 : decode cJxf58ca_isNaN_12338 0 = .ok (.fload_n 0, 1) := by decide +kernel
theorem dJxf58ca_isNaN_12338_1 : decode cJxf58ca_isNaN_12338 1 = .ok (.fload_n 0, 1) := by decide +kernel
theorem dJxf58ca_isNaN_12338_2 : decode cJxf58ca_isNaN_12338 2 = .ok (.fcmp .l, 1) := by decide +kernel
theorem dJxf58ca_isNaN_12338_3 : decode cJxf58ca_isNaN_12338 3 = .ok (.ifCond .eq 7, 3) := by decide +kernel
theorem dJxf58ca_isNaN_12338_6 : decode cJxf58ca_isNaN_12338 6 = .ok (.iconst 1, 1) := by decide +kernel
theorem dJxf58ca_isNaN_12338_7 : decode cJxf58ca_isNaN_12338 7 = .ok (.goto 4, 3) := by decide +kernel
theorem dJxf58ca_isNaN_12338_10 : decode cJxf58ca_isNaN_12338 10 = .ok (.iconst 0, 1) := by decide +kernel
theorem dJxf58ca_isNaN_12338_11 : decode cJxf58ca_isNaN_12338 11 = .ok (.ireturn, 1) := by decide +kernel
theorem dJxf58ca_floatToIntBits_5c35a_0 : decode cJxf58ca_floatToIntBits_5c35a 0 = .ok (.fload_n 0, 1) := by decide +kernel
theorem dJxf58ca_floatToIntBits_5c35a_1 : decode cJxf58ca_floatToIntBits_5c35a 1 = .ok (.invokestatic 59, 3) := by decide +kernel
theorem dJxf58ca_floatToIntBits_5c35a_4 : decode cJxf58ca_floatToIntBits_5c35a 4 = .ok (.ifCond .ne 8, 3) := by decide +kernel
theorem dJxf58ca_floatToIntBits_5c35a_7 : decode cJxf58ca_floatToIntBits_5c35a 7 = .ok (.fload_n 0, 1) := by decide +kernel
theorem dJxf58ca_floatToIntBits_5c35a_8 : decode cJxf58ca_floatToIntBits_5c35a 8 = .ok (.invokestatic 74, 3) := by decide +kernel
theorem dJxf58ca_floatToIntBits_5c35a_11 : decode cJxf58ca_floatToIntBits_5c35a 11 = .ok (.ireturn, 1) := by decide +kernel
theorem dJxf58ca_floatToIntBits_5c35a_12 : decode cJxf58ca_floatToIntBits_5c35a 12 = .ok (.ldc 77, 2) := by decide +kernel
theorem dJxf58ca_floatToIntBits_5c35a_14 : decode cJxf58ca_floatToIntBits_5c35a 14 = .ok (.ireturn, 1) := by decide +kernel
theorem dJ6_highestOneBit_0f7a4_0 : decode cJ6_highestOneBit_0f7a4 0 = .ok (.iload_n 0, 1) := by decide +kernel
theorem dJ6_highestOneBit_0f7a4_1 : decode cJ6_highestOneBit_0f7a4 1 = .ok (.ldc 127, 2) := by decide +kernel
theorem dJ6_highestOneBit_0f7a4_3 : decode cJ6_highestOneBit_0f7a4 3 = .ok (.iload_n 0, 1) := by decide +kernel
theorem dJ6_highestOneBit_0f7a4_4 : decode cJ6_highestOneBit_0f7a4 4 = .ok (.invokestatic 51, 3) := by decide +kernel
theorem dJ6_highestOneBit_0f7a4_7 : decode cJ6_highestOneBit_0f7a4 7 = .ok (.iushr, 1) := by decide +kernel
theorem dJ6_highestOneBit_0f7a4_8 : decode cJ6_highestOneBit_0f7a4 8 = .ok (.iand, 1) := by decide +kernel
theorem dJ6_highestOneBit_0f7a4_9 : decode cJ6_highestOneBit_0f7a4 9 = .ok (.ireturn, 1) := by decide +kernel
theorem dJ6_numberOfLeadingZeros_0f7a4_0 : decode cJ6_numberOfLeadingZeros_0f7a4 0 = .ok (.iload_n 0, 1) := by decide +kernel
theorem dJ6_numberOfLeadingZeros_0f7a4_1 : decode cJ6_numberOfLeadingZeros_0f7a4 1 = .ok (.ifCond .gt 14, 3) := by decide +kernel
theorem dJ6_numberOfLeadingZeros_0f7a4_4 : decode cJ6_numberOfLeadingZeros_0f7a4 4 = .ok (.iload_n 0, 1) := by decide +kernel
theorem dJ6_numberOfLeadingZeros_0f7a4_5 : decode cJ6_numberOfLeadingZeros_0f7a4 5 = .ok (.ifCond .ne 8, 3) := by decide +kernel
theorem dJ6_numberOfLeadingZeros_0f7a4_8 : decode cJ6_numberOfLeadingZeros_0f7a4 8 = .ok (.bipush 32, 2) := by decide +kernel
theorem dJ6_numberOfLeadingZeros_0f7a4_10 : decode cJ6_numberOfLeadingZeros_0f7a4 10 = .ok (.goto 4, 3) := by decide +kernel
theorem dJ6_numberOfLeadingZeros_0f7a4_13 : decode cJ6_numberOfLeadingZeros_0f7a4 13 = .ok (.iconst 0, 1) := by decide +kernel
theorem dJ6_numberOfLeadingZeros_0f7a4_14 : decode cJ6_numberOfLeadingZeros_0f7a4 14 = .ok (.ireturn, 1) := by decide +kernel
theorem dJ6_numberOfLeadingZeros_0f7a4_15 : decode cJ6_numberOfLeadingZeros_0f7a4 15 = .ok (.bipush 31, 2) := by decide +kernel
theorem dJ6_numberOfLeadingZeros_0f7a4_17 : decode cJ6_numberOfLeadingZeros_0f7a4 17 = .ok (.istore_n 1, 1) := by decide +kernel
theorem dJ6_numberOfLeadingZeros_0f7a4_18 : decode cJ6_numberOfLeadingZeros_0f7a4 18 = .ok (.iload_n 0, 1) := by decide +kernel
theorem dJ6_numberOfLeadingZeros_0f7a4_19 : decode cJ6_numberOfLeadingZeros_0f7a4 19 = .ok (.ldc_w 264, 3) := by decide +kernel
theorem dJ6_numberOfLeadingZeros_0f7a4_22 : decode cJ6_numberOfLeadingZeros_0f7a4 22 = .ok (.if_icmp .lt 11, 3) := by decide +kernel
theorem dJ6_numberOfLeadingZeros_0f7a4_25 : decode cJ6_numberOfLeadingZeros_0f7a4 25 = .ok (.iinc 1 (-16), 3) := by decide +kernel
theorem dJ6_numberOfLeadingZeros_0f7a4_28 : decode cJ6_numberOfLeadingZeros_0f7a4 28 = .ok (.iload_n 0, 1) := by decide +kernel
theorem dJ6_numberOfLeadingZeros_0f7a4_29 : decode cJ6_numberOfLeadingZeros_0f7a4 29 = .ok (.bipush 16, 2) := by decide +kernel
theorem dJ6_numberOfLeadingZeros_0f7a4_31 : decode cJ6_numberOfLeadingZeros_0f7a4 31 = .ok (.iushr, 1) := by decide +kernel
theorem dJ6_numberOfLeadingZeros_0f7a4_32 : decode cJ6_numberOfLeadingZeros_0f7a4 32 = .ok (.istore_n 0, 1) := by decide +kernel
theorem dJ6_numberOfLeadingZeros_0f7a4_33 : decode cJ6_numberOfLeadingZeros_0f7a4 33 = .ok (.iload_n 0, 1) := by decide +kernel
theorem dJ6_numberOfLeadingZeros_0f7a4_34 : decode cJ6_numberOfLeadingZeros_0f7a4 34 = .ok (.sipush 256, 3) := by decide +kernel
theorem dJ6_numberOfLeadingZeros_0f7a4_37 : decode cJ6_numberOfLeadingZeros_0f7a4 37 = .ok (.if_icmp .lt 11, 3) := by decide +kernel
theorem dJ6_numberOfLeadingZeros_0f7a4_40 : decode cJ6_numberOfLeadingZeros_0f7a4 40 = .ok (.iinc 1 (-8), 3) := by decide +kernel
theorem dJ6_numberOfLeadingZeros_0f7a4_43 : decode cJ6_numberOfLeadingZeros_0f7a4 43 = .ok (.iload_n 0, 1) := by decide +kernel
theorem dJ6_numberOfLeadingZeros_0f7a4_44 : decode cJ6_numberOfLeadingZeros_0f7a4 44 = .ok (.bipush 8, 2) := by decide +kernel
theorem dJ6_numberOfLeadingZeros_0f7a4_46 : decode cJ6_numberOfLeadingZeros_0f7a4 46 = .ok (.iushr, 1) := by decide +kernel
theorem dJ6_numberOfLeadingZeros_0f7a4_47 : decode cJ6_numberOfLeadingZeros_0f7a4 47 = .ok (.istore_n 0, 1) := by decide +kernel
theorem dJ6_numberOfLeadingZeros_0f7a4_48 : decode cJ6_numberOfLeadingZeros_0f7a4 48 = .ok (.iload_n 0, 1) := by decide +kernel
theorem dJ6_numberOfLeadingZeros_0f7a4_49 : decode cJ6_numberOfLeadingZeros_0f7a4 49 = .ok (.bipush 16, 2) := by decide +kernel
theorem dJ6_numberOfLeadingZeros_0f7a4_51 : decode cJ6_numberOfLeadingZeros_0f7a4 51 = .ok (.if_icmp .lt 10, 3) := by decide +kernel
theorem dJ6_numberOfLeadingZeros_0f7a4_54 : decode cJ6_numberOfLeadingZeros_0f7a4 54 = .ok (.iinc 1 (-4), 3) := by decide +kernel
theorem dJ6_numberOfLeadingZeros_0f7a4_57 : decode cJ6_numberOfLeadingZeros_0f7a4 57 = .ok (.iload_n 0, 1) := by decide +kernel
theorem dJ6_numberOfLeadingZeros_0f7a4_58 : decode cJ6_numberOfLeadingZeros_0f7a4 58 = .ok (.iconst 4, 1) := by decide +kernel
theorem dJ6_numberOfLeadingZeros_0f7a4_59 : decode cJ6_numberOfLeadingZeros_0f7a4 59 = .ok (.iushr, 1) := by decide +kernel
theorem dJ6_numberOfLeadingZeros_0f7a4_60 : decode cJ6_numberOfLeadingZeros_0f7a4 60 = .ok (.istore_n 0, 1) := by decide +kernel
theorem dJ6_numberOfLeadingZeros_0f7a4_61 : decode cJ6_numberOfLeadingZeros_0f7a4 61 = .ok (.iload_n 0, 1) := by decide +kernel
theorem dJ6_numberOfLeadingZeros_0f7a4_62 : decode cJ6_numberOfLeadingZeros_0f7a4 62 = .ok (.iconst 4, 1) := by decide +kernel
theorem dJ6_numberOfLeadingZeros_0f7a4_63 : decode cJ6_numberOfLeadingZeros_0f7a4 63 = .ok (.if_icmp .lt 10, 3) := by decide +kernel
theorem dJ6_numberOfLeadingZeros_0f7a4_66 : decode cJ6_numberOfLeadingZeros_0f7a4 66 = .ok (.iinc 1 (-2), 3) := by decide +kernel
theorem dJ6_numberOfLeadingZeros_0f7a4_69 : decode cJ6_numberOfLeadingZeros_0f7a4 69 = .ok (.iload_n 0, 1) := by decide +kernel
theorem dJ6_numberOfLeadingZeros_0f7a4_70 : decode cJ6_numberOfLeadingZeros_0f7a4 70 = .ok (.iconst 2, 1) := by decide +kernel
theorem dJ6_numberOfLeadingZeros_0f7a4_71 : decode cJ6_numberOfLeadingZeros_0f7a4 71 = .ok (.iushr, 1) := by decide +kernel
theorem dJ6_numberOfLeadingZeros_0f7a4_72 : decode cJ6_numberOfLeadingZeros_0f7a4 72 = .ok (.istore_n 0, 1) := by decide +kernel
theorem dJ6_numberOfLeadingZeros_0f7a4_73 : decode cJ6_numberOfLeadingZeros_0f7a4 73 = .ok (.iload_n 1, 1) := by decide +kernel
theorem dJ6_numberOfLeadingZeros_0f7a4_74 : decode cJ6_numberOfLeadingZeros_0f7a4 74 = .ok (.iload_n 0, 1) := by decide +kernel
theorem dJ6_numberOfLeadingZeros_0f7a4_75 : decode cJ6_numberOfLeadingZeros_0f7a4 75 = .ok (.iconst 1, 1) := by decide +kernel
theorem dJ6_numberOfLeadingZeros_0f7a4_76 : decode cJ6_numberOfLeadingZeros_0f7a4 76 = .ok (.iushr, 1) := by decide +kernel
theorem dJ6_numberOfLeadingZeros_0f7a4_77 : decode cJ6_numberOfLeadingZeros_0f7a4 77 = .ok (.isub, 1) := by decide +kernel
theorem dJ6_numberOfLeadingZeros_0f7a4_78 : decode cJ6_numberOfLeadingZeros_0f7a4 78 = .ok (.ireturn, 1) := by decide +kernel
theorem dJ6_bitCount_0f7a4_0 : decode cJ6_bitCount_0f7a4 0 = .ok (.iload_n 0, 1) := by decide +kernel
theorem dJ6_bitCount_0f7a4_1 : decode cJ6_bitCount_0f7a4 1 = .ok (.iload_n 0, 1) := by decide +kernel
theorem dJ6_bitCount_0f7a4_2 : decode cJ6_bitCount_0f7a4 2 = .ok (.iconst 1, 1) := by decide +kernel
theorem dJ6_bitCount_0f7a4_3 : decode cJ6_bitCount_0f7a4 3 = .ok (.iushr, 1) := by decide +kernel
theorem dJ6_bitCount_0f7a4_4 : decode cJ6_bitCount_0f7a4 4 = .ok (.ldc_w 265, 3) := by decide +kernel
theorem dJ6_bitCount_0f7a4_7 : decode cJ6_bitCount_0f7a4 7 = .ok (.iand, 1) := by decide +kernel
theorem dJ6_bitCount_0f7a4_8 : decode cJ6_bitCount_0f7a4 8 = .ok (.isub, 1) := by decide +kernel
theorem dJ6_bitCount_0f7a4_9 : decode cJ6_bitCount_0f7a4 9 = .ok (.istore_n 0, 1) := by decide +kernel
theorem dJ6_bitCount_0f7a4_10 : decode cJ6_bitCount_0f7a4 10 = .ok (.iload_n 0, 1) := by decide +kernel
theorem dJ6_bitCount_0f7a4_11 : decode cJ6_bitCount_0f7a4 11 = .ok (.ldc_w 266, 3) := by decide +kernel
theorem dJ6_bitCount_0f7a4_14 : decode cJ6_bitCount_0f7a4 14 = .ok (.iand, 1) := by decide +kernel
theorem dJ6_bitCount_0f7a4_15 : decode cJ6_bitCount_0f7a4 15 = .ok (.iload_n 0, 1) := by decide +kernel
theorem dJ6_bitCount_0f7a4_16 : decode cJ6_bitCount_0f7a4 16 = .ok (.iconst 2, 1) := by decide +kernel
theorem dJ6_bitCount_0f7a4_17 : decode cJ6_bitCount_0f7a4 17 = .ok (.iushr, 1) := by decide +kernel
theorem dJ6_bitCount_0f7a4_18 : decode cJ6_bitCount_0f7a4 18 = .ok (.ldc_w 266, 3) := by decide +kernel
theorem dJ6_bitCount_0f7a4_21 : decode cJ6_bitCount_0f7a4 21 = .ok (.iand, 1) := by decide +kernel
theorem dJ6_bitCount_0f7a4_22 : decode cJ6_bitCount_0f7a4 22 = .ok (.iadd, 1) := by decide +kernel
theorem dJ6_bitCount_0f7a4_23 : decode cJ6_bitCount_0f7a4 23 = .ok (.istore_n 0, 1) := by decide +kernel
theorem dJ6_bitCount_0f7a4_24 : decode cJ6_bitCount_0f7a4 24 = .ok (.iload_n 0, 1) := by decide +kernel
theorem dJ6_bitCount_0f7a4_25 : decode cJ6_bitCount_0f7a4 25 = .ok (.iload_n 0, 1) := by decide +kernel
theorem dJ6_bitCount_0f7a4_26 : decode cJ6_bitCount_0f7a4 26 = .ok (.iconst 4, 1) := by decide +kernel
theorem dJ6_bitCount_0f7a4_27 : decode cJ6_bitCount_0f7a4 27 = .ok (.iushr, 1) := by decide +kernel
theorem dJ6_bitCount_0f7a4_28 : decode cJ6_bitCount_0f7a4 28 = .ok (.iadd, 1) := by decide +kernel
theorem dJ6_bitCount_0f7a4_29 : decode cJ6_bitCount_0f7a4 29 = .ok (.ldc_w 267, 3) := by decide +kernel
theorem dJ6_bitCount_0f7a4_32 : decode cJ6_bitCount_0f7a4 32 = .ok (.iand, 1) := by decide +kernel
theorem dJ6_bitCount_0f7a4_33 : decode cJ6_bitCount_0f7a4 33 = .ok (.istore_n 0, 1) := by decide +kernel
theorem dJ6_bitCount_0f7a4_34 : decode cJ6_bitCount_0f7a4 34 = .ok (.iload_n 0, 1) := by decide +kernel
theorem dJ6_bitCount_0f7a4_35 : decode cJ6_bitCount_0f7a4 35 = .ok (.iload_n 0, 1) := by decide +kernel
theorem dJ6_bitCount_0f7a4_36 : decode cJ6_bitCount_0f7a4 36 = .ok (.bipush 8, 2) := by decide +kernel
theorem dJ6_bitCount_0f7a4_38 : decode cJ6_bitCount_0f7a4 38 = .ok (.iushr, 1) := by decide +kernel
theorem dJ6_bitCount_0f7a4_39 : decode cJ6_bitCount_0f7a4 39 = .ok (.iadd, 1) := by decide +kernel
theorem dJ6_bitCount_0f7a4_40 : decode cJ6_bitCount_0f7a4 40 = .ok (.istore_n 0, 1) := by decide +kernel
theorem dJ6_bitCount_0f7a4_41 : decode cJ6_bitCount_0f7a4 41 = .ok (.iload_n 0, 1) := by decide +kernel
theorem dJ6_bitCount_0f7a4_42 : decode cJ6_bitCount_0f7a4 42 = .ok (.iload_n 0, 1) := by decide +kernel
theorem dJ6_bitCount_0f7a4_43 : decode cJ6_bitCount_0f7a4 43 = .ok (.bipush 16, 2) := by decide +kernel
theorem dJ6_bitCount_0f7a4_45 : decode cJ6_bitCount_0f7a4 45 = .ok (.iushr, 1) := by decide +kernel
theorem dJ6_bitCount_0f7a4_46 : decode cJ6_bitCount_0f7a4 46 = .ok (.iadd, 1) := by decide +kernel
theorem dJ6_bitCount_0f7a4_47 : decode cJ6_bitCount_0f7a4 47 = .ok (.istore_n 0, 1) := by decide +kernel
theorem dJ6_bitCount_0f7a4_48 : decode cJ6_bitCount_0f7a4 48 = .ok (.iload_n 0, 1) := by decide +kernel
theorem dJ6_bitCount_0f7a4_49 : decode cJ6_bitCount_0f7a4 49 = .ok (.bipush 63, 2) := by decide +kernel
theorem dJ6_bitCount_0f7a4_51 : decode cJ6_bitCount_0f7a4 51 = .ok (.iand, 1) := by decide +kernel
theorem dJ6_bitCount_0f7a4_52 : decode cJ6_bitCount_0f7a4 52 = .ok (.ireturn, 1) := by decide +kernel
theorem dJ13_bitCount_95d88_0 : decode cJ13_bitCount_95d88 0 = .ok (.lload_n 0, 1) := by decide +kernel
theorem dJ13_bitCount_95d88_1 : decode cJ13_bitCount_95d88 1 = .ok (.lload_n 0, 1) := by decide +kernel
theorem dJ13_bitCount_95d88_2 : decode cJ13_bitCount_95d88 2 = .ok (.iconst 1, 1) := by decide +kernel
theorem dJ13_bitCount_95d88_3 : decode cJ13_bitCount_95d88 3 = .ok (.lushr, 1) := by decide +kernel
theorem dJ13_bitCount_95d88_4 : decode cJ13_bitCount_95d88 4 = .ok (.ldc2_w 314, 3) := by decide +kernel
theorem dJ13_bitCount_95d88_7 : decode cJ13_bitCount_95d88 7 = .ok (.land, 1) := by decide +kernel
theorem dJ13_bitCount_95d88_8 : decode cJ13_bitCount_95d88 8 = .ok (.lsub, 1) := by decide +kernel
theorem dJ13_bitCount_95d88_9 : decode cJ13_bitCount_95d88 9 = .ok (.lstore_n 0, 1) := by decide +kernel
theorem dJ13_bitCount_95d88_10 : decode cJ13_bitCount_95d88 10 = .ok (.lload_n 0, 1) := by decide +kernel
theorem dJ13_bitCount_95d88_11 : decode cJ13_bitCount_95d88 11 = .ok (.ldc2_w 316, 3) := by decide +kernel
theorem dJ13_bitCount_95d88_14 : decode cJ13_bitCount_95d88 14 = .ok (.land, 1) := by decide +kernel
theorem dJ13_bitCount_95d88_15 : decode cJ13_bitCount_95d88 15 = .ok (.lload_n 0, 1) := by decide +kernel
theorem dJ13_bitCount_95d88_16 : decode cJ13_bitCount_95d88 16 = .ok (.iconst 2, 1) := by decide +kernel
theorem dJ13_bitCount_95d88_17 : decode cJ13_bitCount_95d88 17 = .ok (.lushr, 1) := by decide +kernel
theorem dJ13_bitCount_95d88_18 : decode cJ13_bitCount_95d88 18 = .ok (.ldc2_w 316, 3) := by decide +kernel
theorem dJ13_bitCount_95d88_21 : decode cJ13_bitCount_95d88 21 = .ok (.land, 1) := by decide +kernel
theorem dJ13_bitCount_95d88_22 : decode cJ13_bitCount_95d88 22 = .ok (.ladd, 1) := by decide +kernel
theorem dJ13_bitCount_95d88_23 : decode cJ13_bitCount_95d88 23 = .ok (.lstore_n 0, 1) := by decide +kernel
theorem dJ13_bitCount_95d88_24 : decode cJ13_bitCount_95d88 24 = .ok (.lload_n 0, 1) := by decide +kernel
theorem dJ13_bitCount_95d88_25 : decode cJ13_bitCount_95d88 25 = .ok (.lload_n 0, 1) := by decide +kernel
theorem dJ13_bitCount_95d88_26 : decode cJ13_bitCount_95d88 26 = .ok (.iconst 4, 1) := by decide +kernel
theorem dJ13_bitCount_95d88_27 : decode cJ13_bitCount_95d88 27 = .ok (.lushr, 1) := by decide +kernel
theorem dJ13_bitCount_95d88_28 : decode cJ13_bitCount_95d88 28 = .ok (.ladd, 1) := by decide +kernel
theorem dJ13_bitCount_95d88_29 : decode cJ13_bitCount_95d88 29 = .ok (.ldc2_w 318, 3) := by decide +kernel
theorem dJ13_bitCount_95d88_32 : decode cJ13_bitCount_95d88 32 = .ok (.land, 1) := by decide +kernel
theorem dJ13_bitCount_95d88_33 : decode cJ13_bitCount_95d88 33 = .ok (.lstore_n 0, 1) := by decide +kernel
theorem dJ13_bitCount_95d88_34 : decode cJ13_bitCount_95d88 34 = .ok (.lload_n 0, 1) := by decide +kernel
theorem dJ13_bitCount_95d88_35 : decode cJ13_bitCount_95d88 35 = .ok (.lload_n 0, 1) := by decide +kernel
theorem dJ13_bitCount_95d88_36 : decode cJ13_bitCount_95d88 36 = .ok (.bipush 8, 2) := by decide +kernel
theorem dJ13_bitCount_95d88_38 : decode cJ13_bitCount_95d88 38 = .ok (.lushr, 1) := by decide +kernel
theorem dJ13_bitCount_95d88_39 : decode cJ13_bitCount_95d88 39 = .ok (.ladd, 1) := by decide +kernel
theorem dJ13_bitCount_95d88_40 : decode cJ13_bitCount_95d88 40 = .ok (.lstore_n 0, 1) := by decide +kernel
theorem dJ13_bitCount_95d88_41 : decode cJ13_bitCount_95d88 41 = .ok (.lload_n 0, 1) := by decide +kernel
theorem dJ13_bitCount_95d88_42 : decode cJ13_bitCount_95d88 42 = .ok (.lload_n 0, 1) := by decide +kernel
theorem dJ13_bitCount_95d88_43 : decode cJ13_bitCount_95d88 43 = .ok (.bipush 16, 2) := by decide +kernel
theorem dJ13_bitCount_95d88_45 : decode cJ13_bitCount_95d88 45 = .ok (.lushr, 1) := by decide +kernel
theorem dJ13_bitCount_95d88_46 : decode cJ13_bitCount_95d88 46 = .ok (.ladd, 1) := by decide +kernel
theorem dJ13_bitCount_95d88_47 : decode cJ13_bitCount_95d88 47 = .ok (.lstore_n 0, 1) := by decide +kernel
theorem dJ13_bitCount_95d88_48 : decode cJ13_bitCount_95d88 48 = .ok (.lload_n 0, 1) := by decide +kernel
theorem dJ13_bitCount_95d88_49 : decode cJ13_bitCount_95d88 49 = .ok (.lload_n 0, 1) := by decide +kernel
theorem dJ13_bitCount_95d88_50 : decode cJ13_bitCount_95d88 50 = .ok (.bipush 32, 2) := by decide +kernel
theorem dJ13_bitCount_95d88_52 : decode cJ13_bitCount_95d88 52 = .ok (.lushr, 1) := by decide +kernel
theorem dJ13_bitCount_95d88_53 : decode cJ13_bitCount_95d88 53 = .ok (.ladd, 1) := by decide +kernel
theorem dJ13_bitCount_95d88_54 : decode cJ13_bitCount_95d88 54 = .ok (.lstore_n 0, 1) := by decide +kernel
theorem dJ13_bitCount_95d88_55 : decode cJ13_bitCount_95d88 55 = .ok (.lload_n 0, 1) := by decide +kernel
theorem dJ13_bitCount_95d88_56 : decode cJ13_bitCount_95d88 56 = .ok (.l2i, 1) := by decide +kernel
theorem dJ13_bitCount_95d88_57 : decode cJ13_bitCount_95d88 57 = .ok (.bipush 127, 2) := by decide +kernel
theorem dJ13_bitCount_95d88_59 : decode cJ13_bitCount_95d88 59 = .ok (.iand, 1) := by decide +kernel
theorem dJ13_bitCount_95d88_60 : decode cJ13_bitCount_95d88 60 = .ok (.ireturn, 1) := by decide +kernel
theorem dJ9_max_7cf53_0 : decode cJ9_max_7cf53 0 = .ok (.iload_n 0, 1) := by decide +kernel
theorem dJ9_max_7cf53_1 : decode cJ9_max_7cf53 1 = .ok (.iload_n 1, 1) := by decide +kernel
theorem dJ9_max_7cf53_2 : decode cJ9_max_7cf53 2 = .ok (.if_icmp .lt 7, 3) := by decide +kernel
theorem dJ9_max_7cf53_5 : decode cJ9_max_7cf53 5 = .ok (.iload_n 0, 1) := by decide +kernel
theorem dJ9_max_7cf53_6 : decode cJ9_max_7cf53 6 = .ok (.goto 4, 3) := by decide +kernel
theorem dJ9_max_7cf53_9 : decode cJ9_max_7cf53 9 = .ok (.iload_n 1, 1) := by decide +kernel
theorem dJ9_max_7cf53_10 : decode cJ9_max_7cf53 10 = .ok (.ireturn, 1) := by decide +kernel
theorem dJ7_fill_53178_0 : decode cJ7_fill_53178 0 = .ok (.iconst 0, 1) := by decide +kernel
theorem dJ7_fill_53178_1 : decode cJ7_fill_53178 1 = .ok (.istore_n 2, 1) := by decide +kernel
theorem dJ7_fill_53178_2 : decode cJ7_fill_53178 2 = .ok (.aload_n 0, 1) := by decide +kernel
theorem dJ7_fill_53178_3 : decode cJ7_fill_53178 3 = .ok (.arraylength, 1) := by decide +kernel
theorem dJ7_fill_53178_4 : decode cJ7_fill_53178 4 = .ok (.istore_n 3, 1) := by decide +kernel
theorem dJ7_fill_53178_5 : decode cJ7_fill_53178 5 = .ok (.iload_n 2, 1) := by decide +kernel
theorem dJ7_fill_53178_6 : decode cJ7_fill_53178 6 = .ok (.iload_n 3, 1) := by decide +kernel
theorem dJ7_fill_53178_7 : decode cJ7_fill_53178 7 = .ok (.if_icmp .ge 13, 3) := by decide +kernel
theorem dJ7_fill_53178_10 : decode cJ7_fill_53178 10 = .ok (.aload_n 0, 1) := by decide +kernel
theorem dJ7_fill_53178_11 : decode cJ7_fill_53178 11 = .ok (.iload_n 2, 1) := by decide +kernel
theorem dJ7_fill_53178_12 : decode cJ7_fill_53178 12 = .ok (.iload_n 1, 1) := by decide +kernel
theorem dJ7_fill_53178_13 : decode cJ7_fill_53178 13 = .ok (.iastore, 1) := by decide +kernel
theorem dJ7_fill_53178_14 : decode cJ7_fill_53178 14 = .ok (.iinc 2 1, 3) := by decide +kernel
theorem dJ7_fill_53178_17 : decode cJ7_fill_53178 17 = .ok (.goto (-12), 3) := by decide +kernel
theorem dJ7_fill_53178_20 : decode cJ7_fill_53178 20 = .ok (.return_, 1) := by decide +kernel
end
section
theorem dL_at_0 : decode cL_at 0 = .ok (.aload_n 3, 1) := by decide +kernel
theorem dL_at_1 : decode cL_at 1 = .ok (.iconst 0, 1) := by decide +kernel
theorem dL_at_2 : decode cL_at 2 = .ok (.aload_n 0, 1) := by decide +kernel
theorem dL_at_3 : decode cL_at 3 = .ok (.iload_n 1, 1) := by decide +kernel
theorem dL_at_4 : decode cL_at 4 = .ok (.iload_n 2, 1) := by decide +kernel
theorem dL_at_5 : decode cL_at 5 = .ok (.invokevirtual 7, 3) := by decide +kernel
theorem dL_at_8 : decode cL_at 8 = .ok (.i2l, 1) := by decide +kernel
theorem dL_at_9 : decode cL_at 9 = .ok (.lastore, 1) := by decide +kernel
theorem dL_at_10 : decode cL_at 10 = .ok (.goto 7, 3) := by decide +kernel
theorem dL_at_13 : decode cL_at 13 = .ok (.astore 4, 2) := by decide +kernel
theorem dL_at_15 : decode cL_at 15 = .ok (.iconst 1, 1) := by decide +kernel
theorem dL_at_16 : decode cL_at 16 = .ok (.ireturn, 1) := by decide +kernel
theorem dL_at_17 : decode cL_at 17 = .ok (.iconst 0, 1) := by decide +kernel
theorem dL_at_18 : decode cL_at 18 = .ok (.ireturn, 1) := by decide +kernel
theorem dL_law_0 : decode cL_law 0 = .ok (.new 8, 3) := by decide +kernel
theorem dL_law_3 : decode cL_law 3 = .ok (.dup, 1) := by decide +kernel
theorem dL_law_4 : decode cL_law 4 = .ok (.invokespecial 15, 3) := by decide +kernel
theorem dL_law_7 : decode cL_law 7 = .ok (.astore_n 1, 1) := by decide +kernel
theorem dL_law_8 : decode cL_law 8 = .ok (.new 16, 3) := by decide +kernel
theorem dL_law_11 : decode cL_law 11 = .ok (.dup, 1) := by decide +kernel
theorem dL_law_12 : decode cL_law 12 = .ok (.invokespecial 18, 3) := by decide +kernel
theorem dL_law_15 : decode cL_law 15 = .ok (.astore_n 2, 1) := by decide +kernel
theorem dL_law_16 : decode cL_law 16 = .ok (.iconst 1, 1) := by decide +kernel
theorem dL_law_17 : decode cL_law 17 = .ok (.newarray .long, 2) := by decide +kernel
theorem dL_law_19 : decode cL_law 19 = .ok (.astore_n 3, 1) := by decide +kernel
theorem dL_law_20 : decode cL_law 20 = .ok (.iconst 0, 1) := by decide +kernel
theorem dL_law_21 : decode cL_law 21 = .ok (.istore 4, 2) := by decide +kernel
theorem dL_law_23 : decode cL_law 23 = .ok (.iload 4, 2) := by decide +kernel
theorem dL_law_25 : decode cL_law 25 = .ok (.aload_n 0, 1) := by decide +kernel
theorem dL_law_26 : decode cL_law 26 = .ok (.arraylength, 1) := by decide +kernel
theorem dL_law_27 : decode cL_law 27 = .ok (.bipush 7, 2) := by decide +kernel
theorem dL_law_29 : decode cL_law 29 = .ok (.isub, 1) := by decide +kernel
theorem dL_law_30 : decode cL_law 30 = .ok (.if_icmp .gt 940, 3) := by decide +kernel
theorem dL_law_33 : decode cL_law 33 = .ok (.aload_n 0, 1) := by decide +kernel
theorem dL_law_34 : decode cL_law 34 = .ok (.iload 4, 2) := by decide +kernel
theorem dL_law_36 : decode cL_law 36 = .ok (.iaload, 1) := by decide +kernel
theorem dL_law_37 : decode cL_law 37 = .ok (.bipush 31, 2) := by decide +kernel
theorem dL_law_39 : decode cL_law 39 = .ok (.iand, 1) := by decide +kernel
theorem dL_law_40 : decode cL_law 40 = .ok (.tableswitch 924 0 26 #[124, 161, 174, 187, 224, 273, 322, 347, 372, 385, 398, 411, 436, 461, 474, 514, 551, 600, 637, 662, 675, 700, 787, 824, 861, 886, 899], 124) := by decide +kernel
theorem dL_law_164 : decode cL_law 164 = .ok (.aload_n 1, 1) := by decide +kernel
theorem dL_law_165 : decode cL_law 165 = .ok (.aload_n 0, 1) := by decide +kernel
theorem dL_law_166 : decode cL_law 166 = .ok (.iload 4, 2) := by decide +kernel
theorem dL_law_168 : decode cL_law 168 = .ok (.iconst 1, 1) := by decide +kernel
theorem dL_law_169 : decode cL_law 169 = .ok (.iadd, 1) := by decide +kernel
theorem dL_law_170 : decode cL_law 170 = .ok (.iaload, 1) := by decide +kernel
theorem dL_law_171 : decode cL_law 171 = .ok (.aload_n 0, 1) := by decide +kernel
theorem dL_law_172 : decode cL_law 172 = .ok (.iload 4, 2) := by decide +kernel
theorem dL_law_174 : decode cL_law 174 = .ok (.iconst 2, 1) := by decide +kernel
theorem dL_law_175 : decode cL_law 175 = .ok (.iadd, 1) := by decide +kernel
theorem dL_law_176 : decode cL_law 176 = .ok (.iaload, 1) := by decide +kernel
theorem dL_law_177 : decode cL_law 177 = .ok (.invokevirtual 19, 3) := by decide +kernel
theorem dL_law_180 : decode cL_law 180 = .ok (.aload_n 2, 1) := by decide +kernel
theorem dL_law_181 : decode cL_law 181 = .ok (.aload_n 0, 1) := by decide +kernel
theorem dL_law_182 : decode cL_law 182 = .ok (.iload 4, 2) := by decide +kernel
theorem dL_law_184 : decode cL_law 184 = .ok (.iconst 1, 1) := by decide +kernel
theorem dL_law_185 : decode cL_law 185 = .ok (.iadd, 1) := by decide +kernel
theorem dL_law_186 : decode cL_law 186 = .ok (.iaload, 1) := by decide +kernel
theorem dL_law_187 : decode cL_law 187 = .ok (.aload_n 0, 1) := by decide +kernel
theorem dL_law_188 : decode cL_law 188 = .ok (.iload 4, 2) := by decide +kernel
theorem dL_law_190 : decode cL_law 190 = .ok (.iconst 2, 1) := by decide +kernel
theorem dL_law_191 : decode cL_law 191 = .ok (.iadd, 1) := by decide +kernel
theorem dL_law_192 : decode cL_law 192 = .ok (.iaload, 1) := by decide +kernel
theorem dL_law_193 : decode cL_law 193 = .ok (.invokevirtual 23, 3) := by decide +kernel
theorem dL_law_196 : decode cL_law 196 = .ok (.if_icmp .eq 768, 3) := by decide +kernel
theorem dL_law_199 : decode cL_law 199 = .ok (.iconst 0, 1) := by decide +kernel
theorem dL_law_200 : decode cL_law 200 = .ok (.ireturn, 1) := by decide +kernel
theorem dL_law_201 : decode cL_law 201 = .ok (.aload_n 1, 1) := by decide +kernel
theorem dL_law_202 : decode cL_law 202 = .ok (.invokevirtual 24, 3) := by decide +kernel
theorem dL_law_205 : decode cL_law 205 = .ok (.pop, 1) := by decide +kernel
theorem dL_law_206 : decode cL_law 206 = .ok (.aload_n 2, 1) := by decide +kernel
theorem dL_law_207 : decode cL_law 207 = .ok (.invokevirtual 28, 3) := by decide +kernel
theorem dL_law_210 : decode cL_law 210 = .ok (.pop, 1) := by decide +kernel
theorem dL_law_211 : decode cL_law 211 = .ok (.goto 753, 3) := by decide +kernel
theorem dL_law_214 : decode cL_law 214 = .ok (.aload_n 1, 1) := by decide +kernel
theorem dL_law_215 : decode cL_law 215 = .ok (.invokevirtual 29, 3) := by decide +kernel
theorem dL_law_218 : decode cL_law 218 = .ok (.pop, 1) := by decide +kernel
theorem dL_law_219 : decode cL_law 219 = .ok (.aload_n 2, 1) := by decide +kernel
theorem dL_law_220 : decode cL_law 220 = .ok (.invokevirtual 33, 3) := by decide +kernel
theorem dL_law_223 : decode cL_law 223 = .ok (.pop, 1) := by decide +kernel
theorem dL_law_224 : decode cL_law 224 = .ok (.goto 740, 3) := by decide +kernel
theorem dL_law_227 : decode cL_law 227 = .ok (.aload_n 1, 1) := by decide +kernel
theorem dL_law_228 : decode cL_law 228 = .ok (.aload_n 0, 1) := by decide +kernel
theorem dL_law_229 : decode cL_law 229 = .ok (.iload 4, 2) := by decide +kernel
theorem dL_law_231 : decode cL_law 231 = .ok (.iconst 1, 1) := by decide +kernel
theorem dL_law_232 : decode cL_law 232 = .ok (.iadd, 1) := by decide +kernel
theorem dL_law_233 : decode cL_law 233 = .ok (.iaload, 1) := by decide +kernel
theorem dL_law_234 : decode cL_law 234 = .ok (.aload_n 0, 1) := by decide +kernel
theorem dL_law_235 : decode cL_law 235 = .ok (.iload 4, 2) := by decide +kernel
theorem dL_law_237 : decode cL_law 237 = .ok (.iconst 2, 1) := by decide +kernel
theorem dL_law_238 : decode cL_law 238 = .ok (.iadd, 1) := by decide +kernel
theorem dL_law_239 : decode cL_law 239 = .ok (.iaload, 1) := by decide +kernel
theorem dL_law_240 : decode cL_law 240 = .ok (.invokevirtual 34, 3) := by decide +kernel
theorem dL_law_243 : decode cL_law 243 = .ok (.pop, 1) := by decide +kernel
theorem dL_law_244 : decode cL_law 244 = .ok (.aload_n 2, 1) := by decide +kernel
theorem dL_law_245 : decode cL_law 245 = .ok (.aload_n 0, 1) := by decide +kernel
theorem dL_law_246 : decode cL_law 246 = .ok (.iload 4, 2) := by decide +kernel
theorem dL_law_248 : decode cL_law 248 = .ok (.iconst 1, 1) := by decide +kernel
theorem dL_law_249 : decode cL_law 249 = .ok (.iadd, 1) := by decide +kernel
theorem dL_law_250 : decode cL_law 250 = .ok (.iaload, 1) := by decide +kernel
theorem dL_law_251 : decode cL_law 251 = .ok (.aload_n 0, 1) := by decide +kernel
theorem dL_law_252 : decode cL_law 252 = .ok (.iload 4, 2) := by decide +kernel
theorem dL_law_254 : decode cL_law 254 = .ok (.iconst 2, 1) := by decide +kernel
theorem dL_law_255 : decode cL_law 255 = .ok (.iadd, 1) := by decide +kernel
theorem dL_law_256 : decode cL_law 256 = .ok (.iaload, 1) := by decide +kernel
theorem dL_law_257 : decode cL_law 257 = .ok (.invokevirtual 37, 3) := by decide +kernel
theorem dL_law_260 : decode cL_law 260 = .ok (.pop, 1) := by decide +kernel
theorem dL_law_261 : decode cL_law 261 = .ok (.goto 703, 3) := by decide +kernel
theorem dL_law_264 : decode cL_law 264 = .ok (.aload_n 1, 1) := by decide +kernel
theorem dL_law_265 : decode cL_law 265 = .ok (.aload_n 0, 1) := by decide +kernel
theorem dL_law_266 : decode cL_law 266 = .ok (.iload 4, 2) := by decide +kernel
theorem dL_law_268 : decode cL_law 268 = .ok (.iconst 1, 1) := by decide +kernel
theorem dL_law_269 : decode cL_law 269 = .ok (.iadd, 1) := by decide +kernel
theorem dL_law_270 : decode cL_law 270 = .ok (.iaload, 1) := by decide +kernel
theorem dL_law_271 : decode cL_law 271 = .ok (.aload_n 0, 1) := by decide +kernel
theorem dL_law_272 : decode cL_law 272 = .ok (.iload 4, 2) := by decide +kernel
theorem dL_law_274 : decode cL_law 274 = .ok (.iconst 2, 1) := by decide +kernel
theorem dL_law_275 : decode cL_law 275 = .ok (.iadd, 1) := by decide +kernel
theorem dL_law_276 : decode cL_law 276 = .ok (.iaload, 1) := by decide +kernel
theorem dL_law_277 : decode cL_law 277 = .ok (.aload_n 0, 1) := by decide +kernel
theorem dL_law_278 : decode cL_law 278 = .ok (.iload 4, 2) := by decide +kernel
theorem dL_law_280 : decode cL_law 280 = .ok (.iconst 3, 1) := by decide +kernel
theorem dL_law_281 : decode cL_law 281 = .ok (.iadd, 1) := by decide +kernel
theorem dL_law_282 : decode cL_law 282 = .ok (.iaload, 1) := by decide +kernel
theorem dL_law_283 : decode cL_law 283 = .ok (.invokevirtual 38, 3) := by decide +kernel
theorem dL_law_286 : decode cL_law 286 = .ok (.pop, 1) := by decide +kernel
theorem dL_law_287 : decode cL_law 287 = .ok (.aload_n 2, 1) := by decide +kernel
theorem dL_law_288 : decode cL_law 288 = .ok (.aload_n 0, 1) := by decide +kernel
theorem dL_law_289 : decode cL_law 289 = .ok (.iload 4, 2) := by decide +kernel
theorem dL_law_291 : decode cL_law 291 = .ok (.iconst 1, 1) := by decide +kernel
theorem dL_law_292 : decode cL_law 292 = .ok (.iadd, 1) := by decide +kernel
theorem dL_law_293 : decode cL_law 293 = .ok (.iaload, 1) := by decide +kernel
theorem dL_law_294 : decode cL_law 294 = .ok (.aload_n 0, 1) := by decide +kernel
theorem dL_law_295 : decode cL_law 295 = .ok (.iload 4, 2) := by decide +kernel
theorem dL_law_297 : decode cL_law 297 = .ok (.iconst 2, 1) := by decide +kernel
theorem dL_law_298 : decode cL_law 298 = .ok (.iadd, 1) := by decide +kernel
theorem dL_law_299 : decode cL_law 299 = .ok (.iaload, 1) := by decide +kernel
theorem dL_law_300 : decode cL_law 300 = .ok (.aload_n 0, 1) := by decide +kernel
theorem dL_law_301 : decode cL_law 301 = .ok (.iload 4, 2) := by decide +kernel
theorem dL_law_303 : decode cL_law 303 = .ok (.iconst 3, 1) := by decide +kernel
theorem dL_law_304 : decode cL_law 304 = .ok (.iadd, 1) := by decide +kernel
theorem dL_law_305 : decode cL_law 305 = .ok (.iaload, 1) := by decide +kernel
theorem dL_law_306 : decode cL_law 306 = .ok (.invokevirtual 42, 3) := by decide +kernel
theorem dL_law_309 : decode cL_law 309 = .ok (.pop, 1) := by decide +kernel
theorem dL_law_310 : decode cL_law 310 = .ok (.goto 654, 3) := by decide +kernel
theorem dL_law_313 : decode cL_law 313 = .ok (.aload_n 1, 1) := by decide +kernel
theorem dL_law_314 : decode cL_law 314 = .ok (.aload_n 0, 1) := by decide +kernel
theorem dL_law_315 : decode cL_law 315 = .ok (.iload 4, 2) := by decide +kernel
theorem dL_law_317 : decode cL_law 317 = .ok (.iconst 1, 1) := by decide +kernel
theorem dL_law_318 : decode cL_law 318 = .ok (.iadd, 1) := by decide +kernel
theorem dL_law_319 : decode cL_law 319 = .ok (.iaload, 1) := by decide +kernel
theorem dL_law_320 : decode cL_law 320 = .ok (.aload_n 0, 1) := by decide +kernel
theorem dL_law_321 : decode cL_law 321 = .ok (.iload 4, 2) := by decide +kernel
theorem dL_law_323 : decode cL_law 323 = .ok (.iconst 2, 1) := by decide +kernel
theorem dL_law_324 : decode cL_law 324 = .ok (.iadd, 1) := by decide +kernel
theorem dL_law_325 : decode cL_law 325 = .ok (.iaload, 1) := by decide +kernel
theorem dL_law_326 : decode cL_law 326 = .ok (.aload_n 0, 1) := by decide +kernel
theorem dL_law_327 : decode cL_law 327 = .ok (.iload 4, 2) := by decide +kernel
theorem dL_law_329 : decode cL_law 329 = .ok (.iconst 3, 1) := by decide +kernel
theorem dL_law_330 : decode cL_law 330 = .ok (.iadd, 1) := by decide +kernel
theorem dL_law_331 : decode cL_law 331 = .ok (.iaload, 1) := by decide +kernel
theorem dL_law_332 : decode cL_law 332 = .ok (.invokevirtual 43, 3) := by decide +kernel
theorem dL_law_335 : decode cL_law 335 = .ok (.pop, 1) := by decide +kernel
theorem dL_law_336 : decode cL_law 336 = .ok (.aload_n 2, 1) := by decide +kernel
theorem dL_law_337 : decode cL_law 337 = .ok (.aload_n 0, 1) := by decide +kernel
theorem dL_law_338 : decode cL_law 338 = .ok (.iload 4, 2) := by decide +kernel
theorem dL_law_340 : decode cL_law 340 = .ok (.iconst 1, 1) := by decide +kernel
theorem dL_law_341 : decode cL_law 341 = .ok (.iadd, 1) := by decide +kernel
theorem dL_law_342 : decode cL_law 342 = .ok (.iaload, 1) := by decide +kernel
theorem dL_law_343 : decode cL_law 343 = .ok (.aload_n 0, 1) := by decide +kernel
theorem dL_law_344 : decode cL_law 344 = .ok (.iload 4, 2) := by decide +kernel
theorem dL_law_346 : decode cL_law 346 = .ok (.iconst 2, 1) := by decide +kernel
theorem dL_law_347 : decode cL_law 347 = .ok (.iadd, 1) := by decide +kernel
theorem dL_law_348 : decode cL_law 348 = .ok (.iaload, 1) := by decide +kernel
theorem dL_law_349 : decode cL_law 349 = .ok (.aload_n 0, 1) := by decide +kernel
theorem dL_law_350 : decode cL_law 350 = .ok (.iload 4, 2) := by decide +kernel
theorem dL_law_352 : decode cL_law 352 = .ok (.iconst 3, 1) := by decide +kernel
theorem dL_law_353 : decode cL_law 353 = .ok (.iadd, 1) := by decide +kernel
theorem dL_law_354 : decode cL_law 354 = .ok (.iaload, 1) := by decide +kernel
theorem dL_law_355 : decode cL_law 355 = .ok (.invokevirtual 46, 3) := by decide +kernel
theorem dL_law_358 : decode cL_law 358 = .ok (.pop, 1) := by decide +kernel
theorem dL_law_359 : decode cL_law 359 = .ok (.goto 605, 3) := by decide +kernel
theorem dL_law_362 : decode cL_law 362 = .ok (.aload_n 1, 1) := by decide +kernel
theorem dL_law_363 : decode cL_law 363 = .ok (.aload_n 0, 1) := by decide +kernel
theorem dL_law_364 : decode cL_law 364 = .ok (.iload 4, 2) := by decide +kernel
theorem dL_law_366 : decode cL_law 366 = .ok (.iconst 1, 1) := by decide +kernel
theorem dL_law_367 : decode cL_law 367 = .ok (.iadd, 1) := by decide +kernel
theorem dL_law_368 : decode cL_law 368 = .ok (.iaload, 1) := by decide +kernel
theorem dL_law_369 : decode cL_law 369 = .ok (.invokevirtual 47, 3) := by decide +kernel
theorem dL_law_372 : decode cL_law 372 = .ok (.pop, 1) := by decide +kernel
theorem dL_law_373 : decode cL_law 373 = .ok (.aload_n 2, 1) := by decide +kernel
theorem dL_law_374 : decode cL_law 374 = .ok (.aload_n 0, 1) := by decide +kernel
theorem dL_law_375 : decode cL_law 375 = .ok (.iload 4, 2) := by decide +kernel
theorem dL_law_377 : decode cL_law 377 = .ok (.iconst 1, 1) := by decide +kernel
theorem dL_law_378 : decode cL_law 378 = .ok (.iadd, 1) := by decide +kernel
theorem dL_law_379 : decode cL_law 379 = .ok (.iaload, 1) := by decide +kernel
theorem dL_law_380 : decode cL_law 380 = .ok (.invokevirtual 51, 3) := by decide +kernel
theorem dL_law_383 : decode cL_law 383 = .ok (.pop, 1) := by decide +kernel
theorem dL_law_384 : decode cL_law 384 = .ok (.goto 580, 3) := by decide +kernel
theorem dL_law_387 : decode cL_law 387 = .ok (.aload_n 1, 1) := by decide +kernel
theorem dL_law_388 : decode cL_law 388 = .ok (.aload_n 0, 1) := by decide +kernel
theorem dL_law_389 : decode cL_law 389 = .ok (.iload 4, 2) := by decide +kernel
theorem dL_law_391 : decode cL_law 391 = .ok (.iconst 1, 1) := by decide +kernel
theorem dL_law_392 : decode cL_law 392 = .ok (.iadd, 1) := by decide +kernel
theorem dL_law_393 : decode cL_law 393 = .ok (.iaload, 1) := by decide +kernel
theorem dL_law_394 : decode cL_law 394 = .ok (.invokevirtual 52, 3) := by decide +kernel
theorem dL_law_397 : decode cL_law 397 = .ok (.pop, 1) := by decide +kernel
theorem dL_law_398 : decode cL_law 398 = .ok (.aload_n 2, 1) := by decide +kernel
theorem dL_law_399 : decode cL_law 399 = .ok (.aload_n 0, 1) := by decide +kernel
theorem dL_law_400 : decode cL_law 400 = .ok (.iload 4, 2) := by decide +kernel
theorem dL_law_402 : decode cL_law 402 = .ok (.iconst 1, 1) := by decide +kernel
theorem dL_law_403 : decode cL_law 403 = .ok (.iadd, 1) := by decide +kernel
theorem dL_law_404 : decode cL_law 404 = .ok (.iaload, 1) := by decide +kernel
theorem dL_law_405 : decode cL_law 405 = .ok (.invokevirtual 55, 3) := by decide +kernel
theorem dL_law_408 : decode cL_law 408 = .ok (.pop, 1) := by decide +kernel
theorem dL_law_409 : decode cL_law 409 = .ok (.goto 555, 3) := by decide +kernel
theorem dL_law_412 : decode cL_law 412 = .ok (.aload_n 1, 1) := by decide +kernel
theorem dL_law_413 : decode cL_law 413 = .ok (.invokevirtual 56, 3) := by decide +kernel
theorem dL_law_416 : decode cL_law 416 = .ok (.pop, 1) := by decide +kernel
theorem dL_law_417 : decode cL_law 417 = .ok (.aload_n 2, 1) := by decide +kernel
theorem dL_law_418 : decode cL_law 418 = .ok (.invokevirtual 59, 3) := by decide +kernel
theorem dL_law_421 : decode cL_law 421 = .ok (.pop, 1) := by decide +kernel
theorem dL_law_422 : decode cL_law 422 = .ok (.goto 542, 3) := by decide +kernel
theorem dL_law_425 : decode cL_law 425 = .ok (.aload_n 1, 1) := by decide +kernel
theorem dL_law_426 : decode cL_law 426 = .ok (.invokevirtual 60, 3) := by decide +kernel
theorem dL_law_429 : decode cL_law 429 = .ok (.pop, 1) := by decide +kernel
theorem dL_law_430 : decode cL_law 430 = .ok (.aload_n 2, 1) := by decide +kernel
theorem dL_law_431 : decode cL_law 431 = .ok (.invokevirtual 63, 3) := by decide +kernel
theorem dL_law_434 : decode cL_law 434 = .ok (.pop, 1) := by decide +kernel
theorem dL_law_435 : decode cL_law 435 = .ok (.goto 529, 3) := by decide +kernel
theorem dL_law_438 : decode cL_law 438 = .ok (.aload_n 1, 1) := by decide +kernel
theorem dL_law_439 : decode cL_law 439 = .ok (.invokevirtual 64, 3) := by decide +kernel
theorem dL_law_442 : decode cL_law 442 = .ok (.pop, 1) := by decide +kernel
theorem dL_law_443 : decode cL_law 443 = .ok (.aload_n 2, 1) := by decide +kernel
theorem dL_law_444 : decode cL_law 444 = .ok (.invokevirtual 67, 3) := by decide +kernel
theorem dL_law_447 : decode cL_law 447 = .ok (.pop, 1) := by decide +kernel
theorem dL_law_448 : decode cL_law 448 = .ok (.goto 516, 3) := by decide +kernel
theorem dL_law_451 : decode cL_law 451 = .ok (.aload_n 1, 1) := by decide +kernel
theorem dL_law_452 : decode cL_law 452 = .ok (.aload_n 0, 1) := by decide +kernel
theorem dL_law_453 : decode cL_law 453 = .ok (.iload 4, 2) := by decide +kernel
theorem dL_law_455 : decode cL_law 455 = .ok (.iconst 1, 1) := by decide +kernel
theorem dL_law_456 : decode cL_law 456 = .ok (.iadd, 1) := by decide +kernel
theorem dL_law_457 : decode cL_law 457 = .ok (.iaload, 1) := by decide +kernel
theorem dL_law_458 : decode cL_law 458 = .ok (.invokevirtual 68, 3) := by decide +kernel
theorem dL_law_461 : decode cL_law 461 = .ok (.pop2, 1) := by decide +kernel
theorem dL_law_462 : decode cL_law 462 = .ok (.aload_n 2, 1) := by decide +kernel
theorem dL_law_463 : decode cL_law 463 = .ok (.aload_n 0, 1) := by decide +kernel
theorem dL_law_464 : decode cL_law 464 = .ok (.iload 4, 2) := by decide +kernel
theorem dL_law_466 : decode cL_law 466 = .ok (.iconst 1, 1) := by decide +kernel
theorem dL_law_467 : decode cL_law 467 = .ok (.iadd, 1) := by decide +kernel
theorem dL_law_468 : decode cL_law 468 = .ok (.iaload, 1) := by decide +kernel
theorem dL_law_469 : decode cL_law 469 = .ok (.invokevirtual 72, 3) := by decide +kernel
theorem dL_law_472 : decode cL_law 472 = .ok (.pop2, 1) := by decide +kernel
theorem dL_law_473 : decode cL_law 473 = .ok (.goto 491, 3) := by decide +kernel
theorem dL_law_476 : decode cL_law 476 = .ok (.aload_n 1, 1) := by decide +kernel
theorem dL_law_477 : decode cL_law 477 = .ok (.aload_n 0, 1) := by decide +kernel
theorem dL_law_478 : decode cL_law 478 = .ok (.iload 4, 2) := by decide +kernel
theorem dL_law_480 : decode cL_law 480 = .ok (.iconst 1, 1) := by decide +kernel
theorem dL_law_481 : decode cL_law 481 = .ok (.iadd, 1) := by decide +kernel
theorem dL_law_482 : decode cL_law 482 = .ok (.iaload, 1) := by decide +kernel
theorem dL_law_483 : decode cL_law 483 = .ok (.invokevirtual 73, 3) := by decide +kernel
theorem dL_law_486 : decode cL_law 486 = .ok (.pop, 1) := by decide +kernel
theorem dL_law_487 : decode cL_law 487 = .ok (.aload_n 2, 1) := by decide +kernel
theorem dL_law_488 : decode cL_law 488 = .ok (.aload_n 0, 1) := by decide +kernel
theorem dL_law_489 : decode cL_law 489 = .ok (.iload 4, 2) := by decide +kernel
theorem dL_law_491 : decode cL_law 491 = .ok (.iconst 1, 1) := by decide +kernel
theorem dL_law_492 : decode cL_law 492 = .ok (.iadd, 1) := by decide +kernel
theorem dL_law_493 : decode cL_law 493 = .ok (.iaload, 1) := by decide +kernel
theorem dL_law_494 : decode cL_law 494 = .ok (.invokevirtual 76, 3) := by decide +kernel
theorem dL_law_497 : decode cL_law 497 = .ok (.pop, 1) := by decide +kernel
theorem dL_law_498 : decode cL_law 498 = .ok (.goto 466, 3) := by decide +kernel
theorem dL_law_501 : decode cL_law 501 = .ok (.aload_n 1, 1) := by decide +kernel
theorem dL_law_502 : decode cL_law 502 = .ok (.invokevirtual 77, 3) := by decide +kernel
theorem dL_law_505 : decode cL_law 505 = .ok (.pop, 1) := by decide +kernel
theorem dL_law_506 : decode cL_law 506 = .ok (.aload_n 2, 1) := by decide +kernel
theorem dL_law_507 : decode cL_law 507 = .ok (.invokevirtual 80, 3) := by decide +kernel
theorem dL_law_510 : decode cL_law 510 = .ok (.pop, 1) := by decide +kernel
theorem dL_law_511 : decode cL_law 511 = .ok (.goto 453, 3) := by decide +kernel
theorem dL_law_514 : decode cL_law 514 = .ok (.aload_n 1, 1) := by decide +kernel
theorem dL_law_515 : decode cL_law 515 = .ok (.aload_n 0, 1) := by decide +kernel
theorem dL_law_516 : decode cL_law 516 = .ok (.iload 4, 2) := by decide +kernel
theorem dL_law_518 : decode cL_law 518 = .ok (.iconst 1, 1) := by decide +kernel
theorem dL_law_519 : decode cL_law 519 = .ok (.iadd, 1) := by decide +kernel
theorem dL_law_520 : decode cL_law 520 = .ok (.iaload, 1) := by decide +kernel
theorem dL_law_521 : decode cL_law 521 = .ok (.aload_n 0, 1) := by decide +kernel
theorem dL_law_522 : decode cL_law 522 = .ok (.iload 4, 2) := by decide +kernel
theorem dL_law_524 : decode cL_law 524 = .ok (.iconst 2, 1) := by decide +kernel
theorem dL_law_525 : decode cL_law 525 = .ok (.iadd, 1) := by decide +kernel
theorem dL_law_526 : decode cL_law 526 = .ok (.iaload, 1) := by decide +kernel
theorem dL_law_527 : decode cL_law 527 = .ok (.aload_n 3, 1) := by decide +kernel
theorem dL_law_528 : decode cL_law 528 = .ok (.invokestatic 81, 3) := by decide +kernel
theorem dL_law_531 : decode cL_law 531 = .ok (.istore 5, 2) := by decide +kernel
theorem dL_law_533 : decode cL_law 533 = .ok (.aload_n 2, 1) := by decide +kernel
theorem dL_law_534 : decode cL_law 534 = .ok (.aload_n 0, 1) := by decide +kernel
theorem dL_law_535 : decode cL_law 535 = .ok (.iload 4, 2) := by decide +kernel
theorem dL_law_537 : decode cL_law 537 = .ok (.iconst 1, 1) := by decide +kernel
theorem dL_law_538 : decode cL_law 538 = .ok (.iadd, 1) := by decide +kernel
theorem dL_law_539 : decode cL_law 539 = .ok (.iaload, 1) := by decide +kernel
theorem dL_law_540 : decode cL_law 540 = .ok (.aload_n 0, 1) := by decide +kernel
theorem dL_law_541 : decode cL_law 541 = .ok (.iload 4, 2) := by decide +kernel
theorem dL_law_543 : decode cL_law 543 = .ok (.iconst 2, 1) := by decide +kernel
theorem dL_law_544 : decode cL_law 544 = .ok (.iadd, 1) := by decide +kernel
theorem dL_law_545 : decode cL_law 545 = .ok (.iaload, 1) := by decide +kernel
theorem dL_law_546 : decode cL_law 546 = .ok (.invokevirtual 86, 3) := by decide +kernel
theorem dL_law_549 : decode cL_law 549 = .ok (.istore 6, 2) := by decide +kernel
theorem dL_law_551 : decode cL_law 551 = .ok (.goto 413, 3) := by decide +kernel
theorem dL_law_554 : decode cL_law 554 = .ok (.aload_n 1, 1) := by decide +kernel
theorem dL_law_555 : decode cL_law 555 = .ok (.aload_n 0, 1) := by decide +kernel
theorem dL_law_556 : decode cL_law 556 = .ok (.iload 4, 2) := by decide +kernel
theorem dL_law_558 : decode cL_law 558 = .ok (.iconst 1, 1) := by decide +kernel
theorem dL_law_559 : decode cL_law 559 = .ok (.iadd, 1) := by decide +kernel
theorem dL_law_560 : decode cL_law 560 = .ok (.iaload, 1) := by decide +kernel
theorem dL_law_561 : decode cL_law 561 = .ok (.aload_n 0, 1) := by decide +kernel
theorem dL_law_562 : decode cL_law 562 = .ok (.iload 4, 2) := by decide +kernel
theorem dL_law_564 : decode cL_law 564 = .ok (.iconst 2, 1) := by decide +kernel
theorem dL_law_565 : decode cL_law 565 = .ok (.iadd, 1) := by decide +kernel
theorem dL_law_566 : decode cL_law 566 = .ok (.iaload, 1) := by decide +kernel
theorem dL_law_567 : decode cL_law 567 = .ok (.invokevirtual 87, 3) := by decide +kernel
theorem dL_law_570 : decode cL_law 570 = .ok (.pop, 1) := by decide +kernel
theorem dL_law_571 : decode cL_law 571 = .ok (.aload_n 2, 1) := by decide +kernel
theorem dL_law_572 : decode cL_law 572 = .ok (.aload_n 0, 1) := by decide +kernel
theorem dL_law_573 : decode cL_law 573 = .ok (.iload 4, 2) := by decide +kernel
theorem dL_law_575 : decode cL_law 575 = .ok (.iconst 1, 1) := by decide +kernel
theorem dL_law_576 : decode cL_law 576 = .ok (.iadd, 1) := by decide +kernel
theorem dL_law_577 : decode cL_law 577 = .ok (.iaload, 1) := by decide +kernel
theorem dL_law_578 : decode cL_law 578 = .ok (.aload_n 0, 1) := by decide +kernel
theorem dL_law_579 : decode cL_law 579 = .ok (.iload 4, 2) := by decide +kernel
theorem dL_law_581 : decode cL_law 581 = .ok (.iconst 2, 1) := by decide +kernel
theorem dL_law_582 : decode cL_law 582 = .ok (.iadd, 1) := by decide +kernel
theorem dL_law_583 : decode cL_law 583 = .ok (.iaload, 1) := by decide +kernel
theorem dL_law_584 : decode cL_law 584 = .ok (.invokevirtual 90, 3) := by decide +kernel
theorem dL_law_587 : decode cL_law 587 = .ok (.pop, 1) := by decide +kernel
theorem dL_law_588 : decode cL_law 588 = .ok (.goto 376, 3) := by decide +kernel
theorem dL_law_591 : decode cL_law 591 = .ok (.aload_n 1, 1) := by decide +kernel
theorem dL_law_592 : decode cL_law 592 = .ok (.aload_n 0, 1) := by decide +kernel
theorem dL_law_593 : decode cL_law 593 = .ok (.iload 4, 2) := by decide +kernel
theorem dL_law_595 : decode cL_law 595 = .ok (.iconst 1, 1) := by decide +kernel
theorem dL_law_596 : decode cL_law 596 = .ok (.iadd, 1) := by decide +kernel
theorem dL_law_597 : decode cL_law 597 = .ok (.iaload, 1) := by decide +kernel
theorem dL_law_598 : decode cL_law 598 = .ok (.aload_n 0, 1) := by decide +kernel
theorem dL_law_599 : decode cL_law 599 = .ok (.iload 4, 2) := by decide +kernel
theorem dL_law_601 : decode cL_law 601 = .ok (.iconst 2, 1) := by decide +kernel
theorem dL_law_602 : decode cL_law 602 = .ok (.iadd, 1) := by decide +kernel
theorem dL_law_603 : decode cL_law 603 = .ok (.iaload, 1) := by decide +kernel
theorem dL_law_604 : decode cL_law 604 = .ok (.aload_n 0, 1) := by decide +kernel
theorem dL_law_605 : decode cL_law 605 = .ok (.iload 4, 2) := by decide +kernel
theorem dL_law_607 : decode cL_law 607 = .ok (.iconst 3, 1) := by decide +kernel
theorem dL_law_608 : decode cL_law 608 = .ok (.iadd, 1) := by decide +kernel
theorem dL_law_609 : decode cL_law 609 = .ok (.iaload, 1) := by decide +kernel
theorem dL_law_610 : decode cL_law 610 = .ok (.invokevirtual 91, 3) := by decide +kernel
theorem dL_law_613 : decode cL_law 613 = .ok (.pop, 1) := by decide +kernel
theorem dL_law_614 : decode cL_law 614 = .ok (.aload_n 2, 1) := by decide +kernel
theorem dL_law_615 : decode cL_law 615 = .ok (.aload_n 0, 1) := by decide +kernel
theorem dL_law_616 : decode cL_law 616 = .ok (.iload 4, 2) := by decide +kernel
theorem dL_law_618 : decode cL_law 618 = .ok (.iconst 1, 1) := by decide +kernel
theorem dL_law_619 : decode cL_law 619 = .ok (.iadd, 1) := by decide +kernel
theorem dL_law_620 : decode cL_law 620 = .ok (.iaload, 1) := by decide +kernel
theorem dL_law_621 : decode cL_law 621 = .ok (.aload_n 0, 1) := by decide +kernel
theorem dL_law_622 : decode cL_law 622 = .ok (.iload 4, 2) := by decide +kernel
theorem dL_law_624 : decode cL_law 624 = .ok (.iconst 2, 1) := by decide +kernel
theorem dL_law_625 : decode cL_law 625 = .ok (.iadd, 1) := by decide +kernel
theorem dL_law_626 : decode cL_law 626 = .ok (.iaload, 1) := by decide +kernel
theorem dL_law_627 : decode cL_law 627 = .ok (.aload_n 0, 1) := by decide +kernel
theorem dL_law_628 : decode cL_law 628 = .ok (.iload 4, 2) := by decide +kernel
theorem dL_law_630 : decode cL_law 630 = .ok (.iconst 3, 1) := by decide +kernel
theorem dL_law_631 : decode cL_law 631 = .ok (.iadd, 1) := by decide +kernel
theorem dL_law_632 : decode cL_law 632 = .ok (.iaload, 1) := by decide +kernel
theorem dL_law_633 : decode cL_law 633 = .ok (.invokevirtual 94, 3) := by decide +kernel
theorem dL_law_636 : decode cL_law 636 = .ok (.pop, 1) := by decide +kernel
theorem dL_law_637 : decode cL_law 637 = .ok (.goto 327, 3) := by decide +kernel
theorem dL_law_640 : decode cL_law 640 = .ok (.aload_n 1, 1) := by decide +kernel
theorem dL_law_641 : decode cL_law 641 = .ok (.aload_n 0, 1) := by decide +kernel
theorem dL_law_642 : decode cL_law 642 = .ok (.iload 4, 2) := by decide +kernel
theorem dL_law_644 : decode cL_law 644 = .ok (.iconst 1, 1) := by decide +kernel
theorem dL_law_645 : decode cL_law 645 = .ok (.iadd, 1) := by decide +kernel
theorem dL_law_646 : decode cL_law 646 = .ok (.iaload, 1) := by decide +kernel
theorem dL_law_647 : decode cL_law 647 = .ok (.aload_n 0, 1) := by decide +kernel
theorem dL_law_648 : decode cL_law 648 = .ok (.iload 4, 2) := by decide +kernel
theorem dL_law_650 : decode cL_law 650 = .ok (.iconst 2, 1) := by decide +kernel
theorem dL_law_651 : decode cL_law 651 = .ok (.iadd, 1) := by decide +kernel
theorem dL_law_652 : decode cL_law 652 = .ok (.iaload, 1) := by decide +kernel
theorem dL_law_653 : decode cL_law 653 = .ok (.invokevirtual 95, 3) := by decide +kernel
theorem dL_law_656 : decode cL_law 656 = .ok (.pop, 1) := by decide +kernel
theorem dL_law_657 : decode cL_law 657 = .ok (.aload_n 2, 1) := by decide +kernel
theorem dL_law_658 : decode cL_law 658 = .ok (.aload_n 0, 1) := by decide +kernel
theorem dL_law_659 : decode cL_law 659 = .ok (.iload 4, 2) := by decide +kernel
theorem dL_law_661 : decode cL_law 661 = .ok (.iconst 1, 1) := by decide +kernel
theorem dL_law_662 : decode cL_law 662 = .ok (.iadd, 1) := by decide +kernel
theorem dL_law_663 : decode cL_law 663 = .ok (.iaload, 1) := by decide +kernel
theorem dL_law_664 : decode cL_law 664 = .ok (.aload_n 0, 1) := by decide +kernel
theorem dL_law_665 : decode cL_law 665 = .ok (.iload 4, 2) := by decide +kernel
theorem dL_law_667 : decode cL_law 667 = .ok (.iconst 2, 1) := by decide +kernel
theorem dL_law_668 : decode cL_law 668 = .ok (.iadd, 1) := by decide +kernel
theorem dL_law_669 : decode cL_law 669 = .ok (.iaload, 1) := by decide +kernel
theorem dL_law_670 : decode cL_law 670 = .ok (.invokevirtual 98, 3) := by decide +kernel
theorem dL_law_673 : decode cL_law 673 = .ok (.pop, 1) := by decide +kernel
theorem dL_law_674 : decode cL_law 674 = .ok (.goto 290, 3) := by decide +kernel
theorem dL_law_677 : decode cL_law 677 = .ok (.aload_n 1, 1) := by decide +kernel
theorem dL_law_678 : decode cL_law 678 = .ok (.aload_n 0, 1) := by decide +kernel
theorem dL_law_679 : decode cL_law 679 = .ok (.iload 4, 2) := by decide +kernel
theorem dL_law_681 : decode cL_law 681 = .ok (.iconst 1, 1) := by decide +kernel
theorem dL_law_682 : decode cL_law 682 = .ok (.iadd, 1) := by decide +kernel
theorem dL_law_683 : decode cL_law 683 = .ok (.iaload, 1) := by decide +kernel
theorem dL_law_684 : decode cL_law 684 = .ok (.invokevirtual 99, 3) := by decide +kernel
theorem dL_law_687 : decode cL_law 687 = .ok (.pop, 1) := by decide +kernel
theorem dL_law_688 : decode cL_law 688 = .ok (.aload_n 2, 1) := by decide +kernel
theorem dL_law_689 : decode cL_law 689 = .ok (.aload_n 0, 1) := by decide +kernel
theorem dL_law_690 : decode cL_law 690 = .ok (.iload 4, 2) := by decide +kernel
theorem dL_law_692 : decode cL_law 692 = .ok (.iconst 1, 1) := by decide +kernel
theorem dL_law_693 : decode cL_law 693 = .ok (.iadd, 1) := by decide +kernel
theorem dL_law_694 : decode cL_law 694 = .ok (.iaload, 1) := by decide +kernel
theorem dL_law_695 : decode cL_law 695 = .ok (.invokevirtual 102, 3) := by decide +kernel
theorem dL_law_698 : decode cL_law 698 = .ok (.pop, 1) := by decide +kernel
theorem dL_law_699 : decode cL_law 699 = .ok (.goto 265, 3) := by decide +kernel
theorem dL_law_702 : decode cL_law 702 = .ok (.aload_n 1, 1) := by decide +kernel
theorem dL_law_703 : decode cL_law 703 = .ok (.invokevirtual 103, 3) := by decide +kernel
theorem dL_law_706 : decode cL_law 706 = .ok (.pop, 1) := by decide +kernel
theorem dL_law_707 : decode cL_law 707 = .ok (.aload_n 2, 1) := by decide +kernel
theorem dL_law_708 : decode cL_law 708 = .ok (.invokevirtual 106, 3) := by decide +kernel
theorem dL_law_711 : decode cL_law 711 = .ok (.pop, 1) := by decide +kernel
theorem dL_law_712 : decode cL_law 712 = .ok (.goto 252, 3) := by decide +kernel
theorem dL_law_715 : decode cL_law 715 = .ok (.aload_n 1, 1) := by decide +kernel
theorem dL_law_716 : decode cL_law 716 = .ok (.aload_n 0, 1) := by decide +kernel
theorem dL_law_717 : decode cL_law 717 = .ok (.iload 4, 2) := by decide +kernel
theorem dL_law_719 : decode cL_law 719 = .ok (.iconst 1, 1) := by decide +kernel
theorem dL_law_720 : decode cL_law 720 = .ok (.iadd, 1) := by decide +kernel
theorem dL_law_721 : decode cL_law 721 = .ok (.iaload, 1) := by decide +kernel
theorem dL_law_722 : decode cL_law 722 = .ok (.invokevirtual 107, 3) := by decide +kernel
theorem dL_law_725 : decode cL_law 725 = .ok (.pop, 1) := by decide +kernel
theorem dL_law_726 : decode cL_law 726 = .ok (.aload_n 2, 1) := by decide +kernel
theorem dL_law_727 : decode cL_law 727 = .ok (.aload_n 0, 1) := by decide +kernel
theorem dL_law_728 : decode cL_law 728 = .ok (.iload 4, 2) := by decide +kernel
theorem dL_law_730 : decode cL_law 730 = .ok (.iconst 1, 1) := by decide +kernel
theorem dL_law_731 : decode cL_law 731 = .ok (.iadd, 1) := by decide +kernel
theorem dL_law_732 : decode cL_law 732 = .ok (.iaload, 1) := by decide +kernel
theorem dL_law_733 : decode cL_law 733 = .ok (.invokevirtual 110, 3) := by decide +kernel
theorem dL_law_736 : decode cL_law 736 = .ok (.pop, 1) := by decide +kernel
theorem dL_law_737 : decode cL_law 737 = .ok (.goto 227, 3) := by decide +kernel
theorem dL_law_740 : decode cL_law 740 = .ok (.aload_n 1, 1) := by decide +kernel
theorem dL_law_741 : decode cL_law 741 = .ok (.aload_n 0, 1) := by decide +kernel
theorem dL_law_742 : decode cL_law 742 = .ok (.iload 4, 2) := by decide +kernel
theorem dL_law_744 : decode cL_law 744 = .ok (.iconst 1, 1) := by decide +kernel
theorem dL_law_745 : decode cL_law 745 = .ok (.iadd, 1) := by decide +kernel
theorem dL_law_746 : decode cL_law 746 = .ok (.iaload, 1) := by decide +kernel
theorem dL_law_747 : decode cL_law 747 = .ok (.aload_n 0, 1) := by decide +kernel
theorem dL_law_748 : decode cL_law 748 = .ok (.iload 4, 2) := by decide +kernel
theorem dL_law_750 : decode cL_law 750 = .ok (.iconst 2, 1) := by decide +kernel
theorem dL_law_751 : decode cL_law 751 = .ok (.iadd, 1) := by decide +kernel
theorem dL_law_752 : decode cL_law 752 = .ok (.iaload, 1) := by decide +kernel
theorem dL_law_753 : decode cL_law 753 = .ok (.aload_n 0, 1) := by decide +kernel
theorem dL_law_754 : decode cL_law 754 = .ok (.iload 4, 2) := by decide +kernel
theorem dL_law_756 : decode cL_law 756 = .ok (.iconst 3, 1) := by decide +kernel
theorem dL_law_757 : decode cL_law 757 = .ok (.iadd, 1) := by decide +kernel
theorem dL_law_758 : decode cL_law 758 = .ok (.iaload, 1) := by decide +kernel
theorem dL_law_759 : decode cL_law 759 = .ok (.aload_n 0, 1) := by decide +kernel
theorem dL_law_760 : decode cL_law 760 = .ok (.iload 4, 2) := by decide +kernel
theorem dL_law_762 : decode cL_law 762 = .ok (.iconst 4, 1) := by decide +kernel
theorem dL_law_763 : decode cL_law 763 = .ok (.iadd, 1) := by decide +kernel
theorem dL_law_764 : decode cL_law 764 = .ok (.iaload, 1) := by decide +kernel
theorem dL_law_765 : decode cL_law 765 = .ok (.aload_n 0, 1) := by decide +kernel
theorem dL_law_766 : decode cL_law 766 = .ok (.iload 4, 2) := by decide +kernel
theorem dL_law_768 : decode cL_law 768 = .ok (.iconst 5, 1) := by decide +kernel
theorem dL_law_769 : decode cL_law 769 = .ok (.iadd, 1) := by decide +kernel
theorem dL_law_770 : decode cL_law 770 = .ok (.iaload, 1) := by decide +kernel
theorem dL_law_771 : decode cL_law 771 = .ok (.aload_n 0, 1) := by decide +kernel
theorem dL_law_772 : decode cL_law 772 = .ok (.iload 4, 2) := by decide +kernel
theorem dL_law_774 : decode cL_law 774 = .ok (.bipush 6, 2) := by decide +kernel
theorem dL_law_776 : decode cL_law 776 = .ok (.iadd, 1) := by decide +kernel
theorem dL_law_777 : decode cL_law 777 = .ok (.iaload, 1) := by decide +kernel
theorem dL_law_778 : decode cL_law 778 = .ok (.invokevirtual 111, 3) := by decide +kernel
theorem dL_law_781 : decode cL_law 781 = .ok (.pop2, 1) := by decide +kernel
theorem dL_law_782 : decode cL_law 782 = .ok (.aload_n 2, 1) := by decide +kernel
theorem dL_law_783 : decode cL_law 783 = .ok (.aload_n 0, 1) := by decide +kernel
theorem dL_law_784 : decode cL_law 784 = .ok (.iload 4, 2) := by decide +kernel
theorem dL_law_786 : decode cL_law 786 = .ok (.iconst 1, 1) := by decide +kernel
theorem dL_law_787 : decode cL_law 787 = .ok (.iadd, 1) := by decide +kernel
theorem dL_law_788 : decode cL_law 788 = .ok (.iaload, 1) := by decide +kernel
theorem dL_law_789 : decode cL_law 789 = .ok (.aload_n 0, 1) := by decide +kernel
theorem dL_law_790 : decode cL_law 790 = .ok (.iload 4, 2) := by decide +kernel
theorem dL_law_792 : decode cL_law 792 = .ok (.iconst 2, 1) := by decide +kernel
theorem dL_law_793 : decode cL_law 793 = .ok (.iadd, 1) := by decide +kernel
theorem dL_law_794 : decode cL_law 794 = .ok (.iaload, 1) := by decide +kernel
theorem dL_law_795 : decode cL_law 795 = .ok (.aload_n 0, 1) := by decide +kernel
theorem dL_law_796 : decode cL_law 796 = .ok (.iload 4, 2) := by decide +kernel
theorem dL_law_798 : decode cL_law 798 = .ok (.iconst 3, 1) := by decide +kernel
theorem dL_law_799 : decode cL_law 799 = .ok (.iadd, 1) := by decide +kernel
theorem dL_law_800 : decode cL_law 800 = .ok (.iaload, 1) := by decide +kernel
theorem dL_law_801 : decode cL_law 801 = .ok (.aload_n 0, 1) := by decide +kernel
theorem dL_law_802 : decode cL_law 802 = .ok (.iload 4, 2) := by decide +kernel
theorem dL_law_804 : decode cL_law 804 = .ok (.iconst 4, 1) := by decide +kernel
theorem dL_law_805 : decode cL_law 805 = .ok (.iadd, 1) := by decide +kernel
theorem dL_law_806 : decode cL_law 806 = .ok (.iaload, 1) := by decide +kernel
theorem dL_law_807 : decode cL_law 807 = .ok (.aload_n 0, 1) := by decide +kernel
theorem dL_law_808 : decode cL_law 808 = .ok (.iload 4, 2) := by decide +kernel
theorem dL_law_810 : decode cL_law 810 = .ok (.iconst 5, 1) := by decide +kernel
theorem dL_law_811 : decode cL_law 811 = .ok (.iadd, 1) := by decide +kernel
theorem dL_law_812 : decode cL_law 812 = .ok (.iaload, 1) := by decide +kernel
theorem dL_law_813 : decode cL_law 813 = .ok (.aload_n 0, 1) := by decide +kernel
theorem dL_law_814 : decode cL_law 814 = .ok (.iload 4, 2) := by decide +kernel
theorem dL_law_816 : decode cL_law 816 = .ok (.bipush 6, 2) := by decide +kernel
theorem dL_law_818 : decode cL_law 818 = .ok (.iadd, 1) := by decide +kernel
theorem dL_law_819 : decode cL_law 819 = .ok (.iaload, 1) := by decide +kernel
theorem dL_law_820 : decode cL_law 820 = .ok (.invokevirtual 115, 3) := by decide +kernel
theorem dL_law_823 : decode cL_law 823 = .ok (.pop2, 1) := by decide +kernel
theorem dL_law_824 : decode cL_law 824 = .ok (.goto 140, 3) := by decide +kernel
theorem dL_law_827 : decode cL_law 827 = .ok (.aload_n 1, 1) := by decide +kernel
theorem dL_law_828 : decode cL_law 828 = .ok (.aload_n 0, 1) := by decide +kernel
theorem dL_law_829 : decode cL_law 829 = .ok (.iload 4, 2) := by decide +kernel
theorem dL_law_831 : decode cL_law 831 = .ok (.iconst 1, 1) := by decide +kernel
theorem dL_law_832 : decode cL_law 832 = .ok (.iadd, 1) := by decide +kernel
theorem dL_law_833 : decode cL_law 833 = .ok (.iaload, 1) := by decide +kernel
theorem dL_law_834 : decode cL_law 834 = .ok (.aload_n 0, 1) := by decide +kernel
theorem dL_law_835 : decode cL_law 835 = .ok (.iload 4, 2) := by decide +kernel
theorem dL_law_837 : decode cL_law 837 = .ok (.iconst 2, 1) := by decide +kernel
theorem dL_law_838 : decode cL_law 838 = .ok (.iadd, 1) := by decide +kernel
theorem dL_law_839 : decode cL_law 839 = .ok (.iaload, 1) := by decide +kernel
theorem dL_law_840 : decode cL_law 840 = .ok (.invokevirtual 116, 3) := by decide +kernel
theorem dL_law_843 : decode cL_law 843 = .ok (.pop2, 1) := by decide +kernel
theorem dL_law_844 : decode cL_law 844 = .ok (.aload_n 2, 1) := by decide +kernel
theorem dL_law_845 : decode cL_law 845 = .ok (.aload_n 0, 1) := by decide +kernel
theorem dL_law_846 : decode cL_law 846 = .ok (.iload 4, 2) := by decide +kernel
theorem dL_law_848 : decode cL_law 848 = .ok (.iconst 1, 1) := by decide +kernel
theorem dL_law_849 : decode cL_law 849 = .ok (.iadd, 1) := by decide +kernel
theorem dL_law_850 : decode cL_law 850 = .ok (.iaload, 1) := by decide +kernel
theorem dL_law_851 : decode cL_law 851 = .ok (.aload_n 0, 1) := by decide +kernel
theorem dL_law_852 : decode cL_law 852 = .ok (.iload 4, 2) := by decide +kernel
theorem dL_law_854 : decode cL_law 854 = .ok (.iconst 2, 1) := by decide +kernel
theorem dL_law_855 : decode cL_law 855 = .ok (.iadd, 1) := by decide +kernel
theorem dL_law_856 : decode cL_law 856 = .ok (.iaload, 1) := by decide +kernel
theorem dL_law_857 : decode cL_law 857 = .ok (.invokevirtual 120, 3) := by decide +kernel
theorem dL_law_860 : decode cL_law 860 = .ok (.pop2, 1) := by decide +kernel
theorem dL_law_861 : decode cL_law 861 = .ok (.goto 103, 3) := by decide +kernel
theorem dL_law_864 : decode cL_law 864 = .ok (.aload_n 1, 1) := by decide +kernel
theorem dL_law_865 : decode cL_law 865 = .ok (.aload_n 0, 1) := by decide +kernel
theorem dL_law_866 : decode cL_law 866 = .ok (.iload 4, 2) := by decide +kernel
theorem dL_law_868 : decode cL_law 868 = .ok (.iconst 1, 1) := by decide +kernel
theorem dL_law_869 : decode cL_law 869 = .ok (.iadd, 1) := by decide +kernel
theorem dL_law_870 : decode cL_law 870 = .ok (.iaload, 1) := by decide +kernel
theorem dL_law_871 : decode cL_law 871 = .ok (.aload_n 0, 1) := by decide +kernel
theorem dL_law_872 : decode cL_law 872 = .ok (.iload 4, 2) := by decide +kernel
theorem dL_law_874 : decode cL_law 874 = .ok (.iconst 2, 1) := by decide +kernel
theorem dL_law_875 : decode cL_law 875 = .ok (.iadd, 1) := by decide +kernel
theorem dL_law_876 : decode cL_law 876 = .ok (.iaload, 1) := by decide +kernel
theorem dL_law_877 : decode cL_law 877 = .ok (.invokevirtual 121, 3) := by decide +kernel
theorem dL_law_880 : decode cL_law 880 = .ok (.pop, 1) := by decide +kernel
theorem dL_law_881 : decode cL_law 881 = .ok (.aload_n 2, 1) := by decide +kernel
theorem dL_law_882 : decode cL_law 882 = .ok (.aload_n 0, 1) := by decide +kernel
theorem dL_law_883 : decode cL_law 883 = .ok (.iload 4, 2) := by decide +kernel
theorem dL_law_885 : decode cL_law 885 = .ok (.iconst 1, 1) := by decide +kernel
theorem dL_law_886 : decode cL_law 886 = .ok (.iadd, 1) := by decide +kernel
theorem dL_law_887 : decode cL_law 887 = .ok (.iaload, 1) := by decide +kernel
theorem dL_law_888 : decode cL_law 888 = .ok (.aload_n 0, 1) := by decide +kernel
theorem dL_law_889 : decode cL_law 889 = .ok (.iload 4, 2) := by decide +kernel
theorem dL_law_891 : decode cL_law 891 = .ok (.iconst 2, 1) := by decide +kernel
theorem dL_law_892 : decode cL_law 892 = .ok (.iadd, 1) := by decide +kernel
theorem dL_law_893 : decode cL_law 893 = .ok (.iaload, 1) := by decide +kernel
theorem dL_law_894 : decode cL_law 894 = .ok (.invokevirtual 124, 3) := by decide +kernel
theorem dL_law_897 : decode cL_law 897 = .ok (.pop, 1) := by decide +kernel
theorem dL_law_898 : decode cL_law 898 = .ok (.goto 66, 3) := by decide +kernel
theorem dL_law_901 : decode cL_law 901 = .ok (.aload_n 1, 1) := by decide +kernel
theorem dL_law_902 : decode cL_law 902 = .ok (.aload_n 0, 1) := by decide +kernel
theorem dL_law_903 : decode cL_law 903 = .ok (.iload 4, 2) := by decide +kernel
theorem dL_law_905 : decode cL_law 905 = .ok (.iconst 1, 1) := by decide +kernel
theorem dL_law_906 : decode cL_law 906 = .ok (.iadd, 1) := by decide +kernel
theorem dL_law_907 : decode cL_law 907 = .ok (.iaload, 1) := by decide +kernel
theorem dL_law_908 : decode cL_law 908 = .ok (.invokevirtual 125, 3) := by decide +kernel
theorem dL_law_911 : decode cL_law 911 = .ok (.pop, 1) := by decide +kernel
theorem dL_law_912 : decode cL_law 912 = .ok (.aload_n 2, 1) := by decide +kernel
theorem dL_law_913 : decode cL_law 913 = .ok (.aload_n 0, 1) := by decide +kernel
theorem dL_law_914 : decode cL_law 914 = .ok (.iload 4, 2) := by decide +kernel
theorem dL_law_916 : decode cL_law 916 = .ok (.iconst 1, 1) := by decide +kernel
theorem dL_law_917 : decode cL_law 917 = .ok (.iadd, 1) := by decide +kernel
theorem dL_law_918 : decode cL_law 918 = .ok (.iaload, 1) := by decide +kernel
theorem dL_law_919 : decode cL_law 919 = .ok (.invokevirtual 128, 3) := by decide +kernel
theorem dL_law_922 : decode cL_law 922 = .ok (.pop, 1) := by decide +kernel
theorem dL_law_923 : decode cL_law 923 = .ok (.goto 41, 3) := by decide +kernel
theorem dL_law_926 : decode cL_law 926 = .ok (.aload_n 1, 1) := by decide +kernel
theorem dL_law_927 : decode cL_law 927 = .ok (.invokevirtual 129, 3) := by decide +kernel
theorem dL_law_930 : decode cL_law 930 = .ok (.pop2, 1) := by decide +kernel
theorem dL_law_931 : decode cL_law 931 = .ok (.aload_n 2, 1) := by decide +kernel
theorem dL_law_932 : decode cL_law 932 = .ok (.invokevirtual 133, 3) := by decide +kernel
theorem dL_law_935 : decode cL_law 935 = .ok (.pop2, 1) := by decide +kernel
theorem dL_law_936 : decode cL_law 936 = .ok (.goto 28, 3) := by decide +kernel
theorem dL_law_939 : decode cL_law 939 = .ok (.aload_n 1, 1) := by decide +kernel
theorem dL_law_940 : decode cL_law 940 = .ok (.aload_n 0, 1) := by decide +kernel
theorem dL_law_941 : decode cL_law 941 = .ok (.iload 4, 2) := by decide +kernel
theorem dL_law_943 : decode cL_law 943 = .ok (.iconst 1, 1) := by decide +kernel
theorem dL_law_944 : decode cL_law 944 = .ok (.iadd, 1) := by decide +kernel
theorem dL_law_945 : decode cL_law 945 = .ok (.iaload, 1) := by decide +kernel
theorem dL_law_946 : decode cL_law 946 = .ok (.invokevirtual 134, 3) := by decide +kernel
theorem dL_law_949 : decode cL_law 949 = .ok (.pop, 1) := by decide +kernel
theorem dL_law_950 : decode cL_law 950 = .ok (.aload_n 2, 1) := by decide +kernel
theorem dL_law_951 : decode cL_law 951 = .ok (.aload_n 0, 1) := by decide +kernel
theorem dL_law_952 : decode cL_law 952 = .ok (.iload 4, 2) := by decide +kernel
theorem dL_law_954 : decode cL_law 954 = .ok (.iconst 1, 1) := by decide +kernel
theorem dL_law_955 : decode cL_law 955 = .ok (.iadd, 1) := by decide +kernel
theorem dL_law_956 : decode cL_law 956 = .ok (.iaload, 1) := by decide +kernel
theorem dL_law_957 : decode cL_law 957 = .ok (.invokevirtual 137, 3) := by decide +kernel
theorem dL_law_960 : decode cL_law 960 = .ok (.pop, 1) := by decide +kernel
theorem dL_law_961 : decode cL_law 961 = .ok (.goto 3, 3) := by decide +kernel
theorem dL_law_964 : decode cL_law 964 = .ok (.iinc 4 7, 3) := by decide +kernel
theorem dL_law_967 : decode cL_law 967 = .ok (.goto (-944), 3) := by decide +kernel
theorem dL_law_970 : decode cL_law 970 = .ok (.iconst 1, 1) := by decide +kernel
theorem dL_law_971 : decode cL_law 971 = .ok (.ireturn, 1) := by decide +kernel
end
section
def isNest : Cond → Bool
  | .fieldLinkNest .. => true
  | .methodLinkNest .. => true
  | _ => false
def gw : List Cond := lw_tbl.filter goodWord
def nw : List Cond := lw_tbl.filter isNest
theorem mgw {w : Cond} (i : Nat) (h : lw_tbl[i]? = some w) (hg : goodWord w = true) : w ∈ gw := List.mem_filter.mpr ⟨List.mem_of_getElem? h, hg⟩
theorem mnw {w : Cond} (i : Nat) (h : lw_tbl[i]? = some w) (hg : isNest w = true) : w ∈ nw := List.mem_filter.mpr ⟨List.mem_of_getElem? h, hg⟩
theorem wq_0 : Cond.selects RX1 yX1_renew yX1_renew ∈ gw := mgw 0 (by decide +kernel) (by decide +kernel)
theorem wq_1 : Cond.selects RX4 yX4_renew yX4_renew ∈ gw := mgw 1 (by decide +kernel) (by decide +kernel)
theorem wq_2 : Cond.selects RX4 yX4_switchOff yX4_switchOff ∈ gw := mgw 2 (by decide +kernel) (by decide +kernel)
theorem wq_3 : Cond.selects RX0 yX0_forget yX0_forget ∈ gw := mgw 3 (by decide +kernel) (by decide +kernel)
theorem wq_4 : Cond.selects RX4 yX4_isOn yX4_isOn ∈ gw := mgw 4 (by decide +kernel) (by decide +kernel)
theorem wq_5 : Cond.selects RX4 yX4_switchOn yX4_switchOn ∈ gw := mgw 5 (by decide +kernel) (by decide +kernel)
theorem wq_6 : Cond.selects RX1 yX1_greatestActive yX1_greatestActive ∈ gw := mgw 6 (by decide +kernel) (by decide +kernel)
theorem wq_7 : Cond.selects RX1 yX1_isActive yX1_isActive ∈ gw := mgw 7 (by decide +kernel) (by decide +kernel)
theorem wq_8 : Cond.selects RX1 yX1_peek yX1_peek ∈ gw := mgw 8 (by decide +kernel) (by decide +kernel)
theorem wq_9 : Cond.selects RX1 yX1_holds yX1_holds ∈ gw := mgw 9 (by decide +kernel) (by decide +kernel)
theorem wq_10 : Cond.selects RX1 yX1_numberOf yX1_numberOf ∈ gw := mgw 10 (by decide +kernel) (by decide +kernel)
theorem wq_11 : Cond.selects RX1 yX1_eraseAllBut yX1_eraseAllBut ∈ gw := mgw 11 (by decide +kernel) (by decide +kernel)
theorem wq_12 : Cond.selects RX1 yX1_isBlank yX1_isBlank ∈ gw := mgw 12 (by decide +kernel) (by decide +kernel)
theorem wq_13 : Cond.selects RX1 yX1_usedEnd yX1_usedEnd ∈ gw := mgw 13 (by decide +kernel) (by decide +kernel)
theorem wq_14 : Cond.selects RX1 yX1_hasSector yX1_hasSector ∈ gw := mgw 14 (by decide +kernel) (by decide +kernel)
theorem wq_15 : Cond.selects RX1 yX1_erase yX1_erase ∈ gw := mgw 15 (by decide +kernel) (by decide +kernel)
theorem wq_16 : Cond.selects RX1 yX1_endures yX1_endures ∈ gw := mgw 16 (by decide +kernel) (by decide +kernel)
theorem wq_17 : Cond.selects RX1 yX1_leastErased yX1_leastErased ∈ gw := mgw 17 (by decide +kernel) (by decide +kernel)
theorem wq_18 : Cond.selects RX1 yX1_erasesOf yX1_erasesOf ∈ gw := mgw 18 (by decide +kernel) (by decide +kernel)
theorem wq_19 : Cond.selects RX1 yX1_makeReady yX1_makeReady ∈ gw := mgw 19 (by decide +kernel) (by decide +kernel)
theorem wq_20 : Cond.selects RX1 yX1_write yX1_write ∈ gw := mgw 20 (by decide +kernel) (by decide +kernel)
theorem wq_21 : Cond.selects RX4 yX4_look yX4_look ∈ gw := mgw 21 (by decide +kernel) (by decide +kernel)
theorem wq_22 : Cond.selects RX3 yX3_scan yX3_scan ∈ gw := mgw 22 (by decide +kernel) (by decide +kernel)
theorem wq_23 : Cond.selects RX1 yX1_copySector yX1_copySector ∈ gw := mgw 23 (by decide +kernel) (by decide +kernel)
theorem wq_24 : Cond.selects RX3 yX3_takeEntry yX3_takeEntry ∈ gw := mgw 24 (by decide +kernel) (by decide +kernel)
theorem wq_25 : Cond.selects RX3 yX3_byteAt yX3_byteAt ∈ gw := mgw 25 (by decide +kernel) (by decide +kernel)
theorem wq_26 : Cond.selects RX3 yX3_firstMark yX3_firstMark ∈ gw := mgw 26 (by decide +kernel) (by decide +kernel)
theorem wq_27 : Cond.selects RX3 yX3_settleParts yX3_settleParts ∈ gw := mgw 27 (by decide +kernel) (by decide +kernel)
theorem wq_28 : Cond.selects RX3 yX3_has yX3_has ∈ gw := mgw 28 (by decide +kernel) (by decide +kernel)
theorem wq_29 : Cond.selects RX3 yX3_markNewest yX3_markNewest ∈ gw := mgw 29 (by decide +kernel) (by decide +kernel)
theorem wq_30 : Cond.selects RX3 yX3_valuedTags yX3_valuedTags ∈ gw := mgw 30 (by decide +kernel) (by decide +kernel)
theorem wq_31 : Cond.selects RX3 yX3_hasValue yX3_hasValue ∈ gw := mgw 31 (by decide +kernel) (by decide +kernel)
theorem wq_32 : Cond.selects RX3 yX3_valuedSize yX3_valuedSize ∈ gw := mgw 32 (by decide +kernel) (by decide +kernel)
theorem wq_33 : Cond.selects RX3 yX3_newestOf yX3_newestOf ∈ gw := mgw 33 (by decide +kernel) (by decide +kernel)
theorem wq_34 : Cond.selects RX4 yX4_outcome yX4_outcome ∈ gw := mgw 34 (by decide +kernel) (by decide +kernel)
theorem wq_35 : Cond.selects RX1 yX1_arm yX1_arm ∈ gw := mgw 35 (by decide +kernel) (by decide +kernel)
theorem wq_36 : Cond.selects RX1 yX1_decay yX1_decay ∈ gw := mgw 36 (by decide +kernel) (by decide +kernel)
theorem wq_37 : Cond.selects RX0 yX0_tell yX0_tell ∈ gw := mgw 37 (by decide +kernel) (by decide +kernel)
theorem wq_38 : Cond.selects RX0 yX0_find yX0_find ∈ gw := mgw 38 (by decide +kernel) (by decide +kernel)
theorem wq_39 : Cond.selects RX4 yX4_keep yX4_keep ∈ gw := mgw 39 (by decide +kernel) (by decide +kernel)
theorem wq_40 : Cond.selects RX4 yX4_makeRoom yX4_makeRoom ∈ gw := mgw 40 (by decide +kernel) (by decide +kernel)
theorem wq_41 : Cond.selects RX3 yX3_freeBytes yX3_freeBytes ∈ gw := mgw 41 (by decide +kernel) (by decide +kernel)
theorem wq_42 : Cond.selects RX3 yX3_freeBehindHandover yX3_freeBehindHandover ∈ gw := mgw 42 (by decide +kernel) (by decide +kernel)
theorem wq_43 : Cond.selects RX3 yX3_valuedBytes yX3_valuedBytes ∈ gw := mgw 43 (by decide +kernel) (by decide +kernel)
theorem wq_44 : Cond.selects RX4 yX4_handOver yX4_handOver ∈ gw := mgw 44 (by decide +kernel) (by decide +kernel)
theorem wq_45 : Cond.selects RX3 yX3_valueOf yX3_valueOf ∈ gw := mgw 45 (by decide +kernel) (by decide +kernel)
theorem wq_46 : Cond.selects RX3 yX3_numberAt yX3_numberAt ∈ gw := mgw 46 (by decide +kernel) (by decide +kernel)
theorem wq_47 : Cond.selects RX3 yX3_clearedBits yX3_clearedBits ∈ gw := mgw 47 (by decide +kernel) (by decide +kernel)
theorem wq_48 : Cond.selects RX3 yX3_newestLength yX3_newestLength ∈ gw := mgw 48 (by decide +kernel) (by decide +kernel)
theorem wq_49 : Cond.selects RX2 yX2_fillSetting yX2_fillSetting ∈ gw := mgw 49 (by decide +kernel) (by decide +kernel)
theorem wq_50 : Cond.selects RX2 yX2_start yX2_start ∈ gw := mgw 50 (by decide +kernel) (by decide +kernel)
theorem wq_51 : Cond.selects RX2 yX2_put yX2_put ∈ gw := mgw 51 (by decide +kernel) (by decide +kernel)
theorem wq_52 : Cond.selects RX2 yX2_putBytes yX2_putBytes ∈ gw := mgw 52 (by decide +kernel) (by decide +kernel)
theorem wq_53 : Cond.selects RX2 yX2_fillCounter yX2_fillCounter ∈ gw := mgw 53 (by decide +kernel) (by decide +kernel)
theorem wq_54 : Cond.selects RX1 yX1_writeDraft yX1_writeDraft ∈ gw := mgw 54 (by decide +kernel) (by decide +kernel)
theorem wq_55 : Cond.selects RX4 yX4_wouldHave yX4_wouldHave ∈ gw := mgw 55 (by decide +kernel) (by decide +kernel)
theorem wq_56 : Cond.selects RX4 yX4_countUp yX4_countUp ∈ gw := mgw 56 (by decide +kernel) (by decide +kernel)
theorem wq_57 : Cond.selects RX3 yX3_newestValue yX3_newestValue ∈ gw := mgw 57 (by decide +kernel) (by decide +kernel)
theorem wq_58 : Cond.selects RX3 yX3_unspentPlace yX3_unspentPlace ∈ gw := mgw 58 (by decide +kernel) (by decide +kernel)
theorem wq_59 : Cond.selects RX0 yX0_start yX0_start ∈ gw := mgw 59 (by decide +kernel) (by decide +kernel)
theorem wq_60 : Cond.selects RX4 yX4_writeChange yX4_writeChange ∈ gw := mgw 60 (by decide +kernel) (by decide +kernel)
theorem wq_61 : Cond.selects RX0 yX0_bytesToWrite yX0_bytesToWrite ∈ gw := mgw 61 (by decide +kernel) (by decide +kernel)
theorem wq_62 : Cond.selects RX2 yX2_fillCommit yX2_fillCommit ∈ gw := mgw 62 (by decide +kernel) (by decide +kernel)
theorem wq_63 : Cond.selects RX4 yX4_handOverByHand yX4_handOverByHand ∈ gw := mgw 63 (by decide +kernel) (by decide +kernel)
theorem wq_64 : Cond.selects RX3 yX3_tell yX3_tell ∈ gw := mgw 64 (by decide +kernel) (by decide +kernel)
theorem wq_65 : Cond.selects RX3 yX3_allBytes yX3_allBytes ∈ gw := mgw 65 (by decide +kernel) (by decide +kernel)
theorem wq_66 : Cond.selects RX4 yX4_costOf yX4_costOf ∈ gw := mgw 66 (by decide +kernel) (by decide +kernel)
theorem wq_67 : Cond.selects RX4 yX4_handoverDoings yX4_handoverDoings ∈ gw := mgw 67 (by decide +kernel) (by decide +kernel)
theorem wq_68 : Cond.selects RX3 yX3_copyWrites yX3_copyWrites ∈ gw := mgw 68 (by decide +kernel) (by decide +kernel)
theorem wq_69 : Cond.selects RX4 yX4_copyFrom yX4_copyFrom ∈ gw := mgw 69 (by decide +kernel) (by decide +kernel)
theorem wq_70 : Cond.selects RX1 yX1_copyFrom yX1_copyFrom ∈ gw := mgw 70 (by decide +kernel) (by decide +kernel)
theorem wq_71 : Cond.selects RX3 yX3_tellingOf yX3_tellingOf ∈ gw := mgw 71 (by decide +kernel) (by decide +kernel)
theorem wq_72 : Cond.selects RX3 yX3_tells yX3_tells ∈ gw := mgw 72 (by decide +kernel) (by decide +kernel)
theorem wq_73 : Cond.selects RX3 yX3_earlierValue yX3_earlierValue ∈ gw := mgw 73 (by decide +kernel) (by decide +kernel)
theorem wq_74 : Cond.selects RX4 yX4_wearOut yX4_wearOut ∈ gw := mgw 74 (by decide +kernel) (by decide +kernel)
theorem wq_75 : Cond.selects RX1 yX1_mostErases yX1_mostErases ∈ gw := mgw 75 (by decide +kernel) (by decide +kernel)
theorem wq_76 : Cond.selects RX1 yX1_fewestErases yX1_fewestErases ∈ gw := mgw 76 (by decide +kernel) (by decide +kernel)
theorem wq_77 : Cond.selects RX1 yX1_allErases yX1_allErases ∈ gw := mgw 77 (by decide +kernel) (by decide +kernel)
theorem wq_78 : Cond.selects "java/lang/Throwable" ⟨"java/lang/Throwable", "fillInStackTrace", "(I)Ljava/lang/Throwable;"⟩ ⟨"java/lang/Throwable", "fillInStackTrace", "(I)Ljava/lang/Throwable;"⟩ ∈ gw := mgw 78 (by decide +kernel) (by decide +kernel)
theorem wq_79 : Cond.selects RX6 yX6_makes yX6_makes ∈ gw := mgw 79 (by decide +kernel) (by decide +kernel)
theorem wq_80 : Cond.selects RX6 yX6_isOn yX6_isOn ∈ gw := mgw 80 (by decide +kernel) (by decide +kernel)
theorem wq_81 : Cond.selects RX6 yX6_begins yX6_begins ∈ gw := mgw 81 (by decide +kernel) (by decide +kernel)
theorem wq_82 : Cond.selects RX6 yX6_switchesOn yX6_switchesOn ∈ gw := mgw 82 (by decide +kernel) (by decide +kernel)
theorem wq_83 : Cond.selects RX6 yX6_found yX6_found ∈ gw := mgw 83 (by decide +kernel) (by decide +kernel)
theorem wq_84 : Cond.selects RX6 yX6_byteAt yX6_byteAt ∈ gw := mgw 84 (by decide +kernel) (by decide +kernel)
theorem wq_85 : Cond.selects RX6 yX6_numberOf yX6_numberOf ∈ gw := mgw 85 (by decide +kernel) (by decide +kernel)
theorem wq_86 : Cond.selects RX6 yX6_erasesOthers yX6_erasesOthers ∈ gw := mgw 86 (by decide +kernel) (by decide +kernel)
theorem wq_87 : Cond.selects RX6 yX6_isBlank yX6_isBlank ∈ gw := mgw 87 (by decide +kernel) (by decide +kernel)
theorem wq_88 : Cond.selects RX6 yX6_erases yX6_erases ∈ gw := mgw 88 (by decide +kernel) (by decide +kernel)
theorem wq_89 : Cond.selects RX6 yX6_goes yX6_goes ∈ gw := mgw 89 (by decide +kernel) (by decide +kernel)
theorem wq_90 : Cond.selects RX6 yX6_leastErased yX6_leastErased ∈ gw := mgw 90 (by decide +kernel) (by decide +kernel)
theorem wq_91 : Cond.selects RX6 yX6_makesReady yX6_makesReady ∈ gw := mgw 91 (by decide +kernel) (by decide +kernel)
theorem wq_92 : Cond.selects RX6 yX6_writes yX6_writes ∈ gw := mgw 92 (by decide +kernel) (by decide +kernel)
theorem wq_93 : Cond.selects RX6 yX6_reads yX6_reads ∈ gw := mgw 93 (by decide +kernel) (by decide +kernel)
theorem wq_94 : Cond.selects RX6 yX6_sortAt yX6_sortAt ∈ gw := mgw 94 (by decide +kernel) (by decide +kernel)
theorem wq_95 : Cond.selects RX6 yX6_sizeBy yX6_sizeBy ∈ gw := mgw 95 (by decide +kernel) (by decide +kernel)
theorem wq_96 : Cond.selects RX6 yX6_checked yX6_checked ∈ gw := mgw 96 (by decide +kernel) (by decide +kernel)
theorem wq_97 : Cond.selects RX6 yX6_sumOf yX6_sumOf ∈ gw := mgw 97 (by decide +kernel) (by decide +kernel)
theorem wq_98 : Cond.selects RX6 yX6_commits yX6_commits ∈ gw := mgw 98 (by decide +kernel) (by decide +kernel)
theorem wq_99 : Cond.selects RX6 yX6_valued yX6_valued ∈ gw := mgw 99 (by decide +kernel) (by decide +kernel)
theorem wq_100 : Cond.selects RX6 yX6_hasValue yX6_hasValue ∈ gw := mgw 100 (by decide +kernel) (by decide +kernel)
theorem wq_101 : Cond.selects RX6 yX6_lengthOf yX6_lengthOf ∈ gw := mgw 101 (by decide +kernel) (by decide +kernel)
theorem wq_102 : Cond.selects RX6 yX6_isSector yX6_isSector ∈ gw := mgw 102 (by decide +kernel) (by decide +kernel)
theorem wq_103 : Cond.selects RX6 yX6_isSetting yX6_isSetting ∈ gw := mgw 103 (by decide +kernel) (by decide +kernel)
theorem wq_104 : Cond.selects RX6 yX6_sets yX6_sets ∈ gw := mgw 104 (by decide +kernel) (by decide +kernel)
theorem wq_105 : Cond.selects RX6 yX6_tells yX6_tells ∈ gw := mgw 105 (by decide +kernel) (by decide +kernel)
theorem wq_106 : Cond.selects RX6 yX6_inChange yX6_inChange ∈ gw := mgw 106 (by decide +kernel) (by decide +kernel)
theorem wq_107 : Cond.selects RX6 yX6_makesRoom yX6_makesRoom ∈ gw := mgw 107 (by decide +kernel) (by decide +kernel)
theorem wq_108 : Cond.selects RX6 yX6_freeNow yX6_freeNow ∈ gw := mgw 108 (by decide +kernel) (by decide +kernel)
theorem wq_109 : Cond.selects RX6 yX6_freeThen yX6_freeThen ∈ gw := mgw 109 (by decide +kernel) (by decide +kernel)
theorem wq_110 : Cond.selects RX6 yX6_sizeNext yX6_sizeNext ∈ gw := mgw 110 (by decide +kernel) (by decide +kernel)
theorem wq_111 : Cond.selects RX6 yX6_handsOver yX6_handsOver ∈ gw := mgw 111 (by decide +kernel) (by decide +kernel)
theorem wq_112 : Cond.selects RX6 yX6_valueOf yX6_valueOf ∈ gw := mgw 112 (by decide +kernel) (by decide +kernel)
theorem wq_113 : Cond.selects RX6 yX6_number yX6_number ∈ gw := mgw 113 (by decide +kernel) (by decide +kernel)
theorem wq_114 : Cond.selects RX6 yX6_zeros yX6_zeros ∈ gw := mgw 114 (by decide +kernel) (by decide +kernel)
theorem wq_115 : Cond.selects RX6 yX6_laysCounter yX6_laysCounter ∈ gw := mgw 115 (by decide +kernel) (by decide +kernel)
theorem wq_116 : Cond.selects RX6 yX6_lays yX6_lays ∈ gw := mgw 116 (by decide +kernel) (by decide +kernel)
theorem wq_117 : Cond.selects RX6 yX6_laysCheck yX6_laysCheck ∈ gw := mgw 117 (by decide +kernel) (by decide +kernel)
theorem wq_118 : Cond.selects RX6 yX6_laysSetting yX6_laysSetting ∈ gw := mgw 118 (by decide +kernel) (by decide +kernel)
theorem wq_119 : Cond.selects RX6 yX6_told yX6_told ∈ gw := mgw 119 (by decide +kernel) (by decide +kernel)
theorem wq_120 : Cond.selects RX6 yX6_goesUp yX6_goesUp ∈ gw := mgw 120 (by decide +kernel) (by decide +kernel)
theorem wq_121 : Cond.selects RX6 yX6_isTag yX6_isTag ∈ gw := mgw 121 (by decide +kernel) (by decide +kernel)
theorem wq_122 : Cond.selects RX6 yX6_valueNow yX6_valueNow ∈ gw := mgw 122 (by decide +kernel) (by decide +kernel)
theorem wq_123 : Cond.selects RX6 yX6_wouldCost yX6_wouldCost ∈ gw := mgw 123 (by decide +kernel) (by decide +kernel)
theorem wq_124 : Cond.selects RX6 yX6_putsAside yX6_putsAside ∈ gw := mgw 124 (by decide +kernel) (by decide +kernel)
theorem wq_125 : Cond.selects RX6 yX6_putsBack yX6_putsBack ∈ gw := mgw 125 (by decide +kernel) (by decide +kernel)
theorem wq_126 : Cond.selects RX6 yX6_isOf yX6_isOf ∈ gw := mgw 126 (by decide +kernel) (by decide +kernel)
theorem wq_127 : Cond.selects RX6 yX6_extreme yX6_extreme ∈ gw := mgw 127 (by decide +kernel) (by decide +kernel)
theorem wq_128 : Cond.selects RX6 yX6_erasesOfAll yX6_erasesOfAll ∈ gw := mgw 128 (by decide +kernel) (by decide +kernel)
theorem wq_129 : Cond.initialized RL ∈ gw := mgw 129 (by decide +kernel) (by decide +kernel)
theorem wq_130 : Cond.initialized RX5 ∈ gw := mgw 130 (by decide +kernel) (by decide +kernel)
theorem wq_131 : Cond.initialized RX4 ∈ gw := mgw 131 (by decide +kernel) (by decide +kernel)
theorem wq_132 : Cond.initialized RX1 ∈ gw := mgw 132 (by decide +kernel) (by decide +kernel)
theorem wq_133 : Cond.initialized RX3 ∈ gw := mgw 133 (by decide +kernel) (by decide +kernel)
theorem wq_134 : Cond.initialized RX0 ∈ gw := mgw 134 (by decide +kernel) (by decide +kernel)
theorem wq_135 : Cond.initialized RX2 ∈ gw := mgw 135 (by decide +kernel) (by decide +kernel)
theorem wq_136 : Cond.initialized RJ7 ∈ gw := mgw 136 (by decide +kernel) (by decide +kernel)
theorem wq_137 : Cond.initialized RX6 ∈ gw := mgw 137 (by decide +kernel) (by decide +kernel)
theorem wq_138 : Cond.initialized RJxd2413 ∈ gw := mgw 138 (by decide +kernel) (by decide +kernel)
theorem wq_139 : Cond.initialized RJ13 ∈ gw := mgw 139 (by decide +kernel) (by decide +kernel)
theorem wq_140 : Cond.initialized RJ6 ∈ gw := mgw 140 (by decide +kernel) (by decide +kernel)
theorem wq_141 : Cond.initialized "java/lang/Throwable" ∈ gw := mgw 141 (by decide +kernel) (by decide +kernel)
theorem wq_142 : Cond.initialized "java/lang/Exception" ∈ gw := mgw 142 (by decide +kernel) (by decide +kernel)
theorem wq_143 : Cond.initialized "java/lang/RuntimeException" ∈ gw := mgw 143 (by decide +kernel) (by decide +kernel)
theorem wq_144 : Cond.initialized "java/util/NoSuchElementException" ∈ gw := mgw 144 (by decide +kernel) (by decide +kernel)
theorem wq_145 : Cond.initialized RJ10 ∈ gw := mgw 145 (by decide +kernel) (by decide +kernel)
theorem wq_146 : Cond.initialized RJ9 ∈ gw := mgw 146 (by decide +kernel) (by decide +kernel)
theorem wq_147 : Cond.initialized RJxf58ca ∈ gw := mgw 147 (by decide +kernel) (by decide +kernel)
theorem wq_148 : Cond.classLink RL 8 RX5 ∈ gw := mgw 148 (by decide +kernel) (by decide +kernel)
theorem wq_149 : Cond.instantiable RX5 2 ∈ gw := mgw 149 (by decide +kernel) (by decide +kernel)
theorem wq_150 : Cond.methodLink RL 15 yX5_init ∈ gw := mgw 150 (by decide +kernel) (by decide +kernel)
theorem wq_151 : Cond.instanceMethod yX5_init ∈ gw := mgw 151 (by decide +kernel) (by decide +kernel)
theorem wq_152 : Cond.code yX5_init cX5_init 1 (none : Option FieldType) ∈ gw := mgw 152 (by decide +kernel) (by decide +kernel)
theorem wq_153 : Cond.methodLink RX5 3 objectInit ∈ gw := mgw 153 (by decide +kernel) (by decide +kernel)
theorem wq_154 : Cond.instanceMethod objectInit ∈ gw := mgw 154 (by decide +kernel) (by decide +kernel)
theorem wq_155 : Cond.code objectInit object_method_1_code 1 (none : Option FieldType) ∈ gw := mgw 155 (by decide +kernel) (by decide +kernel)
theorem wq_156 : Cond.classLink RX5 9 RX4 ∈ gw := mgw 156 (by decide +kernel) (by decide +kernel)
theorem wq_157 : Cond.instantiable RX4 7 ∈ gw := mgw 157 (by decide +kernel) (by decide +kernel)
theorem wn_158 : Cond.methodLinkNest RX5 11 yX4_init RX5 ∈ nw := mnw 158 (by decide +kernel) (by decide +kernel)
theorem wq_159 : Cond.instanceMethod yX4_init ∈ gw := mgw 159 (by decide +kernel) (by decide +kernel)
theorem wq_160 : Cond.code yX4_init cX4_init 1 (none : Option FieldType) ∈ gw := mgw 160 (by decide +kernel) (by decide +kernel)
theorem wq_161 : Cond.methodLink RX4 3 objectInit ∈ gw := mgw 161 (by decide +kernel) (by decide +kernel)
theorem wq_162 : Cond.classLink RX4 9 RX1 ∈ gw := mgw 162 (by decide +kernel) (by decide +kernel)
theorem wq_163 : Cond.instantiable RX1 10 ∈ gw := mgw 163 (by decide +kernel) (by decide +kernel)
theorem wn_164 : Cond.methodLinkNest RX4 11 yX1_init RX5 ∈ nw := mnw 164 (by decide +kernel) (by decide +kernel)
theorem wq_165 : Cond.instanceMethod yX1_init ∈ gw := mgw 165 (by decide +kernel) (by decide +kernel)
theorem wq_166 : Cond.code yX1_init cX1_init 1 (none : Option FieldType) ∈ gw := mgw 166 (by decide +kernel) (by decide +kernel)
theorem wq_167 : Cond.methodLink RX1 3 objectInit ∈ gw := mgw 167 (by decide +kernel) (by decide +kernel)
theorem wq_168 : Cond.fieldLink RX1 9 "SettingStore$Chip" "cells" "[I" ∈ gw := mgw 168 (by decide +kernel) (by decide +kernel)
theorem wq_169 : Cond.fieldLink RX1 15 "SettingStore$Chip" "erases" "[I" ∈ gw := mgw 169 (by decide +kernel) (by decide +kernel)
theorem wn_170 : Cond.fieldLinkNest RX4 211 "SettingStore$Chip" "erases" "[I" "SettingStore" ∈ nw := mnw 170 (by decide +kernel) (by decide +kernel)
theorem wq_171 : Cond.fieldLink RX1 18 "SettingStore$Chip" "sectors" "I" ∈ gw := mgw 171 (by decide +kernel) (by decide +kernel)
theorem wn_172 : Cond.fieldLinkNest RX5 214 "SettingStore$Chip" "sectors" "I" "SettingStore" ∈ nw := mnw 172 (by decide +kernel) (by decide +kernel)
theorem wn_173 : Cond.fieldLinkNest RX3 33 "SettingStore$Chip" "size" "I" "SettingStore" ∈ nw := mnw 173 (by decide +kernel) (by decide +kernel)
theorem wq_174 : Cond.fieldLink RX1 22 "SettingStore$Chip" "size" "I" ∈ gw := mgw 174 (by decide +kernel) (by decide +kernel)
theorem wn_175 : Cond.fieldLinkNest RX5 217 "SettingStore$Chip" "size" "I" "SettingStore" ∈ nw := mnw 175 (by decide +kernel) (by decide +kernel)
theorem wq_176 : Cond.fieldLink RX1 31 "SettingStore$Chip" "writes" "I" ∈ gw := mgw 176 (by decide +kernel) (by decide +kernel)
theorem wn_177 : Cond.fieldLinkNest RX5 203 "SettingStore$Chip" "writes" "I" "SettingStore" ∈ nw := mnw 177 (by decide +kernel) (by decide +kernel)
theorem wq_178 : Cond.fieldLink RX1 34 "SettingStore$Chip" "doings" "I" ∈ gw := mgw 178 (by decide +kernel) (by decide +kernel)
theorem wn_179 : Cond.fieldLinkNest RX4 64 "SettingStore$Chip" "doings" "I" "SettingStore" ∈ nw := mnw 179 (by decide +kernel) (by decide +kernel)
theorem wn_180 : Cond.fieldLinkNest RX5 180 "SettingStore$Chip" "doings" "I" "SettingStore" ∈ nw := mnw 180 (by decide +kernel) (by decide +kernel)
theorem wq_181 : Cond.fieldLink RX1 37 "SettingStore$Chip" "powered" "Z" ∈ gw := mgw 181 (by decide +kernel) (by decide +kernel)
theorem wn_182 : Cond.fieldLinkNest RX4 60 "SettingStore$Chip" "powered" "Z" "SettingStore" ∈ nw := mnw 182 (by decide +kernel) (by decide +kernel)
theorem wq_183 : Cond.fieldLink RX1 41 "SettingStore$Chip" "powerIn" "I" ∈ gw := mgw 183 (by decide +kernel) (by decide +kernel)
theorem wn_184 : Cond.fieldLinkNest RX5 220 "SettingStore$Chip" "powerIn" "I" "SettingStore" ∈ nw := mnw 184 (by decide +kernel) (by decide +kernel)
theorem wq_185 : Cond.fieldLink RX1 44 "SettingStore$Chip" "mask" "I" ∈ gw := mgw 185 (by decide +kernel) (by decide +kernel)
theorem wq_186 : Cond.fieldLink RX1 47 "SettingStore$Chip" "outages" "I" ∈ gw := mgw 186 (by decide +kernel) (by decide +kernel)
theorem wn_187 : Cond.fieldLinkNest RX5 223 "SettingStore$Chip" "outages" "I" "SettingStore" ∈ nw := mnw 187 (by decide +kernel) (by decide +kernel)
theorem wq_188 : Cond.laysFinal RX1 "SettingStore$Chip" "cells" "[I" ∈ gw := mgw 188 (by decide +kernel) (by decide +kernel)
theorem wq_190 : Cond.laysFinal RX1 "SettingStore$Chip" "erases" "[I" ∈ gw := mgw 190 (by decide +kernel) (by decide +kernel)
theorem wq_192 : Cond.lays RX1 "SettingStore$Chip" "sectors" "I" ∈ gw := mgw 192 (by decide +kernel) (by decide +kernel)
theorem wq_194 : Cond.lays RX1 "SettingStore$Chip" "size" "I" ∈ gw := mgw 194 (by decide +kernel) (by decide +kernel)
theorem wq_196 : Cond.lays RX1 "SettingStore$Chip" "writes" "I" ∈ gw := mgw 196 (by decide +kernel) (by decide +kernel)
theorem wq_198 : Cond.lays RX1 "SettingStore$Chip" "doings" "I" ∈ gw := mgw 198 (by decide +kernel) (by decide +kernel)
theorem wq_200 : Cond.lays RX1 "SettingStore$Chip" "powered" "Z" ∈ gw := mgw 200 (by decide +kernel) (by decide +kernel)
theorem wq_202 : Cond.lays RX1 "SettingStore$Chip" "powerIn" "I" ∈ gw := mgw 202 (by decide +kernel) (by decide +kernel)
theorem wq_204 : Cond.lays RX1 "SettingStore$Chip" "mask" "I" ∈ gw := mgw 204 (by decide +kernel) (by decide +kernel)
theorem wq_206 : Cond.lays RX1 "SettingStore$Chip" "outages" "I" ∈ gw := mgw 206 (by decide +kernel) (by decide +kernel)
theorem wq_209 : Cond.arrayClass Jvm.ClassFile.FieldType.int ∈ gw := mgw 209 (by decide +kernel) (by decide +kernel)
theorem wq_210 : Cond.classLink RX4 18 RX3 ∈ gw := mgw 210 (by decide +kernel) (by decide +kernel)
theorem wq_211 : Cond.instantiable RX3 11 ∈ gw := mgw 211 (by decide +kernel) (by decide +kernel)
theorem wn_212 : Cond.methodLinkNest RX4 20 yX3_init RX5 ∈ nw := mnw 212 (by decide +kernel) (by decide +kernel)
theorem wq_213 : Cond.instanceMethod yX3_init ∈ gw := mgw 213 (by decide +kernel) (by decide +kernel)
theorem wq_214 : Cond.code yX3_init cX3_init 1 (none : Option FieldType) ∈ gw := mgw 214 (by decide +kernel) (by decide +kernel)
theorem wq_215 : Cond.methodLink RX3 3 objectInit ∈ gw := mgw 215 (by decide +kernel) (by decide +kernel)
theorem wq_216 : Cond.fieldLink RX3 9 "SettingStore$Reading" "row" "[I" ∈ gw := mgw 216 (by decide +kernel) (by decide +kernel)
theorem wq_217 : Cond.fieldLink RX3 15 "SettingStore$Reading" "places" "[I" ∈ gw := mgw 217 (by decide +kernel) (by decide +kernel)
theorem wq_218 : Cond.fieldLink RX3 18 "SettingStore$Reading" "kinds" "[I" ∈ gw := mgw 218 (by decide +kernel) (by decide +kernel)
theorem wq_219 : Cond.fieldLink RX3 21 "SettingStore$Reading" "labels" "[I" ∈ gw := mgw 219 (by decide +kernel) (by decide +kernel)
theorem wq_220 : Cond.fieldLink RX3 24 "SettingStore$Reading" "sizes" "[I" ∈ gw := mgw 220 (by decide +kernel) (by decide +kernel)
theorem wq_221 : Cond.fieldLink RX3 27 "SettingStore$Reading" "marks" "[I" ∈ gw := mgw 221 (by decide +kernel) (by decide +kernel)
theorem wq_222 : Cond.fieldLink RX3 30 "SettingStore$Reading" "newest" "[I" ∈ gw := mgw 222 (by decide +kernel) (by decide +kernel)
theorem wq_223 : Cond.fieldLink RX3 39 "SettingStore$Reading" "size" "I" ∈ gw := mgw 223 (by decide +kernel) (by decide +kernel)
theorem wq_224 : Cond.fieldLink RX3 44 "SettingStore$Reading" "entries" "I" ∈ gw := mgw 224 (by decide +kernel) (by decide +kernel)
theorem wn_225 : Cond.fieldLinkNest RX5 150 "SettingStore$Reading" "entries" "I" "SettingStore" ∈ nw := mnw 225 (by decide +kernel) (by decide +kernel)
theorem wq_226 : Cond.fieldLink RX3 57 "SettingStore$Reading" "free" "I" ∈ gw := mgw 226 (by decide +kernel) (by decide +kernel)
theorem wn_227 : Cond.fieldLinkNest RX4 180 "SettingStore$Reading" "free" "I" "SettingStore" ∈ nw := mnw 227 (by decide +kernel) (by decide +kernel)
theorem wn_228 : Cond.fieldLinkNest RX5 155 "SettingStore$Reading" "free" "I" "SettingStore" ∈ nw := mnw 228 (by decide +kernel) (by decide +kernel)
theorem wq_229 : Cond.fieldLink RX3 47 "SettingStore$Reading" "lost" "I" ∈ gw := mgw 229 (by decide +kernel) (by decide +kernel)
theorem wn_230 : Cond.fieldLinkNest RX5 158 "SettingStore$Reading" "lost" "I" "SettingStore" ∈ nw := mnw 230 (by decide +kernel) (by decide +kernel)
theorem wq_231 : Cond.laysFinal RX3 "SettingStore$Reading" "row" "[I" ∈ gw := mgw 231 (by decide +kernel) (by decide +kernel)
theorem wq_233 : Cond.laysFinal RX3 "SettingStore$Reading" "places" "[I" ∈ gw := mgw 233 (by decide +kernel) (by decide +kernel)
theorem wq_235 : Cond.laysFinal RX3 "SettingStore$Reading" "kinds" "[I" ∈ gw := mgw 235 (by decide +kernel) (by decide +kernel)
theorem wq_237 : Cond.laysFinal RX3 "SettingStore$Reading" "labels" "[I" ∈ gw := mgw 237 (by decide +kernel) (by decide +kernel)
theorem wq_239 : Cond.laysFinal RX3 "SettingStore$Reading" "sizes" "[I" ∈ gw := mgw 239 (by decide +kernel) (by decide +kernel)
theorem wq_241 : Cond.laysFinal RX3 "SettingStore$Reading" "marks" "[I" ∈ gw := mgw 241 (by decide +kernel) (by decide +kernel)
theorem wq_243 : Cond.laysFinal RX3 "SettingStore$Reading" "newest" "[I" ∈ gw := mgw 243 (by decide +kernel) (by decide +kernel)
theorem wq_245 : Cond.lays RX3 "SettingStore$Reading" "size" "I" ∈ gw := mgw 245 (by decide +kernel) (by decide +kernel)
theorem wq_247 : Cond.lays RX3 "SettingStore$Reading" "entries" "I" ∈ gw := mgw 247 (by decide +kernel) (by decide +kernel)
theorem wq_249 : Cond.lays RX3 "SettingStore$Reading" "free" "I" ∈ gw := mgw 249 (by decide +kernel) (by decide +kernel)
theorem wq_251 : Cond.lays RX3 "SettingStore$Reading" "lost" "I" ∈ gw := mgw 251 (by decide +kernel) (by decide +kernel)
theorem wq_254 : Cond.classLink RX4 25 RX0 ∈ gw := mgw 254 (by decide +kernel) (by decide +kernel)
theorem wq_255 : Cond.instantiable RX0 5 ∈ gw := mgw 255 (by decide +kernel) (by decide +kernel)
theorem wn_256 : Cond.methodLinkNest RX4 27 yX0_init RX5 ∈ nw := mnw 256 (by decide +kernel) (by decide +kernel)
theorem wq_257 : Cond.instanceMethod yX0_init ∈ gw := mgw 257 (by decide +kernel) (by decide +kernel)
theorem wq_258 : Cond.code yX0_init cX0_init 1 (none : Option FieldType) ∈ gw := mgw 258 (by decide +kernel) (by decide +kernel)
theorem wq_259 : Cond.methodLink RX0 3 objectInit ∈ gw := mgw 259 (by decide +kernel) (by decide +kernel)
theorem wq_260 : Cond.fieldLink RX0 9 "SettingStore$Change" "labels" "[I" ∈ gw := mgw 260 (by decide +kernel) (by decide +kernel)
theorem wn_261 : Cond.fieldLinkNest RX4 159 "SettingStore$Change" "labels" "[I" "SettingStore" ∈ nw := mnw 261 (by decide +kernel) (by decide +kernel)
theorem wq_262 : Cond.fieldLink RX0 15 "SettingStore$Change" "values" "[I" ∈ gw := mgw 262 (by decide +kernel) (by decide +kernel)
theorem wn_263 : Cond.fieldLinkNest RX4 162 "SettingStore$Change" "values" "[I" "SettingStore" ∈ nw := mnw 263 (by decide +kernel) (by decide +kernel)
theorem wq_264 : Cond.fieldLink RX0 18 "SettingStore$Change" "lengths" "[I" ∈ gw := mgw 264 (by decide +kernel) (by decide +kernel)
theorem wn_265 : Cond.fieldLinkNest RX4 113 "SettingStore$Change" "lengths" "[I" "SettingStore" ∈ nw := mnw 265 (by decide +kernel) (by decide +kernel)
theorem wq_266 : Cond.fieldLink RX0 21 "SettingStore$Change" "begun" "Z" ∈ gw := mgw 266 (by decide +kernel) (by decide +kernel)
theorem wn_267 : Cond.fieldLinkNest RX5 62 "SettingStore$Change" "begun" "Z" "SettingStore" ∈ nw := mnw 267 (by decide +kernel) (by decide +kernel)
theorem wn_268 : Cond.fieldLinkNest RX4 107 "SettingStore$Change" "begun" "Z" "SettingStore" ∈ nw := mnw 268 (by decide +kernel) (by decide +kernel)
theorem wq_269 : Cond.fieldLink RX0 25 "SettingStore$Change" "told" "I" ∈ gw := mgw 269 (by decide +kernel) (by decide +kernel)
theorem wn_270 : Cond.fieldLinkNest RX5 85 "SettingStore$Change" "told" "I" "SettingStore" ∈ nw := mnw 270 (by decide +kernel) (by decide +kernel)
theorem wn_271 : Cond.fieldLinkNest RX4 156 "SettingStore$Change" "told" "I" "SettingStore" ∈ nw := mnw 271 (by decide +kernel) (by decide +kernel)
theorem wq_272 : Cond.laysFinal RX0 "SettingStore$Change" "labels" "[I" ∈ gw := mgw 272 (by decide +kernel) (by decide +kernel)
theorem wq_274 : Cond.laysFinal RX0 "SettingStore$Change" "values" "[I" ∈ gw := mgw 274 (by decide +kernel) (by decide +kernel)
theorem wq_276 : Cond.laysFinal RX0 "SettingStore$Change" "lengths" "[I" ∈ gw := mgw 276 (by decide +kernel) (by decide +kernel)
theorem wq_278 : Cond.lays RX0 "SettingStore$Change" "begun" "Z" ∈ gw := mgw 278 (by decide +kernel) (by decide +kernel)
theorem wq_280 : Cond.lays RX0 "SettingStore$Change" "told" "I" ∈ gw := mgw 280 (by decide +kernel) (by decide +kernel)
theorem wq_283 : Cond.classLink RX4 32 RX2 ∈ gw := mgw 283 (by decide +kernel) (by decide +kernel)
theorem wq_284 : Cond.instantiable RX2 3 ∈ gw := mgw 284 (by decide +kernel) (by decide +kernel)
theorem wn_285 : Cond.methodLinkNest RX4 34 yX2_init RX5 ∈ nw := mnw 285 (by decide +kernel) (by decide +kernel)
theorem wq_286 : Cond.instanceMethod yX2_init ∈ gw := mgw 286 (by decide +kernel) (by decide +kernel)
theorem wq_287 : Cond.code yX2_init cX2_init 1 (none : Option FieldType) ∈ gw := mgw 287 (by decide +kernel) (by decide +kernel)
theorem wq_288 : Cond.methodLink RX2 3 objectInit ∈ gw := mgw 288 (by decide +kernel) (by decide +kernel)
theorem wq_289 : Cond.fieldLink RX2 9 "SettingStore$Draft" "row" "[I" ∈ gw := mgw 289 (by decide +kernel) (by decide +kernel)
theorem wn_290 : Cond.fieldLinkNest RX1 81 "SettingStore$Draft" "row" "[I" "SettingStore" ∈ nw := mnw 290 (by decide +kernel) (by decide +kernel)
theorem wq_291 : Cond.fieldLink RX2 34 "SettingStore$Draft" "used" "I" ∈ gw := mgw 291 (by decide +kernel) (by decide +kernel)
theorem wn_292 : Cond.fieldLinkNest RX1 76 "SettingStore$Draft" "used" "I" "SettingStore" ∈ nw := mnw 292 (by decide +kernel) (by decide +kernel)
theorem wn_293 : Cond.fieldLinkNest RX4 165 "SettingStore$Draft" "used" "I" "SettingStore" ∈ nw := mnw 293 (by decide +kernel) (by decide +kernel)
theorem wq_294 : Cond.fieldLink RX2 22 "SettingStore$Draft" "sum" "I" ∈ gw := mgw 294 (by decide +kernel) (by decide +kernel)
theorem wq_295 : Cond.laysFinal RX2 "SettingStore$Draft" "row" "[I" ∈ gw := mgw 295 (by decide +kernel) (by decide +kernel)
theorem wq_297 : Cond.lays RX2 "SettingStore$Draft" "used" "I" ∈ gw := mgw 297 (by decide +kernel) (by decide +kernel)
theorem wq_299 : Cond.lays RX2 "SettingStore$Draft" "sum" "I" ∈ gw := mgw 299 (by decide +kernel) (by decide +kernel)
theorem wn_302 : Cond.methodLinkNest RX4 43 yX1_renew RX5 ∈ nw := mnw 302 (by decide +kernel) (by decide +kernel)
theorem wq_304 : Cond.instanceMethod yX1_renew ∈ gw := mgw 304 (by decide +kernel) (by decide +kernel)
theorem wq_305 : Cond.code yX1_renew cX1_renew 3 (none : Option FieldType) ∈ gw := mgw 305 (by decide +kernel) (by decide +kernel)
theorem wq_306 : Cond.methodLink RX1 25 yJ7_fill_53178 ∈ gw := mgw 306 (by decide +kernel) (by decide +kernel)
theorem wq_307 : Cond.static yJ7_fill_53178 ∈ gw := mgw 307 (by decide +kernel) (by decide +kernel)
theorem wq_308 : Cond.code yJ7_fill_53178 cJ7_fill_53178 4 (none : Option FieldType) ∈ gw := mgw 308 (by decide +kernel) (by decide +kernel)
theorem wq_309 : Cond.fieldLink RX4 12 "SettingStore$Store" "chip" "LSettingStore$Chip;" ∈ gw := mgw 309 (by decide +kernel) (by decide +kernel)
theorem wn_310 : Cond.fieldLinkNest RX5 38 "SettingStore$Store" "chip" "LSettingStore$Chip;" "SettingStore" ∈ nw := mnw 310 (by decide +kernel) (by decide +kernel)
theorem wq_311 : Cond.fieldLink RX4 21 "SettingStore$Store" "reading" "LSettingStore$Reading;" ∈ gw := mgw 311 (by decide +kernel) (by decide +kernel)
theorem wn_312 : Cond.fieldLinkNest RX5 142 "SettingStore$Store" "reading" "LSettingStore$Reading;" "SettingStore" ∈ nw := mnw 312 (by decide +kernel) (by decide +kernel)
theorem wq_313 : Cond.fieldLink RX4 28 "SettingStore$Store" "change" "LSettingStore$Change;" ∈ gw := mgw 313 (by decide +kernel) (by decide +kernel)
theorem wn_314 : Cond.fieldLinkNest RX5 58 "SettingStore$Store" "change" "LSettingStore$Change;" "SettingStore" ∈ nw := mnw 314 (by decide +kernel) (by decide +kernel)
theorem wq_315 : Cond.fieldLink RX4 35 "SettingStore$Store" "draft" "LSettingStore$Draft;" ∈ gw := mgw 315 (by decide +kernel) (by decide +kernel)
theorem wq_316 : Cond.fieldLink RX4 39 "SettingStore$Store" "inUse" "I" ∈ gw := mgw 316 (by decide +kernel) (by decide +kernel)
theorem wn_317 : Cond.fieldLinkNest RX5 139 "SettingStore$Store" "inUse" "I" "SettingStore" ∈ nw := mnw 317 (by decide +kernel) (by decide +kernel)
theorem wq_318 : Cond.fieldLink RX4 47 "SettingStore$Store" "handovers" "I" ∈ gw := mgw 318 (by decide +kernel) (by decide +kernel)
theorem wn_319 : Cond.fieldLinkNest RX5 226 "SettingStore$Store" "handovers" "I" "SettingStore" ∈ nw := mnw 319 (by decide +kernel) (by decide +kernel)
theorem wq_320 : Cond.fieldLink RX4 128 "SettingStore$Store" "pen" "I" ∈ gw := mgw 320 (by decide +kernel) (by decide +kernel)
theorem wq_321 : Cond.laysFinal RX4 "SettingStore$Store" "chip" "LSettingStore$Chip;" ∈ gw := mgw 321 (by decide +kernel) (by decide +kernel)
theorem wq_323 : Cond.laysFinal RX4 "SettingStore$Store" "reading" "LSettingStore$Reading;" ∈ gw := mgw 323 (by decide +kernel) (by decide +kernel)
theorem wq_325 : Cond.laysFinal RX4 "SettingStore$Store" "change" "LSettingStore$Change;" ∈ gw := mgw 325 (by decide +kernel) (by decide +kernel)
theorem wq_327 : Cond.laysFinal RX4 "SettingStore$Store" "draft" "LSettingStore$Draft;" ∈ gw := mgw 327 (by decide +kernel) (by decide +kernel)
theorem wq_329 : Cond.lays RX4 "SettingStore$Store" "inUse" "I" ∈ gw := mgw 329 (by decide +kernel) (by decide +kernel)
theorem wq_331 : Cond.lays RX4 "SettingStore$Store" "handovers" "I" ∈ gw := mgw 331 (by decide +kernel) (by decide +kernel)
theorem wq_333 : Cond.lays RX4 "SettingStore$Store" "pen" "I" ∈ gw := mgw 333 (by decide +kernel) (by decide +kernel)
theorem wq_336 : Cond.fieldLink RX5 12 "SettingStore" "store" "LSettingStore$Store;" ∈ gw := mgw 336 (by decide +kernel) (by decide +kernel)
theorem wq_337 : Cond.fieldLink RX5 16 "SettingStore" "trial" "LSettingStore$Store;" ∈ gw := mgw 337 (by decide +kernel) (by decide +kernel)
theorem wq_338 : Cond.laysFinal RX5 "SettingStore" "store" "LSettingStore$Store;" ∈ gw := mgw 338 (by decide +kernel) (by decide +kernel)
theorem wq_340 : Cond.laysFinal RX5 "SettingStore" "trial" "LSettingStore$Store;" ∈ gw := mgw 340 (by decide +kernel) (by decide +kernel)
theorem wq_343 : Cond.methodLink RL 19 yX5_chip ∈ gw := mgw 343 (by decide +kernel) (by decide +kernel)
theorem wq_344 : Cond.instanceMethod yX5_chip ∈ gw := mgw 344 (by decide +kernel) (by decide +kernel)
theorem wq_345 : Cond.selects RX5 yX5_chip yX5_chip ∈ gw := mgw 345 (by decide +kernel) (by decide +kernel)
theorem wq_346 : Cond.code yX5_chip cX5_chip 3 (some FieldType.boolean) ∈ gw := mgw 346 (by decide +kernel) (by decide +kernel)
theorem wq_347 : Cond.methodLink RX5 19 yX5_within ∈ gw := mgw 347 (by decide +kernel) (by decide +kernel)
theorem wq_348 : Cond.static yX5_within ∈ gw := mgw 348 (by decide +kernel) (by decide +kernel)
theorem wq_349 : Cond.code yX5_within cX5_within 3 (some FieldType.boolean) ∈ gw := mgw 349 (by decide +kernel) (by decide +kernel)
theorem wn_350 : Cond.methodLinkNest RX5 23 yX4_renew RX5 ∈ nw := mnw 350 (by decide +kernel) (by decide +kernel)
theorem wq_352 : Cond.instanceMethod yX4_renew ∈ gw := mgw 352 (by decide +kernel) (by decide +kernel)
theorem wq_353 : Cond.code yX4_renew cX4_renew 3 (none : Option FieldType) ∈ gw := mgw 353 (by decide +kernel) (by decide +kernel)
theorem wq_354 : Cond.methodLink RX4 50 yX4_switchOff ∈ gw := mgw 354 (by decide +kernel) (by decide +kernel)
theorem wq_356 : Cond.instanceMethod yX4_switchOff ∈ gw := mgw 356 (by decide +kernel) (by decide +kernel)
theorem wq_357 : Cond.code yX4_switchOff cX4_switchOff 1 (none : Option FieldType) ∈ gw := mgw 357 (by decide +kernel) (by decide +kernel)
theorem wn_358 : Cond.methodLinkNest RX4 57 yX0_forget RX5 ∈ nw := mnw 358 (by decide +kernel) (by decide +kernel)
theorem wq_360 : Cond.instanceMethod yX0_forget ∈ gw := mgw 360 (by decide +kernel) (by decide +kernel)
theorem wq_361 : Cond.code yX0_forget cX0_forget 1 (none : Option FieldType) ∈ gw := mgw 361 (by decide +kernel) (by decide +kernel)
theorem wq_362 : Cond.methodLink RL 24 yX5_on ∈ gw := mgw 362 (by decide +kernel) (by decide +kernel)
theorem wq_363 : Cond.instanceMethod yX5_on ∈ gw := mgw 363 (by decide +kernel) (by decide +kernel)
theorem wq_364 : Cond.selects RX5 yX5_on yX5_on ∈ gw := mgw 364 (by decide +kernel) (by decide +kernel)
theorem wq_365 : Cond.code yX5_on cX5_on 1 (some FieldType.int) ∈ gw := mgw 365 (by decide +kernel) (by decide +kernel)
theorem wn_366 : Cond.methodLinkNest RX5 27 yX4_isOn RX5 ∈ nw := mnw 366 (by decide +kernel) (by decide +kernel)
theorem wq_368 : Cond.instanceMethod yX4_isOn ∈ gw := mgw 368 (by decide +kernel) (by decide +kernel)
theorem wq_369 : Cond.code yX4_isOn cX4_isOn 1 (some FieldType.boolean) ∈ gw := mgw 369 (by decide +kernel) (by decide +kernel)
theorem wn_370 : Cond.methodLinkNest RX5 31 yX4_switchOn RX5 ∈ nw := mnw 370 (by decide +kernel) (by decide +kernel)
theorem wq_372 : Cond.instanceMethod yX4_switchOn ∈ gw := mgw 372 (by decide +kernel) (by decide +kernel)
theorem wq_373 : Cond.code yX4_switchOn cX4_switchOn 2 (some FieldType.int) ∈ gw := mgw 373 (by decide +kernel) (by decide +kernel)
theorem wn_374 : Cond.methodLinkNest RX4 67 yX1_greatestActive RX5 ∈ nw := mnw 374 (by decide +kernel) (by decide +kernel)
theorem wq_376 : Cond.instanceMethod yX1_greatestActive ∈ gw := mgw 376 (by decide +kernel) (by decide +kernel)
theorem wq_377 : Cond.code yX1_greatestActive cX1_greatestActive 3 (some FieldType.int) ∈ gw := mgw 377 (by decide +kernel) (by decide +kernel)
theorem wq_378 : Cond.methodLink RX1 98 yX1_isActive ∈ gw := mgw 378 (by decide +kernel) (by decide +kernel)
theorem wq_380 : Cond.instanceMethod yX1_isActive ∈ gw := mgw 380 (by decide +kernel) (by decide +kernel)
theorem wq_381 : Cond.code yX1_isActive cX1_isActive 3 (some FieldType.boolean) ∈ gw := mgw 381 (by decide +kernel) (by decide +kernel)
theorem wq_382 : Cond.methodLink RX1 94 yX1_peek ∈ gw := mgw 382 (by decide +kernel) (by decide +kernel)
theorem wq_384 : Cond.instanceMethod yX1_peek ∈ gw := mgw 384 (by decide +kernel) (by decide +kernel)
theorem wq_385 : Cond.code yX1_peek cX1_peek 3 (some FieldType.int) ∈ gw := mgw 385 (by decide +kernel) (by decide +kernel)
theorem wq_386 : Cond.methodLink RX1 56 yX1_holds ∈ gw := mgw 386 (by decide +kernel) (by decide +kernel)
theorem wq_388 : Cond.instanceMethod yX1_holds ∈ gw := mgw 388 (by decide +kernel) (by decide +kernel)
theorem wq_389 : Cond.code yX1_holds cX1_holds 3 (some FieldType.boolean) ∈ gw := mgw 389 (by decide +kernel) (by decide +kernel)
theorem wn_390 : Cond.methodLinkNest RX1 72 yX5_checkOf RX5 ∈ nw := mnw 390 (by decide +kernel) (by decide +kernel)
theorem wq_391 : Cond.static yX5_checkOf ∈ gw := mgw 391 (by decide +kernel) (by decide +kernel)
theorem wq_392 : Cond.code yX5_checkOf cX5_checkOf 1 (some FieldType.int) ∈ gw := mgw 392 (by decide +kernel) (by decide +kernel)
theorem wq_393 : Cond.methodLink RX1 101 yX1_numberOf ∈ gw := mgw 393 (by decide +kernel) (by decide +kernel)
theorem wq_395 : Cond.instanceMethod yX1_numberOf ∈ gw := mgw 395 (by decide +kernel) (by decide +kernel)
theorem wq_396 : Cond.code yX1_numberOf cX1_numberOf 2 (some FieldType.int) ∈ gw := mgw 396 (by decide +kernel) (by decide +kernel)
theorem wn_397 : Cond.methodLinkNest RX4 71 yX1_eraseAllBut RX5 ∈ nw := mnw 397 (by decide +kernel) (by decide +kernel)
theorem wq_399 : Cond.instanceMethod yX1_eraseAllBut ∈ gw := mgw 399 (by decide +kernel) (by decide +kernel)
theorem wq_400 : Cond.code yX1_eraseAllBut cX1_eraseAllBut 3 (none : Option FieldType) ∈ gw := mgw 400 (by decide +kernel) (by decide +kernel)
theorem wq_401 : Cond.methodLink RX1 84 yX1_isBlank ∈ gw := mgw 401 (by decide +kernel) (by decide +kernel)
theorem wq_403 : Cond.instanceMethod yX1_isBlank ∈ gw := mgw 403 (by decide +kernel) (by decide +kernel)
theorem wq_404 : Cond.code yX1_isBlank cX1_isBlank 2 (some FieldType.boolean) ∈ gw := mgw 404 (by decide +kernel) (by decide +kernel)
theorem wq_405 : Cond.methodLink RX1 91 yX1_usedEnd ∈ gw := mgw 405 (by decide +kernel) (by decide +kernel)
theorem wq_407 : Cond.instanceMethod yX1_usedEnd ∈ gw := mgw 407 (by decide +kernel) (by decide +kernel)
theorem wq_408 : Cond.code yX1_usedEnd cX1_usedEnd 3 (some FieldType.int) ∈ gw := mgw 408 (by decide +kernel) (by decide +kernel)
theorem wq_409 : Cond.methodLink RX1 64 yX1_hasSector ∈ gw := mgw 409 (by decide +kernel) (by decide +kernel)
theorem wq_411 : Cond.instanceMethod yX1_hasSector ∈ gw := mgw 411 (by decide +kernel) (by decide +kernel)
theorem wq_412 : Cond.code yX1_hasSector cX1_hasSector 2 (some FieldType.boolean) ∈ gw := mgw 412 (by decide +kernel) (by decide +kernel)
theorem wq_413 : Cond.methodLink RX1 87 yX1_erase ∈ gw := mgw 413 (by decide +kernel) (by decide +kernel)
theorem wq_415 : Cond.instanceMethod yX1_erase ∈ gw := mgw 415 (by decide +kernel) (by decide +kernel)
theorem wq_416 : Cond.code yX1_erase cX1_erase 4 (none : Option FieldType) ∈ gw := mgw 416 (by decide +kernel) (by decide +kernel)
theorem wq_417 : Cond.methodLink RX1 60 yX1_endures ∈ gw := mgw 417 (by decide +kernel) (by decide +kernel)
theorem wq_419 : Cond.instanceMethod yX1_endures ∈ gw := mgw 419 (by decide +kernel) (by decide +kernel)
theorem wq_420 : Cond.code yX1_endures cX1_endures 1 (some FieldType.boolean) ∈ gw := mgw 420 (by decide +kernel) (by decide +kernel)
theorem wn_421 : Cond.methodLinkNest RX4 75 yX1_leastErased RX5 ∈ nw := mnw 421 (by decide +kernel) (by decide +kernel)
theorem wq_423 : Cond.instanceMethod yX1_leastErased ∈ gw := mgw 423 (by decide +kernel) (by decide +kernel)
theorem wq_424 : Cond.code yX1_leastErased cX1_leastErased 4 (some FieldType.int) ∈ gw := mgw 424 (by decide +kernel) (by decide +kernel)
theorem wq_425 : Cond.methodLink RX1 104 yX1_erasesOf ∈ gw := mgw 425 (by decide +kernel) (by decide +kernel)
theorem wq_427 : Cond.instanceMethod yX1_erasesOf ∈ gw := mgw 427 (by decide +kernel) (by decide +kernel)
theorem wq_428 : Cond.code yX1_erasesOf cX1_erasesOf 2 (some FieldType.int) ∈ gw := mgw 428 (by decide +kernel) (by decide +kernel)
theorem wn_429 : Cond.methodLinkNest RX4 79 yX1_makeReady RX5 ∈ nw := mnw 429 (by decide +kernel) (by decide +kernel)
theorem wq_431 : Cond.instanceMethod yX1_makeReady ∈ gw := mgw 431 (by decide +kernel) (by decide +kernel)
theorem wq_432 : Cond.code yX1_makeReady cX1_makeReady 5 (none : Option FieldType) ∈ gw := mgw 432 (by decide +kernel) (by decide +kernel)
theorem wq_433 : Cond.methodLink RX1 68 yX1_write ∈ gw := mgw 433 (by decide +kernel) (by decide +kernel)
theorem wq_435 : Cond.instanceMethod yX1_write ∈ gw := mgw 435 (by decide +kernel) (by decide +kernel)
theorem wq_436 : Cond.code yX1_write cX1_write 5 (none : Option FieldType) ∈ gw := mgw 436 (by decide +kernel) (by decide +kernel)
theorem wn_437 : Cond.methodLinkNest RX4 82 yX1_write RX5 ∈ nw := mnw 437 (by decide +kernel) (by decide +kernel)
theorem wq_438 : Cond.methodLink RX4 86 yX4_look ∈ gw := mgw 438 (by decide +kernel) (by decide +kernel)
theorem wq_440 : Cond.instanceMethod yX4_look ∈ gw := mgw 440 (by decide +kernel) (by decide +kernel)
theorem wq_441 : Cond.code yX4_look cX4_look 1 (some (FieldType.object "SettingStore$Reading")) ∈ gw := mgw 441 (by decide +kernel) (by decide +kernel)
theorem wn_442 : Cond.methodLinkNest RX4 103 yX3_scan RX5 ∈ nw := mnw 442 (by decide +kernel) (by decide +kernel)
theorem wq_444 : Cond.instanceMethod yX3_scan ∈ gw := mgw 444 (by decide +kernel) (by decide +kernel)
theorem wq_445 : Cond.code yX3_scan cX3_scan 6 (none : Option FieldType) ∈ gw := mgw 445 (by decide +kernel) (by decide +kernel)
theorem wn_446 : Cond.methodLinkNest RX3 40 yX1_copySector RX5 ∈ nw := mnw 446 (by decide +kernel) (by decide +kernel)
theorem wq_448 : Cond.instanceMethod yX1_copySector ∈ gw := mgw 448 (by decide +kernel) (by decide +kernel)
theorem wq_449 : Cond.code yX1_copySector cX1_copySector 4 (none : Option FieldType) ∈ gw := mgw 449 (by decide +kernel) (by decide +kernel)
theorem wn_450 : Cond.methodLinkNest RX3 50 yX1_usedEnd RX5 ∈ nw := mnw 450 (by decide +kernel) (by decide +kernel)
theorem wq_451 : Cond.methodLink RX3 54 yX3_takeEntry ∈ gw := mgw 451 (by decide +kernel) (by decide +kernel)
theorem wq_453 : Cond.instanceMethod yX3_takeEntry ∈ gw := mgw 453 (by decide +kernel) (by decide +kernel)
theorem wq_454 : Cond.code yX3_takeEntry cX3_takeEntry 6 (some FieldType.int) ∈ gw := mgw 454 (by decide +kernel) (by decide +kernel)
theorem wq_455 : Cond.methodLink RX3 63 yX3_byteAt ∈ gw := mgw 455 (by decide +kernel) (by decide +kernel)
theorem wq_457 : Cond.instanceMethod yX3_byteAt ∈ gw := mgw 457 (by decide +kernel) (by decide +kernel)
theorem wq_458 : Cond.code yX3_byteAt cX3_byteAt 2 (some FieldType.int) ∈ gw := mgw 458 (by decide +kernel) (by decide +kernel)
theorem wq_459 : Cond.methodLink RX3 66 yX3_kindOf ∈ gw := mgw 459 (by decide +kernel) (by decide +kernel)
theorem wq_460 : Cond.static yX3_kindOf ∈ gw := mgw 460 (by decide +kernel) (by decide +kernel)
theorem wq_461 : Cond.code yX3_kindOf cX3_kindOf 2 (some FieldType.int) ∈ gw := mgw 461 (by decide +kernel) (by decide +kernel)
theorem wn_462 : Cond.methodLinkNest RX3 81 yX5_within RX5 ∈ nw := mnw 462 (by decide +kernel) (by decide +kernel)
theorem wq_463 : Cond.methodLink RX3 70 yX3_sizeOf ∈ gw := mgw 463 (by decide +kernel) (by decide +kernel)
theorem wq_464 : Cond.static yX3_sizeOf ∈ gw := mgw 464 (by decide +kernel) (by decide +kernel)
theorem wq_465 : Cond.code yX3_sizeOf cX3_sizeOf 2 (some FieldType.int) ∈ gw := mgw 465 (by decide +kernel) (by decide +kernel)
theorem wq_466 : Cond.methodLink RX3 73 yX3_firstMark ∈ gw := mgw 466 (by decide +kernel) (by decide +kernel)
theorem wq_468 : Cond.instanceMethod yX3_firstMark ∈ gw := mgw 468 (by decide +kernel) (by decide +kernel)
theorem wq_469 : Cond.code yX3_firstMark cX3_firstMark 7 (some FieldType.int) ∈ gw := mgw 469 (by decide +kernel) (by decide +kernel)
theorem wn_470 : Cond.methodLinkNest RX3 85 yX5_checkOf RX5 ∈ nw := mnw 470 (by decide +kernel) (by decide +kernel)
theorem wq_471 : Cond.methodLink RX3 77 yX3_settleParts ∈ gw := mgw 471 (by decide +kernel) (by decide +kernel)
theorem wq_473 : Cond.instanceMethod yX3_settleParts ∈ gw := mgw 473 (by decide +kernel) (by decide +kernel)
theorem wq_474 : Cond.code yX3_settleParts cX3_settleParts 4 (none : Option FieldType) ∈ gw := mgw 474 (by decide +kernel) (by decide +kernel)
theorem wq_475 : Cond.methodLink RX3 88 yX3_has ∈ gw := mgw 475 (by decide +kernel) (by decide +kernel)
theorem wq_477 : Cond.instanceMethod yX3_has ∈ gw := mgw 477 (by decide +kernel) (by decide +kernel)
theorem wq_478 : Cond.code yX3_has cX3_has 2 (some FieldType.boolean) ∈ gw := mgw 478 (by decide +kernel) (by decide +kernel)
theorem wq_479 : Cond.methodLink RX3 60 yX3_markNewest ∈ gw := mgw 479 (by decide +kernel) (by decide +kernel)
theorem wq_481 : Cond.instanceMethod yX3_markNewest ∈ gw := mgw 481 (by decide +kernel) (by decide +kernel)
theorem wq_482 : Cond.code yX3_markNewest cX3_markNewest 2 (none : Option FieldType) ∈ gw := mgw 482 (by decide +kernel) (by decide +kernel)
theorem wq_483 : Cond.methodLink RX3 92 yJ7_fill_53178 ∈ gw := mgw 483 (by decide +kernel) (by decide +kernel)
theorem wn_484 : Cond.methodLinkNest RX3 98 yX5_isTag RX5 ∈ nw := mnw 484 (by decide +kernel) (by decide +kernel)
theorem wq_485 : Cond.static yX5_isTag ∈ gw := mgw 485 (by decide +kernel) (by decide +kernel)
theorem wq_486 : Cond.code yX5_isTag cX5_isTag 1 (some FieldType.boolean) ∈ gw := mgw 486 (by decide +kernel) (by decide +kernel)
theorem wn_487 : Cond.methodLinkNest RX4 90 yX3_valuedTags RX5 ∈ nw := mnw 487 (by decide +kernel) (by decide +kernel)
theorem wq_489 : Cond.instanceMethod yX3_valuedTags ∈ gw := mgw 489 (by decide +kernel) (by decide +kernel)
theorem wq_490 : Cond.code yX3_valuedTags cX3_valuedTags 4 (some FieldType.long) ∈ gw := mgw 490 (by decide +kernel) (by decide +kernel)
theorem wq_491 : Cond.methodLink RX3 137 yX3_hasValue ∈ gw := mgw 491 (by decide +kernel) (by decide +kernel)
theorem wq_493 : Cond.instanceMethod yX3_hasValue ∈ gw := mgw 493 (by decide +kernel) (by decide +kernel)
theorem wq_494 : Cond.code yX3_hasValue cX3_hasValue 2 (some FieldType.boolean) ∈ gw := mgw 494 (by decide +kernel) (by decide +kernel)
theorem wq_495 : Cond.methodLink RX3 105 yX3_valuedSize ∈ gw := mgw 495 (by decide +kernel) (by decide +kernel)
theorem wq_497 : Cond.instanceMethod yX3_valuedSize ∈ gw := mgw 497 (by decide +kernel) (by decide +kernel)
theorem wq_498 : Cond.code yX3_valuedSize cX3_valuedSize 3 (some FieldType.int) ∈ gw := mgw 498 (by decide +kernel) (by decide +kernel)
theorem wq_499 : Cond.methodLink RX3 108 yX3_newestOf ∈ gw := mgw 499 (by decide +kernel) (by decide +kernel)
theorem wq_501 : Cond.instanceMethod yX3_newestOf ∈ gw := mgw 501 (by decide +kernel) (by decide +kernel)
theorem wq_502 : Cond.code yX3_newestOf cX3_newestOf 2 (some FieldType.int) ∈ gw := mgw 502 (by decide +kernel) (by decide +kernel)
theorem wq_503 : Cond.methodLink RX4 94 yJ13_bitCount_95d88 ∈ gw := mgw 503 (by decide +kernel) (by decide +kernel)
theorem wq_504 : Cond.static yJ13_bitCount_95d88 ∈ gw := mgw 504 (by decide +kernel) (by decide +kernel)
theorem wq_505 : Cond.code yJ13_bitCount_95d88 cJ13_bitCount_95d88 2 (some FieldType.int) ∈ gw := mgw 505 (by decide +kernel) (by decide +kernel)
theorem wq_506 : Cond.constantLong RJ13 314 (6148914691236517205 : Int64) ∈ gw := mgw 506 (by decide +kernel) (by decide +kernel)
theorem wq_507 : Cond.constantLong RJ13 316 (3689348814741910323 : Int64) ∈ gw := mgw 507 (by decide +kernel) (by decide +kernel)
theorem wq_508 : Cond.constantLong RJ13 318 (1085102592571150095 : Int64) ∈ gw := mgw 508 (by decide +kernel) (by decide +kernel)
theorem wq_509 : Cond.methodLink RX4 100 yX4_outcome ∈ gw := mgw 509 (by decide +kernel) (by decide +kernel)
theorem wq_511 : Cond.instanceMethod yX4_outcome ∈ gw := mgw 511 (by decide +kernel) (by decide +kernel)
theorem wq_512 : Cond.code yX4_outcome cX4_outcome 2 (some FieldType.int) ∈ gw := mgw 512 (by decide +kernel) (by decide +kernel)
theorem wq_513 : Cond.methodLink RL 29 yX5_off ∈ gw := mgw 513 (by decide +kernel) (by decide +kernel)
theorem wq_514 : Cond.instanceMethod yX5_off ∈ gw := mgw 514 (by decide +kernel) (by decide +kernel)
theorem wq_515 : Cond.selects RX5 yX5_off yX5_off ∈ gw := mgw 515 (by decide +kernel) (by decide +kernel)
theorem wq_516 : Cond.code yX5_off cX5_off 1 (some FieldType.boolean) ∈ gw := mgw 516 (by decide +kernel) (by decide +kernel)
theorem wn_517 : Cond.methodLinkNest RX5 35 yX4_switchOff RX5 ∈ nw := mnw 517 (by decide +kernel) (by decide +kernel)
theorem wq_518 : Cond.methodLink RL 34 yX5_power ∈ gw := mgw 518 (by decide +kernel) (by decide +kernel)
theorem wq_519 : Cond.instanceMethod yX5_power ∈ gw := mgw 519 (by decide +kernel) (by decide +kernel)
theorem wq_520 : Cond.selects RX5 yX5_power yX5_power ∈ gw := mgw 520 (by decide +kernel) (by decide +kernel)
theorem wq_521 : Cond.code yX5_power cX5_power 3 (some FieldType.boolean) ∈ gw := mgw 521 (by decide +kernel) (by decide +kernel)
theorem wn_522 : Cond.methodLinkNest RX5 42 yX1_arm RX5 ∈ nw := mnw 522 (by decide +kernel) (by decide +kernel)
theorem wq_524 : Cond.instanceMethod yX1_arm ∈ gw := mgw 524 (by decide +kernel) (by decide +kernel)
theorem wq_525 : Cond.code yX1_arm cX1_arm 3 (none : Option FieldType) ∈ gw := mgw 525 (by decide +kernel) (by decide +kernel)
theorem wq_526 : Cond.methodLink RL 38 yX5_rot ∈ gw := mgw 526 (by decide +kernel) (by decide +kernel)
theorem wq_527 : Cond.instanceMethod yX5_rot ∈ gw := mgw 527 (by decide +kernel) (by decide +kernel)
theorem wq_528 : Cond.selects RX5 yX5_rot yX5_rot ∈ gw := mgw 528 (by decide +kernel) (by decide +kernel)
theorem wq_529 : Cond.code yX5_rot cX5_rot 4 (some FieldType.int) ∈ gw := mgw 529 (by decide +kernel) (by decide +kernel)
theorem wn_530 : Cond.methodLinkNest RX5 47 yX1_holds RX5 ∈ nw := mnw 530 (by decide +kernel) (by decide +kernel)
theorem wn_531 : Cond.methodLinkNest RX5 51 yX1_decay RX5 ∈ nw := mnw 531 (by decide +kernel) (by decide +kernel)
theorem wq_533 : Cond.instanceMethod yX1_decay ∈ gw := mgw 533 (by decide +kernel) (by decide +kernel)
theorem wq_534 : Cond.code yX1_decay cX1_decay 4 (some FieldType.int) ∈ gw := mgw 534 (by decide +kernel) (by decide +kernel)
theorem wq_535 : Cond.methodLink RL 43 yX5_set ∈ gw := mgw 535 (by decide +kernel) (by decide +kernel)
theorem wq_536 : Cond.instanceMethod yX5_set ∈ gw := mgw 536 (by decide +kernel) (by decide +kernel)
theorem wq_537 : Cond.selects RX5 yX5_set yX5_set ∈ gw := mgw 537 (by decide +kernel) (by decide +kernel)
theorem wq_538 : Cond.code yX5_set cX5_set 4 (some FieldType.int) ∈ gw := mgw 538 (by decide +kernel) (by decide +kernel)
theorem wq_539 : Cond.methodLink RX5 55 yX5_isSetting ∈ gw := mgw 539 (by decide +kernel) (by decide +kernel)
theorem wq_540 : Cond.static yX5_isSetting ∈ gw := mgw 540 (by decide +kernel) (by decide +kernel)
theorem wq_541 : Cond.code yX5_isSetting cX5_isSetting 2 (some FieldType.boolean) ∈ gw := mgw 541 (by decide +kernel) (by decide +kernel)
theorem wn_542 : Cond.methodLinkNest RX5 68 yX0_tell RX5 ∈ nw := mnw 542 (by decide +kernel) (by decide +kernel)
theorem wq_544 : Cond.instanceMethod yX0_tell ∈ gw := mgw 544 (by decide +kernel) (by decide +kernel)
theorem wq_545 : Cond.code yX0_tell cX0_tell 5 (some FieldType.int) ∈ gw := mgw 545 (by decide +kernel) (by decide +kernel)
theorem wq_546 : Cond.methodLink RX0 29 yX0_find ∈ gw := mgw 546 (by decide +kernel) (by decide +kernel)
theorem wq_548 : Cond.instanceMethod yX0_find ∈ gw := mgw 548 (by decide +kernel) (by decide +kernel)
theorem wq_549 : Cond.code yX0_find cX0_find 3 (some FieldType.int) ∈ gw := mgw 549 (by decide +kernel) (by decide +kernel)
theorem wn_550 : Cond.methodLinkNest RX5 71 yX4_keep RX5 ∈ nw := mnw 550 (by decide +kernel) (by decide +kernel)
theorem wq_552 : Cond.instanceMethod yX4_keep ∈ gw := mgw 552 (by decide +kernel) (by decide +kernel)
theorem wq_553 : Cond.code yX4_keep cX4_keep 4 (some FieldType.int) ∈ gw := mgw 553 (by decide +kernel) (by decide +kernel)
theorem wq_554 : Cond.methodLink RX4 121 yX4_makeRoom ∈ gw := mgw 554 (by decide +kernel) (by decide +kernel)
theorem wq_556 : Cond.instanceMethod yX4_makeRoom ∈ gw := mgw 556 (by decide +kernel) (by decide +kernel)
theorem wq_557 : Cond.code yX4_makeRoom cX4_makeRoom 2 (some FieldType.boolean) ∈ gw := mgw 557 (by decide +kernel) (by decide +kernel)
theorem wn_558 : Cond.methodLinkNest RX4 171 yX3_freeBytes RX5 ∈ nw := mnw 558 (by decide +kernel) (by decide +kernel)
theorem wq_560 : Cond.instanceMethod yX3_freeBytes ∈ gw := mgw 560 (by decide +kernel) (by decide +kernel)
theorem wq_561 : Cond.code yX3_freeBytes cX3_freeBytes 1 (some FieldType.int) ∈ gw := mgw 561 (by decide +kernel) (by decide +kernel)
theorem wn_562 : Cond.methodLinkNest RX4 174 yX3_freeBehindHandover RX5 ∈ nw := mnw 562 (by decide +kernel) (by decide +kernel)
theorem wq_564 : Cond.instanceMethod yX3_freeBehindHandover ∈ gw := mgw 564 (by decide +kernel) (by decide +kernel)
theorem wq_565 : Cond.code yX3_freeBehindHandover cX3_freeBehindHandover 1 (some FieldType.int) ∈ gw := mgw 565 (by decide +kernel) (by decide +kernel)
theorem wq_566 : Cond.methodLink RX3 101 yX3_valuedBytes ∈ gw := mgw 566 (by decide +kernel) (by decide +kernel)
theorem wq_568 : Cond.instanceMethod yX3_valuedBytes ∈ gw := mgw 568 (by decide +kernel) (by decide +kernel)
theorem wq_569 : Cond.code yX3_valuedBytes cX3_valuedBytes 3 (some FieldType.int) ∈ gw := mgw 569 (by decide +kernel) (by decide +kernel)
theorem wq_570 : Cond.methodLink RX4 177 yX4_handOver ∈ gw := mgw 570 (by decide +kernel) (by decide +kernel)
theorem wq_572 : Cond.instanceMethod yX4_handOver ∈ gw := mgw 572 (by decide +kernel) (by decide +kernel)
theorem wq_573 : Cond.code yX4_handOver cX4_handOver 5 (none : Option FieldType) ∈ gw := mgw 573 (by decide +kernel) (by decide +kernel)
theorem wn_574 : Cond.methodLinkNest RX4 183 yX1_isBlank RX5 ∈ nw := mnw 574 (by decide +kernel) (by decide +kernel)
theorem wn_575 : Cond.methodLinkNest RX4 186 yX1_erase RX5 ∈ nw := mnw 575 (by decide +kernel) (by decide +kernel)
theorem wn_576 : Cond.methodLinkNest RX4 189 yX1_numberOf RX5 ∈ nw := mnw 576 (by decide +kernel) (by decide +kernel)
theorem wq_577 : Cond.constant RX4 192 (65536 : Int32) ∈ gw := mgw 577 (by decide +kernel) (by decide +kernel)
theorem wn_578 : Cond.methodLinkNest RX4 117 yX3_hasValue RX5 ∈ nw := mnw 578 (by decide +kernel) (by decide +kernel)
theorem wn_579 : Cond.methodLinkNest RX4 193 yX3_newestOf RX5 ∈ nw := mnw 579 (by decide +kernel) (by decide +kernel)
theorem wn_580 : Cond.methodLinkNest RX4 196 yX3_valueOf RX5 ∈ nw := mnw 580 (by decide +kernel) (by decide +kernel)
theorem wq_582 : Cond.instanceMethod yX3_valueOf ∈ gw := mgw 582 (by decide +kernel) (by decide +kernel)
theorem wq_583 : Cond.code yX3_valueOf cX3_valueOf 2 (some FieldType.long) ∈ gw := mgw 583 (by decide +kernel) (by decide +kernel)
theorem wq_584 : Cond.constantLong RX3 115 (-4 : Int64) ∈ gw := mgw 584 (by decide +kernel) (by decide +kernel)
theorem wq_585 : Cond.methodLink RX3 117 yX3_numberAt ∈ gw := mgw 585 (by decide +kernel) (by decide +kernel)
theorem wq_587 : Cond.instanceMethod yX3_numberAt ∈ gw := mgw 587 (by decide +kernel) (by decide +kernel)
theorem wq_588 : Cond.code yX3_numberAt cX3_numberAt 6 (some FieldType.long) ∈ gw := mgw 588 (by decide +kernel) (by decide +kernel)
theorem wq_589 : Cond.constantLong RX3 124 (256 : Int64) ∈ gw := mgw 589 (by decide +kernel) (by decide +kernel)
theorem wq_590 : Cond.methodLink RX3 121 yX3_clearedBits ∈ gw := mgw 590 (by decide +kernel) (by decide +kernel)
theorem wq_592 : Cond.instanceMethod yX3_clearedBits ∈ gw := mgw 592 (by decide +kernel) (by decide +kernel)
theorem wq_593 : Cond.code yX3_clearedBits cX3_clearedBits 4 (some FieldType.int) ∈ gw := mgw 593 (by decide +kernel) (by decide +kernel)
theorem wq_594 : Cond.methodLink RX3 126 yJ6_bitCount_0f7a4 ∈ gw := mgw 594 (by decide +kernel) (by decide +kernel)
theorem wq_595 : Cond.static yJ6_bitCount_0f7a4 ∈ gw := mgw 595 (by decide +kernel) (by decide +kernel)
theorem wq_596 : Cond.code yJ6_bitCount_0f7a4 cJ6_bitCount_0f7a4 1 (some FieldType.int) ∈ gw := mgw 596 (by decide +kernel) (by decide +kernel)
theorem wq_597 : Cond.constant RJ6 265 (1431655765 : Int32) ∈ gw := mgw 597 (by decide +kernel) (by decide +kernel)
theorem wq_598 : Cond.constant RJ6 266 (858993459 : Int32) ∈ gw := mgw 598 (by decide +kernel) (by decide +kernel)
theorem wq_599 : Cond.constant RJ6 267 (252645135 : Int32) ∈ gw := mgw 599 (by decide +kernel) (by decide +kernel)
theorem wn_600 : Cond.methodLinkNest RX4 199 yX3_newestLength RX5 ∈ nw := mnw 600 (by decide +kernel) (by decide +kernel)
theorem wq_602 : Cond.instanceMethod yX3_newestLength ∈ gw := mgw 602 (by decide +kernel) (by decide +kernel)
theorem wq_603 : Cond.code yX3_newestLength cX3_newestLength 3 (some FieldType.int) ∈ gw := mgw 603 (by decide +kernel) (by decide +kernel)
theorem wn_604 : Cond.methodLinkNest RX4 124 yX2_fillSetting RX5 ∈ nw := mnw 604 (by decide +kernel) (by decide +kernel)
theorem wq_606 : Cond.instanceMethod yX2_fillSetting ∈ gw := mgw 606 (by decide +kernel) (by decide +kernel)
theorem wq_607 : Cond.code yX2_fillSetting cX2_fillSetting 5 (none : Option FieldType) ∈ gw := mgw 607 (by decide +kernel) (by decide +kernel)
theorem wq_608 : Cond.methodLink RX2 15 yX2_start ∈ gw := mgw 608 (by decide +kernel) (by decide +kernel)
theorem wq_610 : Cond.instanceMethod yX2_start ∈ gw := mgw 610 (by decide +kernel) (by decide +kernel)
theorem wq_611 : Cond.code yX2_start cX2_start 3 (none : Option FieldType) ∈ gw := mgw 611 (by decide +kernel) (by decide +kernel)
theorem wq_612 : Cond.methodLink RX2 30 yX2_put ∈ gw := mgw 612 (by decide +kernel) (by decide +kernel)
theorem wq_614 : Cond.instanceMethod yX2_put ∈ gw := mgw 614 (by decide +kernel) (by decide +kernel)
theorem wq_615 : Cond.code yX2_put cX2_put 2 (none : Option FieldType) ∈ gw := mgw 615 (by decide +kernel) (by decide +kernel)
theorem wq_616 : Cond.methodLink RX2 19 yX2_putBytes ∈ gw := mgw 616 (by decide +kernel) (by decide +kernel)
theorem wq_618 : Cond.instanceMethod yX2_putBytes ∈ gw := mgw 618 (by decide +kernel) (by decide +kernel)
theorem wq_619 : Cond.code yX2_putBytes cX2_putBytes 4 (none : Option FieldType) ∈ gw := mgw 619 (by decide +kernel) (by decide +kernel)
theorem wn_620 : Cond.methodLinkNest RX2 26 yX5_checkOf RX5 ∈ nw := mnw 620 (by decide +kernel) (by decide +kernel)
theorem wn_621 : Cond.methodLinkNest RX4 150 yX2_fillCounter RX5 ∈ nw := mnw 621 (by decide +kernel) (by decide +kernel)
theorem wq_623 : Cond.instanceMethod yX2_fillCounter ∈ gw := mgw 623 (by decide +kernel) (by decide +kernel)
theorem wq_624 : Cond.code yX2_fillCounter cX2_fillCounter 3 (none : Option FieldType) ∈ gw := mgw 624 (by decide +kernel) (by decide +kernel)
theorem wn_625 : Cond.methodLinkNest RX4 131 yX1_writeDraft RX5 ∈ nw := mnw 625 (by decide +kernel) (by decide +kernel)
theorem wq_627 : Cond.instanceMethod yX1_writeDraft ∈ gw := mgw 627 (by decide +kernel) (by decide +kernel)
theorem wq_628 : Cond.code yX1_writeDraft cX1_writeDraft 5 (none : Option FieldType) ∈ gw := mgw 628 (by decide +kernel) (by decide +kernel)
theorem wq_629 : Cond.methodLink RL 47 yX5_drop ∈ gw := mgw 629 (by decide +kernel) (by decide +kernel)
theorem wq_630 : Cond.instanceMethod yX5_drop ∈ gw := mgw 630 (by decide +kernel) (by decide +kernel)
theorem wq_631 : Cond.selects RX5 yX5_drop yX5_drop ∈ gw := mgw 631 (by decide +kernel) (by decide +kernel)
theorem wq_632 : Cond.code yX5_drop cX5_drop 2 (some FieldType.int) ∈ gw := mgw 632 (by decide +kernel) (by decide +kernel)
theorem wn_633 : Cond.methodLinkNest RX5 74 yX4_wouldHave RX5 ∈ nw := mnw 633 (by decide +kernel) (by decide +kernel)
theorem wq_635 : Cond.instanceMethod yX4_wouldHave ∈ gw := mgw 635 (by decide +kernel) (by decide +kernel)
theorem wq_636 : Cond.code yX4_wouldHave cX4_wouldHave 3 (some FieldType.boolean) ∈ gw := mgw 636 (by decide +kernel) (by decide +kernel)
theorem wn_637 : Cond.methodLinkNest RX4 110 yX0_find RX5 ∈ nw := mnw 637 (by decide +kernel) (by decide +kernel)
theorem wq_638 : Cond.methodLink RL 52 yX5_bump ∈ gw := mgw 638 (by decide +kernel) (by decide +kernel)
theorem wq_639 : Cond.instanceMethod yX5_bump ∈ gw := mgw 639 (by decide +kernel) (by decide +kernel)
theorem wq_640 : Cond.selects RX5 yX5_bump yX5_bump ∈ gw := mgw 640 (by decide +kernel) (by decide +kernel)
theorem wq_641 : Cond.code yX5_bump cX5_bump 2 (some FieldType.int) ∈ gw := mgw 641 (by decide +kernel) (by decide +kernel)
theorem wn_642 : Cond.methodLinkNest RX5 78 yX4_countUp RX5 ∈ nw := mnw 642 (by decide +kernel) (by decide +kernel)
theorem wq_644 : Cond.instanceMethod yX4_countUp ∈ gw := mgw 644 (by decide +kernel) (by decide +kernel)
theorem wq_645 : Cond.code yX4_countUp cX4_countUp 5 (some FieldType.int) ∈ gw := mgw 645 (by decide +kernel) (by decide +kernel)
theorem wn_646 : Cond.methodLinkNest RX4 135 yX3_newestValue RX5 ∈ nw := mnw 646 (by decide +kernel) (by decide +kernel)
theorem wq_648 : Cond.instanceMethod yX3_newestValue ∈ gw := mgw 648 (by decide +kernel) (by decide +kernel)
theorem wq_649 : Cond.code yX3_newestValue cX3_newestValue 2 (some FieldType.long) ∈ gw := mgw 649 (by decide +kernel) (by decide +kernel)
theorem wq_650 : Cond.methodLink RX3 111 yX3_valueOf ∈ gw := mgw 650 (by decide +kernel) (by decide +kernel)
theorem wq_651 : Cond.constant RX4 139 (16777215 : Int32) ∈ gw := mgw 651 (by decide +kernel) (by decide +kernel)
theorem wn_652 : Cond.methodLinkNest RX4 140 yX3_unspentPlace RX5 ∈ nw := mnw 652 (by decide +kernel) (by decide +kernel)
theorem wq_654 : Cond.instanceMethod yX3_unspentPlace ∈ gw := mgw 654 (by decide +kernel) (by decide +kernel)
theorem wq_655 : Cond.code yX3_unspentPlace cX3_unspentPlace 4 (some FieldType.int) ∈ gw := mgw 655 (by decide +kernel) (by decide +kernel)
theorem wn_656 : Cond.methodLinkNest RX4 143 yX1_peek RX5 ∈ nw := mnw 656 (by decide +kernel) (by decide +kernel)
theorem wq_657 : Cond.methodLink RX4 147 yX4_highestBit ∈ gw := mgw 657 (by decide +kernel) (by decide +kernel)
theorem wq_658 : Cond.static yX4_highestBit ∈ gw := mgw 658 (by decide +kernel) (by decide +kernel)
theorem wq_659 : Cond.code yX4_highestBit cX4_highestBit 2 (some FieldType.int) ∈ gw := mgw 659 (by decide +kernel) (by decide +kernel)
theorem wq_660 : Cond.methodLink RL 56 yX5_begin ∈ gw := mgw 660 (by decide +kernel) (by decide +kernel)
theorem wq_661 : Cond.instanceMethod yX5_begin ∈ gw := mgw 661 (by decide +kernel) (by decide +kernel)
theorem wq_662 : Cond.selects RX5 yX5_begin yX5_begin ∈ gw := mgw 662 (by decide +kernel) (by decide +kernel)
theorem wq_663 : Cond.code yX5_begin cX5_begin 1 (some FieldType.boolean) ∈ gw := mgw 663 (by decide +kernel) (by decide +kernel)
theorem wn_664 : Cond.methodLinkNest RX5 82 yX0_start RX5 ∈ nw := mnw 664 (by decide +kernel) (by decide +kernel)
theorem wq_666 : Cond.instanceMethod yX0_start ∈ gw := mgw 666 (by decide +kernel) (by decide +kernel)
theorem wq_667 : Cond.code yX0_start cX0_start 1 (none : Option FieldType) ∈ gw := mgw 667 (by decide +kernel) (by decide +kernel)
theorem wq_668 : Cond.methodLink RL 60 yX5_commit ∈ gw := mgw 668 (by decide +kernel) (by decide +kernel)
theorem wq_669 : Cond.instanceMethod yX5_commit ∈ gw := mgw 669 (by decide +kernel) (by decide +kernel)
theorem wq_670 : Cond.selects RX5 yX5_commit yX5_commit ∈ gw := mgw 670 (by decide +kernel) (by decide +kernel)
theorem wq_671 : Cond.code yX5_commit cX5_commit 1 (some FieldType.int) ∈ gw := mgw 671 (by decide +kernel) (by decide +kernel)
theorem wn_672 : Cond.methodLinkNest RX5 89 yX0_forget RX5 ∈ nw := mnw 672 (by decide +kernel) (by decide +kernel)
theorem wn_673 : Cond.methodLinkNest RX5 92 yX4_writeChange RX5 ∈ nw := mnw 673 (by decide +kernel) (by decide +kernel)
theorem wq_675 : Cond.instanceMethod yX4_writeChange ∈ gw := mgw 675 (by decide +kernel) (by decide +kernel)
theorem wq_676 : Cond.code yX4_writeChange cX4_writeChange 2 (some FieldType.int) ∈ gw := mgw 676 (by decide +kernel) (by decide +kernel)
theorem wn_677 : Cond.methodLinkNest RX4 153 yX0_bytesToWrite RX5 ∈ nw := mnw 677 (by decide +kernel) (by decide +kernel)
theorem wq_679 : Cond.instanceMethod yX0_bytesToWrite ∈ gw := mgw 679 (by decide +kernel) (by decide +kernel)
theorem wq_680 : Cond.code yX0_bytesToWrite cX0_bytesToWrite 3 (some FieldType.int) ∈ gw := mgw 680 (by decide +kernel) (by decide +kernel)
theorem wn_681 : Cond.methodLinkNest RX4 168 yX2_fillCommit RX5 ∈ nw := mnw 681 (by decide +kernel) (by decide +kernel)
theorem wq_683 : Cond.instanceMethod yX2_fillCommit ∈ gw := mgw 683 (by decide +kernel) (by decide +kernel)
theorem wq_684 : Cond.code yX2_fillCommit cX2_fillCommit 2 (none : Option FieldType) ∈ gw := mgw 684 (by decide +kernel) (by decide +kernel)
theorem wq_685 : Cond.methodLink RL 64 yX5_abort ∈ gw := mgw 685 (by decide +kernel) (by decide +kernel)
theorem wq_686 : Cond.instanceMethod yX5_abort ∈ gw := mgw 686 (by decide +kernel) (by decide +kernel)
theorem wq_687 : Cond.selects RX5 yX5_abort yX5_abort ∈ gw := mgw 687 (by decide +kernel) (by decide +kernel)
theorem wq_688 : Cond.code yX5_abort cX5_abort 2 (some FieldType.int) ∈ gw := mgw 688 (by decide +kernel) (by decide +kernel)
theorem wq_689 : Cond.methodLink RL 68 yX5_get ∈ gw := mgw 689 (by decide +kernel) (by decide +kernel)
theorem wq_690 : Cond.instanceMethod yX5_get ∈ gw := mgw 690 (by decide +kernel) (by decide +kernel)
theorem wq_691 : Cond.selects RX5 yX5_get yX5_get ∈ gw := mgw 691 (by decide +kernel) (by decide +kernel)
theorem wq_692 : Cond.code yX5_get cX5_get 2 (some FieldType.long) ∈ gw := mgw 692 (by decide +kernel) (by decide +kernel)
theorem wq_693 : Cond.methodLink RX5 95 yX5_isTag ∈ gw := mgw 693 (by decide +kernel) (by decide +kernel)
theorem wq_694 : Cond.constantLong RX5 98 (-1 : Int64) ∈ gw := mgw 694 (by decide +kernel) (by decide +kernel)
theorem wn_695 : Cond.methodLinkNest RX5 100 yX4_look RX5 ∈ nw := mnw 695 (by decide +kernel) (by decide +kernel)
theorem wn_696 : Cond.methodLinkNest RX5 104 yX3_newestValue RX5 ∈ nw := mnw 696 (by decide +kernel) (by decide +kernel)
theorem wq_697 : Cond.methodLink RL 73 yX5_length ∈ gw := mgw 697 (by decide +kernel) (by decide +kernel)
theorem wq_698 : Cond.instanceMethod yX5_length ∈ gw := mgw 698 (by decide +kernel) (by decide +kernel)
theorem wq_699 : Cond.selects RX5 yX5_length yX5_length ∈ gw := mgw 699 (by decide +kernel) (by decide +kernel)
theorem wq_700 : Cond.code yX5_length cX5_length 2 (some FieldType.int) ∈ gw := mgw 700 (by decide +kernel) (by decide +kernel)
theorem wn_701 : Cond.methodLinkNest RX5 110 yX3_newestLength RX5 ∈ nw := mnw 701 (by decide +kernel) (by decide +kernel)
theorem wq_702 : Cond.methodLink RL 77 yX5_hand ∈ gw := mgw 702 (by decide +kernel) (by decide +kernel)
theorem wq_703 : Cond.instanceMethod yX5_hand ∈ gw := mgw 703 (by decide +kernel) (by decide +kernel)
theorem wq_704 : Cond.selects RX5 yX5_hand yX5_hand ∈ gw := mgw 704 (by decide +kernel) (by decide +kernel)
theorem wq_705 : Cond.code yX5_hand cX5_hand 1 (some FieldType.int) ∈ gw := mgw 705 (by decide +kernel) (by decide +kernel)
theorem wn_706 : Cond.methodLinkNest RX5 113 yX4_handOverByHand RX5 ∈ nw := mnw 706 (by decide +kernel) (by decide +kernel)
theorem wq_708 : Cond.instanceMethod yX4_handOverByHand ∈ gw := mgw 708 (by decide +kernel) (by decide +kernel)
theorem wq_709 : Cond.code yX4_handOverByHand cX4_handOverByHand 1 (some FieldType.int) ∈ gw := mgw 709 (by decide +kernel) (by decide +kernel)
theorem wq_710 : Cond.methodLink RL 87 yX5_sector ∈ gw := mgw 710 (by decide +kernel) (by decide +kernel)
theorem wq_711 : Cond.instanceMethod yX5_sector ∈ gw := mgw 711 (by decide +kernel) (by decide +kernel)
theorem wq_712 : Cond.selects RX5 yX5_sector yX5_sector ∈ gw := mgw 712 (by decide +kernel) (by decide +kernel)
theorem wq_713 : Cond.code yX5_sector cX5_sector 4 (some FieldType.int) ∈ gw := mgw 713 (by decide +kernel) (by decide +kernel)
theorem wn_714 : Cond.methodLinkNest RX5 127 yX1_hasSector RX5 ∈ nw := mnw 714 (by decide +kernel) (by decide +kernel)
theorem wn_715 : Cond.methodLinkNest RX5 123 yX1_peek RX5 ∈ nw := mnw 715 (by decide +kernel) (by decide +kernel)
theorem wn_716 : Cond.methodLinkNest RX5 130 yX1_numberOf RX5 ∈ nw := mnw 716 (by decide +kernel) (by decide +kernel)
theorem wn_717 : Cond.methodLinkNest RX5 133 yX1_erasesOf RX5 ∈ nw := mnw 717 (by decide +kernel) (by decide +kernel)
theorem wn_718 : Cond.methodLinkNest RX5 136 yX1_isBlank RX5 ∈ nw := mnw 718 (by decide +kernel) (by decide +kernel)
theorem wq_719 : Cond.methodLink RL 91 yX5_entry ∈ gw := mgw 719 (by decide +kernel) (by decide +kernel)
theorem wq_720 : Cond.instanceMethod yX5_entry ∈ gw := mgw 720 (by decide +kernel) (by decide +kernel)
theorem wq_721 : Cond.selects RX5 yX5_entry yX5_entry ∈ gw := mgw 721 (by decide +kernel) (by decide +kernel)
theorem wq_722 : Cond.code yX5_entry cX5_entry 5 (some FieldType.int) ∈ gw := mgw 722 (by decide +kernel) (by decide +kernel)
theorem wn_723 : Cond.methodLinkNest RX5 146 yX3_scan RX5 ∈ nw := mnw 723 (by decide +kernel) (by decide +kernel)
theorem wn_724 : Cond.methodLinkNest RX5 153 yX3_tell RX5 ∈ nw := mnw 724 (by decide +kernel) (by decide +kernel)
theorem wq_726 : Cond.instanceMethod yX3_tell ∈ gw := mgw 726 (by decide +kernel) (by decide +kernel)
theorem wq_727 : Cond.code yX3_tell cX3_tell 3 (some FieldType.int) ∈ gw := mgw 727 (by decide +kernel) (by decide +kernel)
theorem wq_728 : Cond.methodLink RL 95 yX5_space ∈ gw := mgw 728 (by decide +kernel) (by decide +kernel)
theorem wq_729 : Cond.instanceMethod yX5_space ∈ gw := mgw 729 (by decide +kernel) (by decide +kernel)
theorem wq_730 : Cond.selects RX5 yX5_space yX5_space ∈ gw := mgw 730 (by decide +kernel) (by decide +kernel)
theorem wq_731 : Cond.code yX5_space cX5_space 4 (some FieldType.int) ∈ gw := mgw 731 (by decide +kernel) (by decide +kernel)
theorem wn_732 : Cond.methodLinkNest RX5 161 yX3_valuedBytes RX5 ∈ nw := mnw 732 (by decide +kernel) (by decide +kernel)
theorem wn_733 : Cond.methodLinkNest RX5 164 yX3_allBytes RX5 ∈ nw := mnw 733 (by decide +kernel) (by decide +kernel)
theorem wq_735 : Cond.instanceMethod yX3_allBytes ∈ gw := mgw 735 (by decide +kernel) (by decide +kernel)
theorem wq_736 : Cond.code yX3_allBytes cX3_allBytes 3 (some FieldType.int) ∈ gw := mgw 736 (by decide +kernel) (by decide +kernel)
theorem wq_737 : Cond.methodLink RL 99 yX5_until ∈ gw := mgw 737 (by decide +kernel) (by decide +kernel)
theorem wq_738 : Cond.instanceMethod yX5_until ∈ gw := mgw 738 (by decide +kernel) (by decide +kernel)
theorem wq_739 : Cond.selects RX5 yX5_until yX5_until ∈ gw := mgw 739 (by decide +kernel) (by decide +kernel)
theorem wq_740 : Cond.code yX5_until cX5_until 2 (some FieldType.int) ∈ gw := mgw 740 (by decide +kernel) (by decide +kernel)
theorem wn_741 : Cond.methodLinkNest RX5 167 yX3_freeBytes RX5 ∈ nw := mnw 741 (by decide +kernel) (by decide +kernel)
theorem wq_742 : Cond.methodLink RL 103 yX5_after ∈ gw := mgw 742 (by decide +kernel) (by decide +kernel)
theorem wq_743 : Cond.instanceMethod yX5_after ∈ gw := mgw 743 (by decide +kernel) (by decide +kernel)
theorem wq_744 : Cond.selects RX5 yX5_after yX5_after ∈ gw := mgw 744 (by decide +kernel) (by decide +kernel)
theorem wq_745 : Cond.code yX5_after cX5_after 1 (some FieldType.int) ∈ gw := mgw 745 (by decide +kernel) (by decide +kernel)
theorem wn_746 : Cond.methodLinkNest RX5 170 yX3_freeBehindHandover RX5 ∈ nw := mnw 746 (by decide +kernel) (by decide +kernel)
theorem wq_747 : Cond.methodLink RL 107 yX5_costs ∈ gw := mgw 747 (by decide +kernel) (by decide +kernel)
theorem wq_748 : Cond.instanceMethod yX5_costs ∈ gw := mgw 748 (by decide +kernel) (by decide +kernel)
theorem wq_749 : Cond.selects RX5 yX5_costs yX5_costs ∈ gw := mgw 749 (by decide +kernel) (by decide +kernel)
theorem wq_750 : Cond.code yX5_costs cX5_costs 2 (some FieldType.int) ∈ gw := mgw 750 (by decide +kernel) (by decide +kernel)
theorem wn_751 : Cond.methodLinkNest RX5 173 yX4_costOf RX5 ∈ nw := mnw 751 (by decide +kernel) (by decide +kernel)
theorem wq_753 : Cond.instanceMethod yX4_costOf ∈ gw := mgw 753 (by decide +kernel) (by decide +kernel)
theorem wq_754 : Cond.code yX4_costOf cX4_costOf 2 (some FieldType.int) ∈ gw := mgw 754 (by decide +kernel) (by decide +kernel)
theorem wq_755 : Cond.methodLink RX4 202 yX4_handoverDoings ∈ gw := mgw 755 (by decide +kernel) (by decide +kernel)
theorem wq_757 : Cond.instanceMethod yX4_handoverDoings ∈ gw := mgw 757 (by decide +kernel) (by decide +kernel)
theorem wq_758 : Cond.code yX4_handoverDoings cX4_handoverDoings 3 (some FieldType.int) ∈ gw := mgw 758 (by decide +kernel) (by decide +kernel)
theorem wn_759 : Cond.methodLinkNest RX4 205 yX3_copyWrites RX5 ∈ nw := mnw 759 (by decide +kernel) (by decide +kernel)
theorem wq_761 : Cond.instanceMethod yX3_copyWrites ∈ gw := mgw 761 (by decide +kernel) (by decide +kernel)
theorem wq_762 : Cond.code yX3_copyWrites cX3_copyWrites 3 (some FieldType.int) ∈ gw := mgw 762 (by decide +kernel) (by decide +kernel)
theorem wq_763 : Cond.methodLink RL 111 yX5_torn ∈ gw := mgw 763 (by decide +kernel) (by decide +kernel)
theorem wq_764 : Cond.instanceMethod yX5_torn ∈ gw := mgw 764 (by decide +kernel) (by decide +kernel)
theorem wq_765 : Cond.selects RX5 yX5_torn yX5_torn ∈ gw := mgw 765 (by decide +kernel) (by decide +kernel)
theorem wq_766 : Cond.code yX5_torn cX5_torn 8 (some FieldType.long) ∈ gw := mgw 766 (by decide +kernel) (by decide +kernel)
theorem wn_767 : Cond.methodLinkNest RX5 176 yX4_copyFrom RX5 ∈ nw := mnw 767 (by decide +kernel) (by decide +kernel)
theorem wq_769 : Cond.instanceMethod yX4_copyFrom ∈ gw := mgw 769 (by decide +kernel) (by decide +kernel)
theorem wq_770 : Cond.code yX4_copyFrom cX4_copyFrom 2 (none : Option FieldType) ∈ gw := mgw 770 (by decide +kernel) (by decide +kernel)
theorem wn_771 : Cond.methodLinkNest RX4 53 yX1_copyFrom RX5 ∈ nw := mnw 771 (by decide +kernel) (by decide +kernel)
theorem wq_773 : Cond.instanceMethod yX1_copyFrom ∈ gw := mgw 773 (by decide +kernel) (by decide +kernel)
theorem wq_774 : Cond.code yX1_copyFrom cX1_copyFrom 2 (none : Option FieldType) ∈ gw := mgw 774 (by decide +kernel) (by decide +kernel)
theorem wq_775 : Cond.methodLink RX1 50 arraycopyName ∈ gw := mgw 775 (by decide +kernel) (by decide +kernel)
theorem wq_776 : Cond.static arraycopyName ∈ gw := mgw 776 (by decide +kernel) (by decide +kernel)
theorem wq_777 : Cond.native arraycopyName ∈ gw := mgw 777 (by decide +kernel) (by decide +kernel)
theorem wq_778 : Cond.methodLink RL 116 yX5_history ∈ gw := mgw 778 (by decide +kernel) (by decide +kernel)
theorem wq_779 : Cond.instanceMethod yX5_history ∈ gw := mgw 779 (by decide +kernel) (by decide +kernel)
theorem wq_780 : Cond.selects RX5 yX5_history yX5_history ∈ gw := mgw 780 (by decide +kernel) (by decide +kernel)
theorem wq_781 : Cond.code yX5_history cX5_history 4 (some FieldType.long) ∈ gw := mgw 781 (by decide +kernel) (by decide +kernel)
theorem wn_782 : Cond.methodLinkNest RX5 183 yX3_tellingOf RX5 ∈ nw := mnw 782 (by decide +kernel) (by decide +kernel)
theorem wq_784 : Cond.instanceMethod yX3_tellingOf ∈ gw := mgw 784 (by decide +kernel) (by decide +kernel)
theorem wq_785 : Cond.code yX3_tellingOf cX3_tellingOf 4 (some FieldType.int) ∈ gw := mgw 785 (by decide +kernel) (by decide +kernel)
theorem wq_786 : Cond.methodLink RX3 131 yX3_tells ∈ gw := mgw 786 (by decide +kernel) (by decide +kernel)
theorem wq_788 : Cond.instanceMethod yX3_tells ∈ gw := mgw 788 (by decide +kernel) (by decide +kernel)
theorem wq_789 : Cond.code yX3_tells cX3_tells 3 (some FieldType.boolean) ∈ gw := mgw 789 (by decide +kernel) (by decide +kernel)
theorem wn_790 : Cond.methodLinkNest RX5 186 yX3_earlierValue RX5 ∈ nw := mnw 790 (by decide +kernel) (by decide +kernel)
theorem wq_792 : Cond.instanceMethod yX3_earlierValue ∈ gw := mgw 792 (by decide +kernel) (by decide +kernel)
theorem wq_793 : Cond.code yX3_earlierValue cX3_earlierValue 5 (some FieldType.long) ∈ gw := mgw 793 (by decide +kernel) (by decide +kernel)
theorem wq_794 : Cond.constantLong RX3 135 (-5 : Int64) ∈ gw := mgw 794 (by decide +kernel) (by decide +kernel)
theorem wq_795 : Cond.methodLink RL 121 yX5_wears ∈ gw := mgw 795 (by decide +kernel) (by decide +kernel)
theorem wq_796 : Cond.instanceMethod yX5_wears ∈ gw := mgw 796 (by decide +kernel) (by decide +kernel)
theorem wq_797 : Cond.selects RX5 yX5_wears yX5_wears ∈ gw := mgw 797 (by decide +kernel) (by decide +kernel)
theorem wq_798 : Cond.code yX5_wears cX5_wears 3 (some FieldType.int) ∈ gw := mgw 798 (by decide +kernel) (by decide +kernel)
theorem wn_799 : Cond.methodLinkNest RX5 190 yX4_wearOut RX5 ∈ nw := mnw 799 (by decide +kernel) (by decide +kernel)
theorem wq_801 : Cond.instanceMethod yX4_wearOut ∈ gw := mgw 801 (by decide +kernel) (by decide +kernel)
theorem wq_802 : Cond.code yX4_wearOut cX4_wearOut 4 (none : Option FieldType) ∈ gw := mgw 802 (by decide +kernel) (by decide +kernel)
theorem wn_803 : Cond.methodLinkNest RX4 208 yX1_hasSector RX5 ∈ nw := mnw 803 (by decide +kernel) (by decide +kernel)
theorem wn_804 : Cond.methodLinkNest RX5 194 yX1_mostErases RX5 ∈ nw := mnw 804 (by decide +kernel) (by decide +kernel)
theorem wq_806 : Cond.instanceMethod yX1_mostErases ∈ gw := mgw 806 (by decide +kernel) (by decide +kernel)
theorem wq_807 : Cond.code yX1_mostErases cX1_mostErases 3 (some FieldType.int) ∈ gw := mgw 807 (by decide +kernel) (by decide +kernel)
theorem wq_808 : Cond.methodLink RX1 107 Lib.Math.max.name ∈ gw := mgw 808 (by decide +kernel) (by decide +kernel)
theorem wq_809 : Cond.static Lib.Math.max.name ∈ gw := mgw 809 (by decide +kernel) (by decide +kernel)
theorem wq_810 : Cond.code Lib.Math.max.name cJ9_max_7cf53 2 (some FieldType.int) ∈ gw := mgw 810 (by decide +kernel) (by decide +kernel)
theorem wn_811 : Cond.methodLinkNest RX5 197 yX1_fewestErases RX5 ∈ nw := mnw 811 (by decide +kernel) (by decide +kernel)
theorem wq_813 : Cond.instanceMethod yX1_fewestErases ∈ gw := mgw 813 (by decide +kernel) (by decide +kernel)
theorem wq_814 : Cond.code yX1_fewestErases cX1_fewestErases 1 (some FieldType.int) ∈ gw := mgw 814 (by decide +kernel) (by decide +kernel)
theorem wq_815 : Cond.methodLink RX1 112 yX1_leastErased ∈ gw := mgw 815 (by decide +kernel) (by decide +kernel)
theorem wq_816 : Cond.methodLink RL 125 yX5_wear ∈ gw := mgw 816 (by decide +kernel) (by decide +kernel)
theorem wq_817 : Cond.instanceMethod yX5_wear ∈ gw := mgw 817 (by decide +kernel) (by decide +kernel)
theorem wq_818 : Cond.selects RX5 yX5_wear yX5_wear ∈ gw := mgw 818 (by decide +kernel) (by decide +kernel)
theorem wq_819 : Cond.code yX5_wear cX5_wear 3 (some FieldType.int) ∈ gw := mgw 819 (by decide +kernel) (by decide +kernel)
theorem wn_820 : Cond.methodLinkNest RX5 200 yX1_allErases RX5 ∈ nw := mnw 820 (by decide +kernel) (by decide +kernel)
theorem wq_822 : Cond.instanceMethod yX1_allErases ∈ gw := mgw 822 (by decide +kernel) (by decide +kernel)
theorem wq_823 : Cond.code yX1_allErases cX1_allErases 3 (some FieldType.int) ∈ gw := mgw 823 (by decide +kernel) (by decide +kernel)
theorem wq_824 : Cond.methodLink RX5 206 yX5_unevenness ∈ gw := mgw 824 (by decide +kernel) (by decide +kernel)
theorem wq_825 : Cond.static yX5_unevenness ∈ gw := mgw 825 (by decide +kernel) (by decide +kernel)
theorem wq_826 : Cond.code yX5_unevenness cX5_unevenness 3 (some FieldType.int) ∈ gw := mgw 826 (by decide +kernel) (by decide +kernel)
theorem wq_827 : Cond.methodLink RX5 229 yX5_bitsOf ∈ gw := mgw 827 (by decide +kernel) (by decide +kernel)
theorem wq_828 : Cond.static yX5_bitsOf ∈ gw := mgw 828 (by decide +kernel) (by decide +kernel)
theorem wq_829 : Cond.code yX5_bitsOf cX5_bitsOf 4 (some FieldType.int) ∈ gw := mgw 829 (by decide +kernel) (by decide +kernel)
theorem wq_830 : Cond.constantFloat RX5 233 (1258291200 : UInt32) ∈ gw := mgw 830 (by decide +kernel) (by decide +kernel)
theorem wq_831 : Cond.methodLink RL 129 yX5_tags ∈ gw := mgw 831 (by decide +kernel) (by decide +kernel)
theorem wq_832 : Cond.instanceMethod yX5_tags ∈ gw := mgw 832 (by decide +kernel) (by decide +kernel)
theorem wq_833 : Cond.selects RX5 yX5_tags yX5_tags ∈ gw := mgw 833 (by decide +kernel) (by decide +kernel)
theorem wq_834 : Cond.code yX5_tags cX5_tags 1 (some FieldType.long) ∈ gw := mgw 834 (by decide +kernel) (by decide +kernel)
theorem wn_835 : Cond.methodLinkNest RX5 210 yX3_valuedTags RX5 ∈ nw := mnw 835 (by decide +kernel) (by decide +kernel)
theorem wq_836 : Cond.methodLink RL 134 yX5_count ∈ gw := mgw 836 (by decide +kernel) (by decide +kernel)
theorem wq_837 : Cond.instanceMethod yX5_count ∈ gw := mgw 837 (by decide +kernel) (by decide +kernel)
theorem wq_838 : Cond.selects RX5 yX5_count yX5_count ∈ gw := mgw 838 (by decide +kernel) (by decide +kernel)
theorem wq_839 : Cond.code yX5_count cX5_count 2 (some FieldType.int) ∈ gw := mgw 839 (by decide +kernel) (by decide +kernel)
theorem wq_840 : Cond.methodLink RL 81 yL_at ∈ gw := mgw 840 (by decide +kernel) (by decide +kernel)
theorem wq_841 : Cond.static yL_at ∈ gw := mgw 841 (by decide +kernel) (by decide +kernel)
theorem wq_843 : Cond.classLink RL 13 "java/util/NoSuchElementException" ∈ gw := mgw 843 (by decide +kernel) (by decide +kernel)
theorem wq_844 : Cond.methodLink RL 7 yX5_at ∈ gw := mgw 844 (by decide +kernel) (by decide +kernel)
theorem wq_845 : Cond.instanceMethod yX5_at ∈ gw := mgw 845 (by decide +kernel) (by decide +kernel)
theorem wq_846 : Cond.selects RX5 yX5_at yX5_at ∈ gw := mgw 846 (by decide +kernel) (by decide +kernel)
theorem wq_847 : Cond.code yX5_at cX5_at 3 (some FieldType.int) ∈ gw := mgw 847 (by decide +kernel) (by decide +kernel)
theorem wq_848 : Cond.classLink RX5 116 "java/util/NoSuchElementException" ∈ gw := mgw 848 (by decide +kernel) (by decide +kernel)
theorem wq_849 : Cond.instantiable "java/util/NoSuchElementException" 6 ∈ gw := mgw 849 (by decide +kernel) (by decide +kernel)
theorem wq_857 : Cond.selects "java/util/NoSuchElementException" ⟨"java/lang/Throwable", "fillInStackTrace", "(I)Ljava/lang/Throwable;"⟩ ⟨"java/lang/Throwable", "fillInStackTrace", "(I)Ljava/lang/Throwable;"⟩ ∈ gw := mgw 857 (by decide +kernel) (by decide +kernel)
theorem wq_858 : Cond.selects "java/util/NoSuchElementException" ⟨"java/lang/Throwable", "fillInStackTrace", "()Ljava/lang/Throwable;"⟩ ⟨"java/lang/Throwable", "fillInStackTrace", "()Ljava/lang/Throwable;"⟩ ∈ gw := mgw 858 (by decide +kernel) (by decide +kernel)
theorem wq_859 : Cond.lays "java/util/NoSuchElementException" "java/lang/Throwable" "cause" "Ljava/lang/Throwable;" ∈ gw := mgw 859 (by decide +kernel) (by decide +kernel)
theorem wq_860 : Cond.lays "java/lang/Throwable" "java/lang/Throwable" "cause" "Ljava/lang/Throwable;" ∈ gw := mgw 860 (by decide +kernel) (by decide +kernel)
theorem wq_861 : Cond.lays "java/util/NoSuchElementException" "java/lang/Throwable" "stackTrace" "[Ljava/lang/StackTraceElement;" ∈ gw := mgw 861 (by decide +kernel) (by decide +kernel)
theorem wq_862 : Cond.lays "java/lang/Throwable" "java/lang/Throwable" "stackTrace" "[Ljava/lang/StackTraceElement;" ∈ gw := mgw 862 (by decide +kernel) (by decide +kernel)
theorem wq_863 : Cond.lays "java/util/NoSuchElementException" "java/lang/Throwable" "suppressedExceptions" "Ljava/util/List;" ∈ gw := mgw 863 (by decide +kernel) (by decide +kernel)
theorem wq_864 : Cond.lays "java/lang/Throwable" "java/lang/Throwable" "suppressedExceptions" "Ljava/util/List;" ∈ gw := mgw 864 (by decide +kernel) (by decide +kernel)
theorem wq_865 : Cond.lays "java/util/NoSuchElementException" "java/lang/Throwable" "detailMessage" "Ljava/lang/String;" ∈ gw := mgw 865 (by decide +kernel) (by decide +kernel)
theorem wq_866 : Cond.lays "java/lang/Throwable" "java/lang/Throwable" "detailMessage" "Ljava/lang/String;" ∈ gw := mgw 866 (by decide +kernel) (by decide +kernel)
theorem wq_867 : Cond.lays "java/util/NoSuchElementException" "java/lang/Throwable" "backtrace" "Ljava/lang/Object;" ∈ gw := mgw 867 (by decide +kernel) (by decide +kernel)
theorem wq_868 : Cond.lays "java/lang/Throwable" "java/lang/Throwable" "backtrace" "Ljava/lang/Object;" ∈ gw := mgw 868 (by decide +kernel) (by decide +kernel)
theorem wq_869 : Cond.fieldLink "java/lang/Throwable" 198 "java/lang/Throwable" "backtrace" "Ljava/lang/Object;" ∈ gw := mgw 869 (by decide +kernel) (by decide +kernel)
theorem wq_871 : Cond.instanceMethod ⟨"java/lang/Throwable", "<init>", "()V"⟩ ∈ gw := mgw 871 (by decide +kernel) (by decide +kernel)
theorem wq_872 : Cond.code ⟨"java/lang/Throwable", "<init>", "()V"⟩ prog_20_method_1_code 1 (none : Option FieldType) ∈ gw := mgw 872 (by decide +kernel) (by decide +kernel)
theorem wq_873 : Cond.methodLink "java/lang/Throwable" 1 objectInit ∈ gw := mgw 873 (by decide +kernel) (by decide +kernel)
theorem wq_874 : Cond.fieldLink "java/lang/Throwable" 13 "java/lang/Throwable" "UNASSIGNED_STACK" "[Ljava/lang/StackTraceElement;" ∈ gw := mgw 874 (by decide +kernel) (by decide +kernel)
theorem wq_876 : Cond.fieldLink "java/lang/Throwable" 20 "java/lang/Throwable" "SUPPRESSED_SENTINEL" "Ljava/util/List;" ∈ gw := mgw 876 (by decide +kernel) (by decide +kernel)
theorem wq_878 : Cond.methodLink "java/lang/Throwable" 27 ⟨"java/lang/Throwable", "fillInStackTrace", "()Ljava/lang/Throwable;"⟩ ∈ gw := mgw 878 (by decide +kernel) (by decide +kernel)
theorem wq_879 : Cond.instanceMethod ⟨"java/lang/Throwable", "fillInStackTrace", "()Ljava/lang/Throwable;"⟩ ∈ gw := mgw 879 (by decide +kernel) (by decide +kernel)
theorem wq_882 : Cond.methodLink "java/lang/Throwable" 202 ⟨"java/lang/Throwable", "fillInStackTrace", "(I)Ljava/lang/Throwable;"⟩ ∈ gw := mgw 882 (by decide +kernel) (by decide +kernel)
theorem wq_884 : Cond.instanceMethod ⟨"java/lang/Throwable", "fillInStackTrace", "(I)Ljava/lang/Throwable;"⟩ ∈ gw := mgw 884 (by decide +kernel) (by decide +kernel)
theorem wq_885 : Cond.instantiable "java/lang/Throwable" 6 ∈ gw := mgw 885 (by decide +kernel) (by decide +kernel)
theorem wq_886 : Cond.native ⟨"java/lang/Throwable", "fillInStackTrace", "(I)Ljava/lang/Throwable;"⟩ ∈ gw := mgw 886 (by decide +kernel) (by decide +kernel)
theorem wq_888 : Cond.methodLink RX5 120 ⟨"java/util/NoSuchElementException", "<init>", "(Ljava/lang/String;)V"⟩ ∈ gw := mgw 888 (by decide +kernel) (by decide +kernel)
theorem wq_889 : Cond.instanceMethod ⟨"java/util/NoSuchElementException", "<init>", "(Ljava/lang/String;)V"⟩ ∈ gw := mgw 889 (by decide +kernel) (by decide +kernel)
theorem wq_890 : Cond.code ⟨"java/util/NoSuchElementException", "<init>", "(Ljava/lang/String;)V"⟩ prog_24_method_4_code 2 (none : Option FieldType) ∈ gw := mgw 890 (by decide +kernel) (by decide +kernel)
theorem wq_891 : Cond.methodLink "java/util/NoSuchElementException" 13 ⟨"java/lang/RuntimeException", "<init>", "(Ljava/lang/String;)V"⟩ ∈ gw := mgw 891 (by decide +kernel) (by decide +kernel)
theorem wq_892 : Cond.instanceMethod ⟨"java/lang/RuntimeException", "<init>", "(Ljava/lang/String;)V"⟩ ∈ gw := mgw 892 (by decide +kernel) (by decide +kernel)
theorem wq_893 : Cond.code ⟨"java/lang/RuntimeException", "<init>", "(Ljava/lang/String;)V"⟩ prog_17_method_2_code 2 (none : Option FieldType) ∈ gw := mgw 893 (by decide +kernel) (by decide +kernel)
theorem wq_894 : Cond.methodLink "java/lang/RuntimeException" 7 ⟨"java/lang/Exception", "<init>", "(Ljava/lang/String;)V"⟩ ∈ gw := mgw 894 (by decide +kernel) (by decide +kernel)
theorem wq_895 : Cond.instanceMethod ⟨"java/lang/Exception", "<init>", "(Ljava/lang/String;)V"⟩ ∈ gw := mgw 895 (by decide +kernel) (by decide +kernel)
theorem wq_896 : Cond.code ⟨"java/lang/Exception", "<init>", "(Ljava/lang/String;)V"⟩ prog_11_method_2_code 2 (none : Option FieldType) ∈ gw := mgw 896 (by decide +kernel) (by decide +kernel)
theorem wq_897 : Cond.methodLink "java/lang/Exception" 7 ⟨"java/lang/Throwable", "<init>", "(Ljava/lang/String;)V"⟩ ∈ gw := mgw 897 (by decide +kernel) (by decide +kernel)
theorem wq_898 : Cond.instanceMethod ⟨"java/lang/Throwable", "<init>", "(Ljava/lang/String;)V"⟩ ∈ gw := mgw 898 (by decide +kernel) (by decide +kernel)
theorem wq_899 : Cond.code ⟨"java/lang/Throwable", "<init>", "(Ljava/lang/String;)V"⟩ prog_20_method_2_code 2 (none : Option FieldType) ∈ gw := mgw 899 (by decide +kernel) (by decide +kernel)
theorem wq_900 : Cond.fieldLink "java/lang/Throwable" 198 "java/lang/Throwable" "backtrace" "Ljava/lang/Object;" ∈ gw := mgw 900 (by decide +kernel) (by decide +kernel)
theorem wq_901 : Cond.fieldLink "java/lang/Throwable" 31 "java/lang/Throwable" "detailMessage" "Ljava/lang/String;" ∈ gw := mgw 901 (by decide +kernel) (by decide +kernel)
theorem wq_902 : Cond.fieldLink "java/lang/Throwable" 7 "java/lang/Throwable" "cause" "Ljava/lang/Throwable;" ∈ gw := mgw 902 (by decide +kernel) (by decide +kernel)
theorem wq_903 : Cond.fieldLink "java/lang/Throwable" 17 "java/lang/Throwable" "stackTrace" "[Ljava/lang/StackTraceElement;" ∈ gw := mgw 903 (by decide +kernel) (by decide +kernel)
theorem wq_904 : Cond.fieldLink "java/lang/Throwable" 24 "java/lang/Throwable" "suppressedExceptions" "Ljava/util/List;" ∈ gw := mgw 904 (by decide +kernel) (by decide +kernel)
theorem wq_909 : Cond.lays "java/util/NoSuchElementException" "java/lang/Throwable" "depth" "I" ∈ gw := mgw 909 (by decide +kernel) (by decide +kernel)
theorem wq_913 : Cond.arrayClass Jvm.ClassFile.FieldType.byte ∈ gw := mgw 913 (by decide +kernel) (by decide +kernel)
theorem wq_914 : Cond.classLink RL 16 RX6 ∈ gw := mgw 914 (by decide +kernel) (by decide +kernel)
theorem wq_915 : Cond.instantiable RX6 15 ∈ gw := mgw 915 (by decide +kernel) (by decide +kernel)
theorem wq_916 : Cond.methodLink RL 18 yX6_init ∈ gw := mgw 916 (by decide +kernel) (by decide +kernel)
theorem wq_917 : Cond.instanceMethod yX6_init ∈ gw := mgw 917 (by decide +kernel) (by decide +kernel)
theorem wq_918 : Cond.code yX6_init cX6_init 1 (none : Option FieldType) ∈ gw := mgw 918 (by decide +kernel) (by decide +kernel)
theorem wq_919 : Cond.methodLink RX6 1 objectInit ∈ gw := mgw 919 (by decide +kernel) (by decide +kernel)
theorem wq_920 : Cond.methodLink RX6 31 yX6_makes ∈ gw := mgw 920 (by decide +kernel) (by decide +kernel)
theorem wq_922 : Cond.instanceMethod yX6_makes ∈ gw := mgw 922 (by decide +kernel) (by decide +kernel)
theorem wq_923 : Cond.code yX6_makes cX6_makes 4 (none : Option FieldType) ∈ gw := mgw 923 (by decide +kernel) (by decide +kernel)
theorem wq_924 : Cond.fieldLink RX6 7 "SettingStoreModel" "x" "[I" ∈ gw := mgw 924 (by decide +kernel) (by decide +kernel)
theorem wq_925 : Cond.fieldLink RX6 13 "SettingStoreModel" "kept" "[I" ∈ gw := mgw 925 (by decide +kernel) (by decide +kernel)
theorem wq_926 : Cond.fieldLink RX6 35 "SettingStoreModel" "thrown" "I" ∈ gw := mgw 926 (by decide +kernel) (by decide +kernel)
theorem wq_927 : Cond.fieldLink RX6 43 "SettingStoreModel" "isGone" "Z" ∈ gw := mgw 927 (by decide +kernel) (by decide +kernel)
theorem wq_928 : Cond.fieldLink RX6 55 "SettingStoreModel" "entries" "I" ∈ gw := mgw 928 (by decide +kernel) (by decide +kernel)
theorem wq_929 : Cond.fieldLink RX6 82 "SettingStoreModel" "free" "I" ∈ gw := mgw 929 (by decide +kernel) (by decide +kernel)
theorem wq_930 : Cond.fieldLink RX6 58 "SettingStoreModel" "lost" "I" ∈ gw := mgw 930 (by decide +kernel) (by decide +kernel)
theorem wq_931 : Cond.fieldLink RX6 16 "SettingStoreModel" "place" "[I" ∈ gw := mgw 931 (by decide +kernel) (by decide +kernel)
theorem wq_932 : Cond.fieldLink RX6 19 "SettingStoreModel" "sort" "[I" ∈ gw := mgw 932 (by decide +kernel) (by decide +kernel)
theorem wq_933 : Cond.fieldLink RX6 22 "SettingStoreModel" "size" "[I" ∈ gw := mgw 933 (by decide +kernel) (by decide +kernel)
theorem wq_934 : Cond.fieldLink RX6 25 "SettingStoreModel" "state" "[I" ∈ gw := mgw 934 (by decide +kernel) (by decide +kernel)
theorem wq_935 : Cond.fieldLink RX6 28 "SettingStoreModel" "newest" "[I" ∈ gw := mgw 935 (by decide +kernel) (by decide +kernel)
theorem wq_936 : Cond.fieldLink RX6 151 "SettingStoreModel" "toSector" "I" ∈ gw := mgw 936 (by decide +kernel) (by decide +kernel)
theorem wq_937 : Cond.fieldLink RX6 154 "SettingStoreModel" "toPlace" "I" ∈ gw := mgw 937 (by decide +kernel) (by decide +kernel)
theorem wq_938 : Cond.fieldLink RX6 157 "SettingStoreModel" "sum" "I" ∈ gw := mgw 938 (by decide +kernel) (by decide +kernel)
theorem wq_939 : Cond.laysFinal RX6 "SettingStoreModel" "x" "[I" ∈ gw := mgw 939 (by decide +kernel) (by decide +kernel)
theorem wq_941 : Cond.laysFinal RX6 "SettingStoreModel" "kept" "[I" ∈ gw := mgw 941 (by decide +kernel) (by decide +kernel)
theorem wq_943 : Cond.lays RX6 "SettingStoreModel" "thrown" "I" ∈ gw := mgw 943 (by decide +kernel) (by decide +kernel)
theorem wq_945 : Cond.lays RX6 "SettingStoreModel" "isGone" "Z" ∈ gw := mgw 945 (by decide +kernel) (by decide +kernel)
theorem wq_947 : Cond.lays RX6 "SettingStoreModel" "entries" "I" ∈ gw := mgw 947 (by decide +kernel) (by decide +kernel)
theorem wq_949 : Cond.lays RX6 "SettingStoreModel" "free" "I" ∈ gw := mgw 949 (by decide +kernel) (by decide +kernel)
theorem wq_951 : Cond.lays RX6 "SettingStoreModel" "lost" "I" ∈ gw := mgw 951 (by decide +kernel) (by decide +kernel)
theorem wq_953 : Cond.laysFinal RX6 "SettingStoreModel" "place" "[I" ∈ gw := mgw 953 (by decide +kernel) (by decide +kernel)
theorem wq_955 : Cond.laysFinal RX6 "SettingStoreModel" "sort" "[I" ∈ gw := mgw 955 (by decide +kernel) (by decide +kernel)
theorem wq_957 : Cond.laysFinal RX6 "SettingStoreModel" "size" "[I" ∈ gw := mgw 957 (by decide +kernel) (by decide +kernel)
theorem wq_959 : Cond.laysFinal RX6 "SettingStoreModel" "state" "[I" ∈ gw := mgw 959 (by decide +kernel) (by decide +kernel)
theorem wq_961 : Cond.laysFinal RX6 "SettingStoreModel" "newest" "[I" ∈ gw := mgw 961 (by decide +kernel) (by decide +kernel)
theorem wq_963 : Cond.lays RX6 "SettingStoreModel" "toSector" "I" ∈ gw := mgw 963 (by decide +kernel) (by decide +kernel)
theorem wq_965 : Cond.lays RX6 "SettingStoreModel" "toPlace" "I" ∈ gw := mgw 965 (by decide +kernel) (by decide +kernel)
theorem wq_967 : Cond.lays RX6 "SettingStoreModel" "sum" "I" ∈ gw := mgw 967 (by decide +kernel) (by decide +kernel)
theorem wq_970 : Cond.methodLink RL 23 yX6_chip ∈ gw := mgw 970 (by decide +kernel) (by decide +kernel)
theorem wq_971 : Cond.instanceMethod yX6_chip ∈ gw := mgw 971 (by decide +kernel) (by decide +kernel)
theorem wq_972 : Cond.selects RX6 yX6_chip yX6_chip ∈ gw := mgw 972 (by decide +kernel) (by decide +kernel)
theorem wq_973 : Cond.code yX6_chip cX6_chip 3 (some FieldType.boolean) ∈ gw := mgw 973 (by decide +kernel) (by decide +kernel)
theorem wq_974 : Cond.methodLink RX6 39 yX6_within ∈ gw := mgw 974 (by decide +kernel) (by decide +kernel)
theorem wq_975 : Cond.static yX6_within ∈ gw := mgw 975 (by decide +kernel) (by decide +kernel)
theorem wq_976 : Cond.code yX6_within cX6_within 3 (some FieldType.boolean) ∈ gw := mgw 976 (by decide +kernel) (by decide +kernel)
theorem wq_977 : Cond.methodLink RL 28 yX6_on ∈ gw := mgw 977 (by decide +kernel) (by decide +kernel)
theorem wq_978 : Cond.instanceMethod yX6_on ∈ gw := mgw 978 (by decide +kernel) (by decide +kernel)
theorem wq_979 : Cond.selects RX6 yX6_on yX6_on ∈ gw := mgw 979 (by decide +kernel) (by decide +kernel)
theorem wq_980 : Cond.code yX6_on cX6_on 1 (some FieldType.int) ∈ gw := mgw 980 (by decide +kernel) (by decide +kernel)
theorem wq_981 : Cond.methodLink RX6 132 yX6_isOn ∈ gw := mgw 981 (by decide +kernel) (by decide +kernel)
theorem wq_983 : Cond.instanceMethod yX6_isOn ∈ gw := mgw 983 (by decide +kernel) (by decide +kernel)
theorem wq_984 : Cond.code yX6_isOn cX6_isOn 1 (some FieldType.boolean) ∈ gw := mgw 984 (by decide +kernel) (by decide +kernel)
theorem wq_985 : Cond.methodLink RX6 135 yX6_begins ∈ gw := mgw 985 (by decide +kernel) (by decide +kernel)
theorem wq_987 : Cond.instanceMethod yX6_begins ∈ gw := mgw 987 (by decide +kernel) (by decide +kernel)
theorem wq_988 : Cond.code yX6_begins cX6_begins 1 (none : Option FieldType) ∈ gw := mgw 988 (by decide +kernel) (by decide +kernel)
theorem wq_989 : Cond.methodLink RX6 138 yX6_switchesOn ∈ gw := mgw 989 (by decide +kernel) (by decide +kernel)
theorem wq_991 : Cond.instanceMethod yX6_switchesOn ∈ gw := mgw 991 (by decide +kernel) (by decide +kernel)
theorem wq_992 : Cond.code yX6_switchesOn cX6_switchesOn 2 (none : Option FieldType) ∈ gw := mgw 992 (by decide +kernel) (by decide +kernel)
theorem wq_993 : Cond.methodLink RX6 119 yX6_found ∈ gw := mgw 993 (by decide +kernel) (by decide +kernel)
theorem wq_995 : Cond.instanceMethod yX6_found ∈ gw := mgw 995 (by decide +kernel) (by decide +kernel)
theorem wq_996 : Cond.code yX6_found cX6_found 3 (some FieldType.int) ∈ gw := mgw 996 (by decide +kernel) (by decide +kernel)
theorem wq_997 : Cond.methodLink RX6 51 yX6_byteAt ∈ gw := mgw 997 (by decide +kernel) (by decide +kernel)
theorem wq_999 : Cond.instanceMethod yX6_byteAt ∈ gw := mgw 999 (by decide +kernel) (by decide +kernel)
theorem wq_1000 : Cond.code yX6_byteAt cX6_byteAt 3 (some FieldType.int) ∈ gw := mgw 1000 (by decide +kernel) (by decide +kernel)
theorem wq_1001 : Cond.methodLink RX6 79 yX6_check ∈ gw := mgw 1001 (by decide +kernel) (by decide +kernel)
theorem wq_1002 : Cond.static yX6_check ∈ gw := mgw 1002 (by decide +kernel) (by decide +kernel)
theorem wq_1003 : Cond.code yX6_check cX6_check 1 (some FieldType.int) ∈ gw := mgw 1003 (by decide +kernel) (by decide +kernel)
theorem wq_1004 : Cond.methodLink RX6 116 yX6_numberOf ∈ gw := mgw 1004 (by decide +kernel) (by decide +kernel)
theorem wq_1006 : Cond.instanceMethod yX6_numberOf ∈ gw := mgw 1006 (by decide +kernel) (by decide +kernel)
theorem wq_1007 : Cond.code yX6_numberOf cX6_numberOf 2 (some FieldType.int) ∈ gw := mgw 1007 (by decide +kernel) (by decide +kernel)
theorem wq_1008 : Cond.methodLink RX6 123 yX6_erasesOthers ∈ gw := mgw 1008 (by decide +kernel) (by decide +kernel)
theorem wq_1010 : Cond.instanceMethod yX6_erasesOthers ∈ gw := mgw 1010 (by decide +kernel) (by decide +kernel)
theorem wq_1011 : Cond.code yX6_erasesOthers cX6_erasesOthers 3 (none : Option FieldType) ∈ gw := mgw 1011 (by decide +kernel) (by decide +kernel)
theorem wq_1012 : Cond.methodLink RX6 61 yX6_isBlank ∈ gw := mgw 1012 (by decide +kernel) (by decide +kernel)
theorem wq_1014 : Cond.instanceMethod yX6_isBlank ∈ gw := mgw 1014 (by decide +kernel) (by decide +kernel)
theorem wq_1015 : Cond.code yX6_isBlank cX6_isBlank 4 (some FieldType.boolean) ∈ gw := mgw 1015 (by decide +kernel) (by decide +kernel)
theorem wq_1016 : Cond.methodLink RX6 113 yX6_erases ∈ gw := mgw 1016 (by decide +kernel) (by decide +kernel)
theorem wq_1018 : Cond.instanceMethod yX6_erases ∈ gw := mgw 1018 (by decide +kernel) (by decide +kernel)
theorem wq_1019 : Cond.code yX6_erases cX6_erases 4 (none : Option FieldType) ∈ gw := mgw 1019 (by decide +kernel) (by decide +kernel)
theorem wq_1020 : Cond.methodLink RX6 47 yX6_goes ∈ gw := mgw 1020 (by decide +kernel) (by decide +kernel)
theorem wq_1022 : Cond.instanceMethod yX6_goes ∈ gw := mgw 1022 (by decide +kernel) (by decide +kernel)
theorem wq_1023 : Cond.code yX6_goes cX6_goes 1 (some FieldType.boolean) ∈ gw := mgw 1023 (by decide +kernel) (by decide +kernel)
theorem wq_1024 : Cond.methodLink RX6 126 yX6_leastErased ∈ gw := mgw 1024 (by decide +kernel) (by decide +kernel)
theorem wq_1026 : Cond.instanceMethod yX6_leastErased ∈ gw := mgw 1026 (by decide +kernel) (by decide +kernel)
theorem wq_1027 : Cond.code yX6_leastErased cX6_leastErased 4 (some FieldType.int) ∈ gw := mgw 1027 (by decide +kernel) (by decide +kernel)
theorem wq_1028 : Cond.methodLink RX6 129 yX6_makesReady ∈ gw := mgw 1028 (by decide +kernel) (by decide +kernel)
theorem wq_1030 : Cond.instanceMethod yX6_makesReady ∈ gw := mgw 1030 (by decide +kernel) (by decide +kernel)
theorem wq_1031 : Cond.code yX6_makesReady cX6_makesReady 5 (none : Option FieldType) ∈ gw := mgw 1031 (by decide +kernel) (by decide +kernel)
theorem wq_1032 : Cond.methodLink RX6 109 yX6_writes ∈ gw := mgw 1032 (by decide +kernel) (by decide +kernel)
theorem wq_1034 : Cond.instanceMethod yX6_writes ∈ gw := mgw 1034 (by decide +kernel) (by decide +kernel)
theorem wq_1035 : Cond.code yX6_writes cX6_writes 5 (none : Option FieldType) ∈ gw := mgw 1035 (by decide +kernel) (by decide +kernel)
theorem wq_1036 : Cond.methodLink RX6 141 yX6_reads ∈ gw := mgw 1036 (by decide +kernel) (by decide +kernel)
theorem wq_1038 : Cond.instanceMethod yX6_reads ∈ gw := mgw 1038 (by decide +kernel) (by decide +kernel)
theorem wq_1039 : Cond.code yX6_reads cX6_reads 6 (none : Option FieldType) ∈ gw := mgw 1039 (by decide +kernel) (by decide +kernel)
theorem wq_1040 : Cond.methodLink RX6 65 yX6_sortAt ∈ gw := mgw 1040 (by decide +kernel) (by decide +kernel)
theorem wq_1042 : Cond.instanceMethod yX6_sortAt ∈ gw := mgw 1042 (by decide +kernel) (by decide +kernel)
theorem wq_1043 : Cond.code yX6_sortAt cX6_sortAt 5 (some FieldType.int) ∈ gw := mgw 1043 (by decide +kernel) (by decide +kernel)
theorem wq_1044 : Cond.methodLink RX6 68 yX6_sizeBy ∈ gw := mgw 1044 (by decide +kernel) (by decide +kernel)
theorem wq_1046 : Cond.instanceMethod yX6_sizeBy ∈ gw := mgw 1046 (by decide +kernel) (by decide +kernel)
theorem wq_1047 : Cond.code yX6_sizeBy cX6_sizeBy 3 (some FieldType.int) ∈ gw := mgw 1047 (by decide +kernel) (by decide +kernel)
theorem wq_1048 : Cond.methodLink RX6 71 yX6_checked ∈ gw := mgw 1048 (by decide +kernel) (by decide +kernel)
theorem wq_1050 : Cond.instanceMethod yX6_checked ∈ gw := mgw 1050 (by decide +kernel) (by decide +kernel)
theorem wq_1051 : Cond.code yX6_checked cX6_checked 2 (some FieldType.int) ∈ gw := mgw 1051 (by decide +kernel) (by decide +kernel)
theorem wq_1052 : Cond.methodLink RX6 75 yX6_sumOf ∈ gw := mgw 1052 (by decide +kernel) (by decide +kernel)
theorem wq_1054 : Cond.instanceMethod yX6_sumOf ∈ gw := mgw 1054 (by decide +kernel) (by decide +kernel)
theorem wq_1055 : Cond.code yX6_sumOf cX6_sumOf 6 (some FieldType.int) ∈ gw := mgw 1055 (by decide +kernel) (by decide +kernel)
theorem wq_1056 : Cond.methodLink RX6 85 yX6_commits ∈ gw := mgw 1056 (by decide +kernel) (by decide +kernel)
theorem wq_1058 : Cond.instanceMethod yX6_commits ∈ gw := mgw 1058 (by decide +kernel) (by decide +kernel)
theorem wq_1059 : Cond.code yX6_commits cX6_commits 6 (none : Option FieldType) ∈ gw := mgw 1059 (by decide +kernel) (by decide +kernel)
theorem wq_1060 : Cond.methodLink RX6 144 yX6_valued ∈ gw := mgw 1060 (by decide +kernel) (by decide +kernel)
theorem wq_1062 : Cond.instanceMethod yX6_valued ∈ gw := mgw 1062 (by decide +kernel) (by decide +kernel)
theorem wq_1063 : Cond.code yX6_valued cX6_valued 4 (some FieldType.int) ∈ gw := mgw 1063 (by decide +kernel) (by decide +kernel)
theorem wq_1064 : Cond.methodLink RX6 106 yX6_hasValue ∈ gw := mgw 1064 (by decide +kernel) (by decide +kernel)
theorem wq_1066 : Cond.instanceMethod yX6_hasValue ∈ gw := mgw 1066 (by decide +kernel) (by decide +kernel)
theorem wq_1067 : Cond.code yX6_hasValue cX6_hasValue 3 (some FieldType.boolean) ∈ gw := mgw 1067 (by decide +kernel) (by decide +kernel)
theorem wq_1068 : Cond.methodLink RX6 103 yX6_lengthOf ∈ gw := mgw 1068 (by decide +kernel) (by decide +kernel)
theorem wq_1070 : Cond.instanceMethod yX6_lengthOf ∈ gw := mgw 1070 (by decide +kernel) (by decide +kernel)
theorem wq_1071 : Cond.code yX6_lengthOf cX6_lengthOf 3 (some FieldType.int) ∈ gw := mgw 1071 (by decide +kernel) (by decide +kernel)
theorem wq_1072 : Cond.methodLink RL 33 yX6_off ∈ gw := mgw 1072 (by decide +kernel) (by decide +kernel)
theorem wq_1073 : Cond.instanceMethod yX6_off ∈ gw := mgw 1073 (by decide +kernel) (by decide +kernel)
theorem wq_1074 : Cond.selects RX6 yX6_off yX6_off ∈ gw := mgw 1074 (by decide +kernel) (by decide +kernel)
theorem wq_1075 : Cond.code yX6_off cX6_off 1 (some FieldType.boolean) ∈ gw := mgw 1075 (by decide +kernel) (by decide +kernel)
theorem wq_1076 : Cond.methodLink RL 37 yX6_power ∈ gw := mgw 1076 (by decide +kernel) (by decide +kernel)
theorem wq_1077 : Cond.instanceMethod yX6_power ∈ gw := mgw 1077 (by decide +kernel) (by decide +kernel)
theorem wq_1078 : Cond.selects RX6 yX6_power yX6_power ∈ gw := mgw 1078 (by decide +kernel) (by decide +kernel)
theorem wq_1079 : Cond.code yX6_power cX6_power 3 (some FieldType.boolean) ∈ gw := mgw 1079 (by decide +kernel) (by decide +kernel)
theorem wq_1080 : Cond.methodLink RL 42 yX6_rot ∈ gw := mgw 1080 (by decide +kernel) (by decide +kernel)
theorem wq_1081 : Cond.instanceMethod yX6_rot ∈ gw := mgw 1081 (by decide +kernel) (by decide +kernel)
theorem wq_1082 : Cond.selects RX6 yX6_rot yX6_rot ∈ gw := mgw 1082 (by decide +kernel) (by decide +kernel)
theorem wq_1083 : Cond.code yX6_rot cX6_rot 4 (some FieldType.int) ∈ gw := mgw 1083 (by decide +kernel) (by decide +kernel)
theorem wq_1084 : Cond.methodLink RX6 147 yX6_isSector ∈ gw := mgw 1084 (by decide +kernel) (by decide +kernel)
theorem wq_1086 : Cond.instanceMethod yX6_isSector ∈ gw := mgw 1086 (by decide +kernel) (by decide +kernel)
theorem wq_1087 : Cond.code yX6_isSector cX6_isSector 2 (some FieldType.boolean) ∈ gw := mgw 1087 (by decide +kernel) (by decide +kernel)
theorem wq_1088 : Cond.methodLink RL 46 yX6_set ∈ gw := mgw 1088 (by decide +kernel) (by decide +kernel)
theorem wq_1089 : Cond.instanceMethod yX6_set ∈ gw := mgw 1089 (by decide +kernel) (by decide +kernel)
theorem wq_1090 : Cond.selects RX6 yX6_set yX6_set ∈ gw := mgw 1090 (by decide +kernel) (by decide +kernel)
theorem wq_1091 : Cond.code yX6_set cX6_set 4 (some FieldType.int) ∈ gw := mgw 1091 (by decide +kernel) (by decide +kernel)
theorem wq_1092 : Cond.methodLink RX6 202 yX6_isSetting ∈ gw := mgw 1092 (by decide +kernel) (by decide +kernel)
theorem wq_1094 : Cond.instanceMethod yX6_isSetting ∈ gw := mgw 1094 (by decide +kernel) (by decide +kernel)
theorem wq_1095 : Cond.code yX6_isSetting cX6_isSetting 3 (some FieldType.boolean) ∈ gw := mgw 1095 (by decide +kernel) (by decide +kernel)
theorem wq_1096 : Cond.methodLink RX6 205 yX6_sets ∈ gw := mgw 1096 (by decide +kernel) (by decide +kernel)
theorem wq_1098 : Cond.instanceMethod yX6_sets ∈ gw := mgw 1098 (by decide +kernel) (by decide +kernel)
theorem wq_1099 : Cond.code yX6_sets cX6_sets 4 (some FieldType.int) ∈ gw := mgw 1099 (by decide +kernel) (by decide +kernel)
theorem wq_1100 : Cond.methodLink RX6 193 yX6_tells ∈ gw := mgw 1100 (by decide +kernel) (by decide +kernel)
theorem wq_1102 : Cond.instanceMethod yX6_tells ∈ gw := mgw 1102 (by decide +kernel) (by decide +kernel)
theorem wq_1103 : Cond.code yX6_tells cX6_tells 5 (some FieldType.int) ∈ gw := mgw 1103 (by decide +kernel) (by decide +kernel)
theorem wq_1104 : Cond.methodLink RX6 190 yX6_inChange ∈ gw := mgw 1104 (by decide +kernel) (by decide +kernel)
theorem wq_1106 : Cond.instanceMethod yX6_inChange ∈ gw := mgw 1106 (by decide +kernel) (by decide +kernel)
theorem wq_1107 : Cond.code yX6_inChange cX6_inChange 3 (some FieldType.int) ∈ gw := mgw 1107 (by decide +kernel) (by decide +kernel)
theorem wq_1108 : Cond.methodLink RX6 196 yX6_makesRoom ∈ gw := mgw 1108 (by decide +kernel) (by decide +kernel)
theorem wq_1110 : Cond.instanceMethod yX6_makesRoom ∈ gw := mgw 1110 (by decide +kernel) (by decide +kernel)
theorem wq_1111 : Cond.code yX6_makesRoom cX6_makesRoom 2 (some FieldType.boolean) ∈ gw := mgw 1111 (by decide +kernel) (by decide +kernel)
theorem wq_1112 : Cond.methodLink RX6 181 yX6_freeNow ∈ gw := mgw 1112 (by decide +kernel) (by decide +kernel)
theorem wq_1114 : Cond.instanceMethod yX6_freeNow ∈ gw := mgw 1114 (by decide +kernel) (by decide +kernel)
theorem wq_1115 : Cond.code yX6_freeNow cX6_freeNow 1 (some FieldType.int) ∈ gw := mgw 1115 (by decide +kernel) (by decide +kernel)
theorem wq_1116 : Cond.methodLink RX6 184 yX6_freeThen ∈ gw := mgw 1116 (by decide +kernel) (by decide +kernel)
theorem wq_1118 : Cond.instanceMethod yX6_freeThen ∈ gw := mgw 1118 (by decide +kernel) (by decide +kernel)
theorem wq_1119 : Cond.code yX6_freeThen cX6_freeThen 1 (some FieldType.int) ∈ gw := mgw 1119 (by decide +kernel) (by decide +kernel)
theorem wq_1120 : Cond.methodLink RX6 178 yX6_sizeNext ∈ gw := mgw 1120 (by decide +kernel) (by decide +kernel)
theorem wq_1122 : Cond.instanceMethod yX6_sizeNext ∈ gw := mgw 1122 (by decide +kernel) (by decide +kernel)
theorem wq_1123 : Cond.code yX6_sizeNext cX6_sizeNext 4 (some FieldType.int) ∈ gw := mgw 1123 (by decide +kernel) (by decide +kernel)
theorem wq_1124 : Cond.methodLink RX6 187 yX6_handsOver ∈ gw := mgw 1124 (by decide +kernel) (by decide +kernel)
theorem wq_1126 : Cond.instanceMethod yX6_handsOver ∈ gw := mgw 1126 (by decide +kernel) (by decide +kernel)
theorem wq_1127 : Cond.code yX6_handsOver cX6_handsOver 5 (none : Option FieldType) ∈ gw := mgw 1127 (by decide +kernel) (by decide +kernel)
theorem wq_1128 : Cond.constant RX6 166 (65536 : Int32) ∈ gw := mgw 1128 (by decide +kernel) (by decide +kernel)
theorem wq_1129 : Cond.methodLink RX6 167 yX6_valueOf ∈ gw := mgw 1129 (by decide +kernel) (by decide +kernel)
theorem wq_1131 : Cond.instanceMethod yX6_valueOf ∈ gw := mgw 1131 (by decide +kernel) (by decide +kernel)
theorem wq_1132 : Cond.code yX6_valueOf cX6_valueOf 4 (some FieldType.long) ∈ gw := mgw 1132 (by decide +kernel) (by decide +kernel)
theorem wq_1133 : Cond.methodLink RX6 94 yX6_number ∈ gw := mgw 1133 (by decide +kernel) (by decide +kernel)
theorem wq_1135 : Cond.instanceMethod yX6_number ∈ gw := mgw 1135 (by decide +kernel) (by decide +kernel)
theorem wq_1136 : Cond.code yX6_number cX6_number 7 (some FieldType.long) ∈ gw := mgw 1136 (by decide +kernel) (by decide +kernel)
theorem wq_1137 : Cond.methodLink RX6 98 yX6_zeros ∈ gw := mgw 1137 (by decide +kernel) (by decide +kernel)
theorem wq_1139 : Cond.instanceMethod yX6_zeros ∈ gw := mgw 1139 (by decide +kernel) (by decide +kernel)
theorem wq_1140 : Cond.code yX6_zeros cX6_zeros 5 (some FieldType.int) ∈ gw := mgw 1140 (by decide +kernel) (by decide +kernel)
theorem wq_1141 : Cond.methodLink RX6 89 yJ6_bitCount_0f7a4 ∈ gw := mgw 1141 (by decide +kernel) (by decide +kernel)
theorem wq_1142 : Cond.constantLong RX6 101 (-4 : Int64) ∈ gw := mgw 1142 (by decide +kernel) (by decide +kernel)
theorem wq_1143 : Cond.methodLink RX6 171 yX6_laysCounter ∈ gw := mgw 1143 (by decide +kernel) (by decide +kernel)
theorem wq_1145 : Cond.instanceMethod yX6_laysCounter ∈ gw := mgw 1145 (by decide +kernel) (by decide +kernel)
theorem wq_1146 : Cond.code yX6_laysCounter cX6_laysCounter 3 (none : Option FieldType) ∈ gw := mgw 1146 (by decide +kernel) (by decide +kernel)
theorem wq_1147 : Cond.methodLink RX6 160 yX6_lays ∈ gw := mgw 1147 (by decide +kernel) (by decide +kernel)
theorem wq_1149 : Cond.instanceMethod yX6_lays ∈ gw := mgw 1149 (by decide +kernel) (by decide +kernel)
theorem wq_1150 : Cond.code yX6_lays cX6_lays 2 (none : Option FieldType) ∈ gw := mgw 1150 (by decide +kernel) (by decide +kernel)
theorem wq_1151 : Cond.methodLink RX6 163 yX6_laysCheck ∈ gw := mgw 1151 (by decide +kernel) (by decide +kernel)
theorem wq_1153 : Cond.instanceMethod yX6_laysCheck ∈ gw := mgw 1153 (by decide +kernel) (by decide +kernel)
theorem wq_1154 : Cond.code yX6_laysCheck cX6_laysCheck 1 (none : Option FieldType) ∈ gw := mgw 1154 (by decide +kernel) (by decide +kernel)
theorem wq_1155 : Cond.methodLink RX6 174 yX6_laysSetting ∈ gw := mgw 1155 (by decide +kernel) (by decide +kernel)
theorem wq_1157 : Cond.instanceMethod yX6_laysSetting ∈ gw := mgw 1157 (by decide +kernel) (by decide +kernel)
theorem wq_1158 : Cond.code yX6_laysSetting cX6_laysSetting 7 (none : Option FieldType) ∈ gw := mgw 1158 (by decide +kernel) (by decide +kernel)
theorem wq_1159 : Cond.methodLink RX6 199 yX6_told ∈ gw := mgw 1159 (by decide +kernel) (by decide +kernel)
theorem wq_1161 : Cond.instanceMethod yX6_told ∈ gw := mgw 1161 (by decide +kernel) (by decide +kernel)
theorem wq_1162 : Cond.code yX6_told cX6_told 1 (some FieldType.int) ∈ gw := mgw 1162 (by decide +kernel) (by decide +kernel)
theorem wq_1163 : Cond.methodLink RL 51 yX6_drop ∈ gw := mgw 1163 (by decide +kernel) (by decide +kernel)
theorem wq_1164 : Cond.instanceMethod yX6_drop ∈ gw := mgw 1164 (by decide +kernel) (by decide +kernel)
theorem wq_1165 : Cond.selects RX6 yX6_drop yX6_drop ∈ gw := mgw 1165 (by decide +kernel) (by decide +kernel)
theorem wq_1166 : Cond.code yX6_drop cX6_drop 4 (some FieldType.int) ∈ gw := mgw 1166 (by decide +kernel) (by decide +kernel)
theorem wq_1167 : Cond.methodLink RL 55 yX6_bump ∈ gw := mgw 1167 (by decide +kernel) (by decide +kernel)
theorem wq_1168 : Cond.instanceMethod yX6_bump ∈ gw := mgw 1168 (by decide +kernel) (by decide +kernel)
theorem wq_1169 : Cond.selects RX6 yX6_bump yX6_bump ∈ gw := mgw 1169 (by decide +kernel) (by decide +kernel)
theorem wq_1170 : Cond.code yX6_bump cX6_bump 4 (some FieldType.int) ∈ gw := mgw 1170 (by decide +kernel) (by decide +kernel)
theorem wq_1171 : Cond.constant RX6 211 (16777215 : Int32) ∈ gw := mgw 1171 (by decide +kernel) (by decide +kernel)
theorem wq_1172 : Cond.methodLink RX6 212 yX6_goesUp ∈ gw := mgw 1172 (by decide +kernel) (by decide +kernel)
theorem wq_1174 : Cond.instanceMethod yX6_goesUp ∈ gw := mgw 1174 (by decide +kernel) (by decide +kernel)
theorem wq_1175 : Cond.code yX6_goesUp cX6_goesUp 5 (some FieldType.boolean) ∈ gw := mgw 1175 (by decide +kernel) (by decide +kernel)
theorem wq_1176 : Cond.methodLink RX6 208 yJ6_highestOneBit_0f7a4 ∈ gw := mgw 1176 (by decide +kernel) (by decide +kernel)
theorem wq_1177 : Cond.static yJ6_highestOneBit_0f7a4 ∈ gw := mgw 1177 (by decide +kernel) (by decide +kernel)
theorem wq_1178 : Cond.code yJ6_highestOneBit_0f7a4 cJ6_highestOneBit_0f7a4 1 (some FieldType.int) ∈ gw := mgw 1178 (by decide +kernel) (by decide +kernel)
theorem wq_1179 : Cond.constant RJ6 127 (-2147483648 : Int32) ∈ gw := mgw 1179 (by decide +kernel) (by decide +kernel)
theorem wq_1180 : Cond.methodLink RJ6 51 yJ6_numberOfLeadingZeros_0f7a4 ∈ gw := mgw 1180 (by decide +kernel) (by decide +kernel)
theorem wq_1181 : Cond.static yJ6_numberOfLeadingZeros_0f7a4 ∈ gw := mgw 1181 (by decide +kernel) (by decide +kernel)
theorem wq_1182 : Cond.code yJ6_numberOfLeadingZeros_0f7a4 cJ6_numberOfLeadingZeros_0f7a4 2 (some FieldType.int) ∈ gw := mgw 1182 (by decide +kernel) (by decide +kernel)
theorem wq_1183 : Cond.constant RJ6 264 (65536 : Int32) ∈ gw := mgw 1183 (by decide +kernel) (by decide +kernel)
theorem wq_1184 : Cond.methodLink RL 59 yX6_begin ∈ gw := mgw 1184 (by decide +kernel) (by decide +kernel)
theorem wq_1185 : Cond.instanceMethod yX6_begin ∈ gw := mgw 1185 (by decide +kernel) (by decide +kernel)
theorem wq_1186 : Cond.selects RX6 yX6_begin yX6_begin ∈ gw := mgw 1186 (by decide +kernel) (by decide +kernel)
theorem wq_1187 : Cond.code yX6_begin cX6_begin 1 (some FieldType.boolean) ∈ gw := mgw 1187 (by decide +kernel) (by decide +kernel)
theorem wq_1188 : Cond.methodLink RL 63 yX6_commit ∈ gw := mgw 1188 (by decide +kernel) (by decide +kernel)
theorem wq_1189 : Cond.instanceMethod yX6_commit ∈ gw := mgw 1189 (by decide +kernel) (by decide +kernel)
theorem wq_1190 : Cond.selects RX6 yX6_commit yX6_commit ∈ gw := mgw 1190 (by decide +kernel) (by decide +kernel)
theorem wq_1191 : Cond.code yX6_commit cX6_commit 3 (some FieldType.int) ∈ gw := mgw 1191 (by decide +kernel) (by decide +kernel)
theorem wq_1192 : Cond.methodLink RL 67 yX6_abort ∈ gw := mgw 1192 (by decide +kernel) (by decide +kernel)
theorem wq_1193 : Cond.instanceMethod yX6_abort ∈ gw := mgw 1193 (by decide +kernel) (by decide +kernel)
theorem wq_1194 : Cond.selects RX6 yX6_abort yX6_abort ∈ gw := mgw 1194 (by decide +kernel) (by decide +kernel)
theorem wq_1195 : Cond.code yX6_abort cX6_abort 1 (some FieldType.int) ∈ gw := mgw 1195 (by decide +kernel) (by decide +kernel)
theorem wq_1196 : Cond.methodLink RL 72 yX6_get ∈ gw := mgw 1196 (by decide +kernel) (by decide +kernel)
theorem wq_1197 : Cond.instanceMethod yX6_get ∈ gw := mgw 1197 (by decide +kernel) (by decide +kernel)
theorem wq_1198 : Cond.selects RX6 yX6_get yX6_get ∈ gw := mgw 1198 (by decide +kernel) (by decide +kernel)
theorem wq_1199 : Cond.code yX6_get cX6_get 2 (some FieldType.long) ∈ gw := mgw 1199 (by decide +kernel) (by decide +kernel)
theorem wq_1200 : Cond.methodLink RX6 215 yX6_isTag ∈ gw := mgw 1200 (by decide +kernel) (by decide +kernel)
theorem wq_1202 : Cond.instanceMethod yX6_isTag ∈ gw := mgw 1202 (by decide +kernel) (by decide +kernel)
theorem wq_1203 : Cond.code yX6_isTag cX6_isTag 2 (some FieldType.boolean) ∈ gw := mgw 1203 (by decide +kernel) (by decide +kernel)
theorem wq_1204 : Cond.methodLink RX6 218 yX6_valueNow ∈ gw := mgw 1204 (by decide +kernel) (by decide +kernel)
theorem wq_1206 : Cond.instanceMethod yX6_valueNow ∈ gw := mgw 1206 (by decide +kernel) (by decide +kernel)
theorem wq_1207 : Cond.code yX6_valueNow cX6_valueNow 2 (some FieldType.long) ∈ gw := mgw 1207 (by decide +kernel) (by decide +kernel)
theorem wq_1208 : Cond.constantLong RX6 222 (-1 : Int64) ∈ gw := mgw 1208 (by decide +kernel) (by decide +kernel)
theorem wq_1209 : Cond.methodLink RL 76 yX6_length ∈ gw := mgw 1209 (by decide +kernel) (by decide +kernel)
theorem wq_1210 : Cond.instanceMethod yX6_length ∈ gw := mgw 1210 (by decide +kernel) (by decide +kernel)
theorem wq_1211 : Cond.selects RX6 yX6_length yX6_length ∈ gw := mgw 1211 (by decide +kernel) (by decide +kernel)
theorem wq_1212 : Cond.code yX6_length cX6_length 2 (some FieldType.int) ∈ gw := mgw 1212 (by decide +kernel) (by decide +kernel)
theorem wq_1213 : Cond.methodLink RL 80 yX6_hand ∈ gw := mgw 1213 (by decide +kernel) (by decide +kernel)
theorem wq_1214 : Cond.instanceMethod yX6_hand ∈ gw := mgw 1214 (by decide +kernel) (by decide +kernel)
theorem wq_1215 : Cond.selects RX6 yX6_hand yX6_hand ∈ gw := mgw 1215 (by decide +kernel) (by decide +kernel)
theorem wq_1216 : Cond.code yX6_hand cX6_hand 1 (some FieldType.int) ∈ gw := mgw 1216 (by decide +kernel) (by decide +kernel)
theorem wq_1217 : Cond.methodLink RL 86 yX6_at ∈ gw := mgw 1217 (by decide +kernel) (by decide +kernel)
theorem wq_1218 : Cond.instanceMethod yX6_at ∈ gw := mgw 1218 (by decide +kernel) (by decide +kernel)
theorem wq_1219 : Cond.selects RX6 yX6_at yX6_at ∈ gw := mgw 1219 (by decide +kernel) (by decide +kernel)
theorem wq_1220 : Cond.code yX6_at cX6_at 3 (some FieldType.int) ∈ gw := mgw 1220 (by decide +kernel) (by decide +kernel)
theorem wq_1221 : Cond.methodLink RL 90 yX6_sector ∈ gw := mgw 1221 (by decide +kernel) (by decide +kernel)
theorem wq_1222 : Cond.instanceMethod yX6_sector ∈ gw := mgw 1222 (by decide +kernel) (by decide +kernel)
theorem wq_1223 : Cond.selects RX6 yX6_sector yX6_sector ∈ gw := mgw 1223 (by decide +kernel) (by decide +kernel)
theorem wq_1224 : Cond.code yX6_sector cX6_sector 3 (some FieldType.int) ∈ gw := mgw 1224 (by decide +kernel) (by decide +kernel)
theorem wq_1225 : Cond.methodLink RL 94 yX6_entry ∈ gw := mgw 1225 (by decide +kernel) (by decide +kernel)
theorem wq_1226 : Cond.instanceMethod yX6_entry ∈ gw := mgw 1226 (by decide +kernel) (by decide +kernel)
theorem wq_1227 : Cond.selects RX6 yX6_entry yX6_entry ∈ gw := mgw 1227 (by decide +kernel) (by decide +kernel)
theorem wq_1228 : Cond.code yX6_entry cX6_entry 4 (some FieldType.int) ∈ gw := mgw 1228 (by decide +kernel) (by decide +kernel)
theorem wq_1229 : Cond.methodLink RL 98 yX6_space ∈ gw := mgw 1229 (by decide +kernel) (by decide +kernel)
theorem wq_1230 : Cond.instanceMethod yX6_space ∈ gw := mgw 1230 (by decide +kernel) (by decide +kernel)
theorem wq_1231 : Cond.selects RX6 yX6_space yX6_space ∈ gw := mgw 1231 (by decide +kernel) (by decide +kernel)
theorem wq_1232 : Cond.code yX6_space cX6_space 6 (some FieldType.int) ∈ gw := mgw 1232 (by decide +kernel) (by decide +kernel)
theorem wq_1233 : Cond.methodLink RL 102 yX6_until ∈ gw := mgw 1233 (by decide +kernel) (by decide +kernel)
theorem wq_1234 : Cond.instanceMethod yX6_until ∈ gw := mgw 1234 (by decide +kernel) (by decide +kernel)
theorem wq_1235 : Cond.selects RX6 yX6_until yX6_until ∈ gw := mgw 1235 (by decide +kernel) (by decide +kernel)
theorem wq_1236 : Cond.code yX6_until cX6_until 2 (some FieldType.int) ∈ gw := mgw 1236 (by decide +kernel) (by decide +kernel)
theorem wq_1237 : Cond.methodLink RL 106 yX6_after ∈ gw := mgw 1237 (by decide +kernel) (by decide +kernel)
theorem wq_1238 : Cond.instanceMethod yX6_after ∈ gw := mgw 1238 (by decide +kernel) (by decide +kernel)
theorem wq_1239 : Cond.selects RX6 yX6_after yX6_after ∈ gw := mgw 1239 (by decide +kernel) (by decide +kernel)
theorem wq_1240 : Cond.code yX6_after cX6_after 1 (some FieldType.int) ∈ gw := mgw 1240 (by decide +kernel) (by decide +kernel)
theorem wq_1241 : Cond.methodLink RL 110 yX6_costs ∈ gw := mgw 1241 (by decide +kernel) (by decide +kernel)
theorem wq_1242 : Cond.instanceMethod yX6_costs ∈ gw := mgw 1242 (by decide +kernel) (by decide +kernel)
theorem wq_1243 : Cond.selects RX6 yX6_costs yX6_costs ∈ gw := mgw 1243 (by decide +kernel) (by decide +kernel)
theorem wq_1244 : Cond.code yX6_costs cX6_costs 2 (some FieldType.int) ∈ gw := mgw 1244 (by decide +kernel) (by decide +kernel)
theorem wq_1245 : Cond.methodLink RX6 230 yX6_wouldCost ∈ gw := mgw 1245 (by decide +kernel) (by decide +kernel)
theorem wq_1247 : Cond.instanceMethod yX6_wouldCost ∈ gw := mgw 1247 (by decide +kernel) (by decide +kernel)
theorem wq_1248 : Cond.code yX6_wouldCost cX6_wouldCost 3 (some FieldType.int) ∈ gw := mgw 1248 (by decide +kernel) (by decide +kernel)
theorem wq_1249 : Cond.methodLink RX6 224 yX6_putsAside ∈ gw := mgw 1249 (by decide +kernel) (by decide +kernel)
theorem wq_1251 : Cond.instanceMethod yX6_putsAside ∈ gw := mgw 1251 (by decide +kernel) (by decide +kernel)
theorem wq_1252 : Cond.code yX6_putsAside cX6_putsAside 2 (none : Option FieldType) ∈ gw := mgw 1252 (by decide +kernel) (by decide +kernel)
theorem wq_1253 : Cond.methodLink RX6 227 yX6_putsBack ∈ gw := mgw 1253 (by decide +kernel) (by decide +kernel)
theorem wq_1255 : Cond.instanceMethod yX6_putsBack ∈ gw := mgw 1255 (by decide +kernel) (by decide +kernel)
theorem wq_1256 : Cond.code yX6_putsBack cX6_putsBack 2 (none : Option FieldType) ∈ gw := mgw 1256 (by decide +kernel) (by decide +kernel)
theorem wq_1257 : Cond.methodLink RL 115 yX6_torn ∈ gw := mgw 1257 (by decide +kernel) (by decide +kernel)
theorem wq_1258 : Cond.instanceMethod yX6_torn ∈ gw := mgw 1258 (by decide +kernel) (by decide +kernel)
theorem wq_1259 : Cond.selects RX6 yX6_torn yX6_torn ∈ gw := mgw 1259 (by decide +kernel) (by decide +kernel)
theorem wq_1260 : Cond.code yX6_torn cX6_torn 11 (some FieldType.long) ∈ gw := mgw 1260 (by decide +kernel) (by decide +kernel)
theorem wq_1261 : Cond.methodLink RL 120 yX6_history ∈ gw := mgw 1261 (by decide +kernel) (by decide +kernel)
theorem wq_1262 : Cond.instanceMethod yX6_history ∈ gw := mgw 1262 (by decide +kernel) (by decide +kernel)
theorem wq_1263 : Cond.selects RX6 yX6_history yX6_history ∈ gw := mgw 1263 (by decide +kernel) (by decide +kernel)
theorem wq_1264 : Cond.code yX6_history cX6_history 6 (some FieldType.long) ∈ gw := mgw 1264 (by decide +kernel) (by decide +kernel)
theorem wq_1265 : Cond.methodLink RX6 233 yX6_isOf ∈ gw := mgw 1265 (by decide +kernel) (by decide +kernel)
theorem wq_1267 : Cond.instanceMethod yX6_isOf ∈ gw := mgw 1267 (by decide +kernel) (by decide +kernel)
theorem wq_1268 : Cond.code yX6_isOf cX6_isOf 4 (some FieldType.boolean) ∈ gw := mgw 1268 (by decide +kernel) (by decide +kernel)
theorem wq_1269 : Cond.constantLong RX6 236 (-5 : Int64) ∈ gw := mgw 1269 (by decide +kernel) (by decide +kernel)
theorem wq_1270 : Cond.methodLink RL 124 yX6_wears ∈ gw := mgw 1270 (by decide +kernel) (by decide +kernel)
theorem wq_1271 : Cond.instanceMethod yX6_wears ∈ gw := mgw 1271 (by decide +kernel) (by decide +kernel)
theorem wq_1272 : Cond.selects RX6 yX6_wears yX6_wears ∈ gw := mgw 1272 (by decide +kernel) (by decide +kernel)
theorem wq_1273 : Cond.code yX6_wears cX6_wears 7 (some FieldType.int) ∈ gw := mgw 1273 (by decide +kernel) (by decide +kernel)
theorem wq_1274 : Cond.methodLink RX6 238 yX6_extreme ∈ gw := mgw 1274 (by decide +kernel) (by decide +kernel)
theorem wq_1276 : Cond.instanceMethod yX6_extreme ∈ gw := mgw 1276 (by decide +kernel) (by decide +kernel)
theorem wq_1277 : Cond.code yX6_extreme cX6_extreme 4 (some FieldType.int) ∈ gw := mgw 1277 (by decide +kernel) (by decide +kernel)
theorem wq_1278 : Cond.methodLink RL 128 yX6_wear ∈ gw := mgw 1278 (by decide +kernel) (by decide +kernel)
theorem wq_1279 : Cond.instanceMethod yX6_wear ∈ gw := mgw 1279 (by decide +kernel) (by decide +kernel)
theorem wq_1280 : Cond.selects RX6 yX6_wear yX6_wear ∈ gw := mgw 1280 (by decide +kernel) (by decide +kernel)
theorem wq_1281 : Cond.code yX6_wear cX6_wear 2 (some FieldType.int) ∈ gw := mgw 1281 (by decide +kernel) (by decide +kernel)
theorem wq_1282 : Cond.methodLink RX6 242 yX6_erasesOfAll ∈ gw := mgw 1282 (by decide +kernel) (by decide +kernel)
theorem wq_1284 : Cond.instanceMethod yX6_erasesOfAll ∈ gw := mgw 1284 (by decide +kernel) (by decide +kernel)
theorem wq_1285 : Cond.code yX6_erasesOfAll cX6_erasesOfAll 3 (some FieldType.int) ∈ gw := mgw 1285 (by decide +kernel) (by decide +kernel)
theorem wq_1286 : Cond.methodLink RX6 245 yJxf58ca_floatToIntBits_5c35a ∈ gw := mgw 1286 (by decide +kernel) (by decide +kernel)
theorem wq_1287 : Cond.static yJxf58ca_floatToIntBits_5c35a ∈ gw := mgw 1287 (by decide +kernel) (by decide +kernel)
theorem wq_1288 : Cond.code yJxf58ca_floatToIntBits_5c35a cJxf58ca_floatToIntBits_5c35a 1 (some FieldType.int) ∈ gw := mgw 1288 (by decide +kernel) (by decide +kernel)
theorem wq_1289 : Cond.methodLink RJxf58ca 59 yJxf58ca_isNaN_12338 ∈ gw := mgw 1289 (by decide +kernel) (by decide +kernel)
theorem wq_1290 : Cond.static yJxf58ca_isNaN_12338 ∈ gw := mgw 1290 (by decide +kernel) (by decide +kernel)
theorem wq_1291 : Cond.code yJxf58ca_isNaN_12338 cJxf58ca_isNaN_12338 1 (some FieldType.boolean) ∈ gw := mgw 1291 (by decide +kernel) (by decide +kernel)
theorem wq_1292 : Cond.methodLink RJxf58ca 74 ⟨RJxf58ca, "floatToRawIntBits", "(F)I"⟩ ∈ gw := mgw 1292 (by decide +kernel) (by decide +kernel)
theorem wq_1293 : Cond.static ⟨RJxf58ca, "floatToRawIntBits", "(F)I"⟩ ∈ gw := mgw 1293 (by decide +kernel) (by decide +kernel)
theorem wq_1294 : Cond.native ⟨RJxf58ca, "floatToRawIntBits", "(F)I"⟩ ∈ gw := mgw 1294 (by decide +kernel) (by decide +kernel)
theorem wq_1295 : Cond.constant RJxf58ca 77 (2143289344 : Int32) ∈ gw := mgw 1295 (by decide +kernel) (by decide +kernel)
theorem wq_1296 : Cond.methodLink RL 133 yX6_tags ∈ gw := mgw 1296 (by decide +kernel) (by decide +kernel)
theorem wq_1297 : Cond.instanceMethod yX6_tags ∈ gw := mgw 1297 (by decide +kernel) (by decide +kernel)
theorem wq_1298 : Cond.selects RX6 yX6_tags yX6_tags ∈ gw := mgw 1298 (by decide +kernel) (by decide +kernel)
theorem wq_1299 : Cond.code yX6_tags cX6_tags 4 (some FieldType.long) ∈ gw := mgw 1299 (by decide +kernel) (by decide +kernel)
theorem wq_1300 : Cond.methodLink RL 137 yX6_count ∈ gw := mgw 1300 (by decide +kernel) (by decide +kernel)
theorem wq_1301 : Cond.instanceMethod yX6_count ∈ gw := mgw 1301 (by decide +kernel) (by decide +kernel)
theorem wq_1302 : Cond.selects RX6 yX6_count yX6_count ∈ gw := mgw 1302 (by decide +kernel) (by decide +kernel)
theorem wq_1303 : Cond.code yX6_count cX6_count 2 (some FieldType.int) ∈ gw := mgw 1303 (by decide +kernel) (by decide +kernel)
theorem wq_1304 : Cond.arrayClass Jvm.ClassFile.FieldType.long ∈ gw := mgw 1304 (by decide +kernel) (by decide +kernel)
end
section
/-! the kit of this proof: words, worlds, a row for each field and array, calls -/
theorem inG0 : ∀ w ∈ u_ws RX0 TX0 5, w ∈ gw := by decide +kernel
theorem inG1 : ∀ w ∈ u_ws RX1 TX1 10, w ∈ gw := by decide +kernel
theorem inG2 : ∀ w ∈ u_ws RX2 TX2 3, w ∈ gw := by decide +kernel
theorem inG3 : ∀ w ∈ u_ws RX3 TX3 11, w ∈ gw := by decide +kernel
theorem inG4 : ∀ w ∈ u_ws RX4 TX4 7, w ∈ gw := by decide +kernel
theorem inG5 : ∀ w ∈ u_ws RX5 TX5 2, w ∈ gw := by decide +kernel
theorem inG6 : ∀ w ∈ u_ws RX6 TX6 15, w ∈ gw := by decide +kernel
def NW (U : State) : Prop := ∀ w ∈ nw, va_Nw w U
theorem nestTab {w : Cond} (h : isNest w = true) : w.onTables = true := by
  cases w <;> first | rfl | (simp [isNest] at h)
theorem NW.warm {s U : State} (hW : s.WarmedH U.vm) (h : NW s) : NW U := by
  intro w hw
  have h1 := h w hw
  have h2 := (List.mem_filter.mp hw).2
  cases w <;> first | exact va_Nw.warmF hW h1 | exact va_Nw.warmM hW h1 | (simp [isNest] at h2)
theorem NW.same {u U : State} (hv : u.vm = U.vm) (h : NW u) : NW U := fun w hw => va_Nw.same (nestTab (List.mem_filter.mp hw).2) hv (h w hw)
theorem NW.of {A : Array Value} {s : State} (h : ∀ w ∈ lw_tbl, w.before A s = true) : NW s := fun w hw => va_Nw.of (nestTab (List.mem_filter.mp hw).2) (h w (List.mem_filter.mp hw).1)
theorem NW.use {s : State} (h : NW s) {A : Array Value} {w : Cond} (hw : w ∈ nw) : w.before A s = true := va_Nw.use (nestTab (List.mem_filter.mp hw).2) (h w hw)
def wy (y : MethodName) (bytes : ByteArray) (maxL : Nat) (ret : Option FieldType) : List Cond := .code y bytes maxL ret :: gw
theorem gwGood {y : MethodName} {bytes : ByteArray} {maxL : Nat} {ret : Option FieldType} (h : Cond.code y bytes maxL ret ∈ gw) : GoodIn gw (wy y bytes maxL ret) := by
  intro w hw
  have hm : w ∈ gw := by
    rcases List.mem_cons.mp hw with rfl | h1
    · exact h
    · exact h1
  exact ⟨hm, good_of_word (List.mem_filter.mp hm).2⟩
def updA (μ : Nat → Nat → Int32) (k : Nat) (f : Nat → Int32) : Nat → Nat → Int32 := fun j => if j = k then f else μ j
def apt (n : Nat) (Ad : Nat → Nat) : Prop := ∀ i j, i < n → j < n → Ad i = Ad j → i = j
def AS (n : Nat) (Ad : Nat → Nat) : Nat → Prop := fun q => ∃ k, k < n ∧ q = Ad k
def ofR (n : Nat) (Ad : Nat → Nat) (ws : va_W) : Prop := ws.map Prod.fst = (List.range n).map Ad
theorem ofR.at {n : Nat} {Ad : Nat → Nat} {ws : va_W} (h : ofR n Ad ws) {k : Nat} {q : Nat × va_E} (hk : ws[k]? = some q) : k < n ∧ q.1 = Ad k := by
  have h1 : (ws.map Prod.fst)[k]? = some q.1 := by rw [List.getElem?_map, hk]; rfl
  rw [h, List.getElem?_map] at h1
  cases h2 : (List.range n)[k]? with
  | none => rw [h2] at h1; cases h1
  | some j =>
    obtain ⟨g1, g2⟩ := List.getElem?_eq_some_iff.mp h2
    rw [List.getElem_range] at g2
    subst g2
    rw [h2] at h1
    rw [List.length_range] at g1
    exact ⟨g1, (Option.some.inj h1).symm⟩
theorem dW {n : Nat} {Ad : Nat → Nat} {ws : va_W} (h : ofR n Ad ws) (hA : apt n Ad) : va_D (AS n Ad) ws :=
  ⟨fun i j p q hi hj e => hA i j (h.at hi).1 (h.at hj).1 ((h.at hi).2.symm.trans (e.trans (h.at hj).2)), fun k q hk => ⟨k, (h.at hk).1, (h.at hk).2⟩⟩
theorem keepW {n : Nat} {Ad : Nat → Nat} {D : va_G} {cl : List vw_C} {ws : va_W} {H H1 : Heap} {A : Nat → Prop} (h : ofR n Ad ws) (hA : ∀ k, k < n → ¬ A (Ad k)) (hP : va_P D cl ws H) (hk : ∀ q : Nat, q < H.size → ¬ A q → H1[q]? = H[q]?) : va_P D cl ws H1 :=
  hP.kept fun k q hq => hk q.1 (hP k q hq).lt (by rw [(h.at hq).2]; exact hA k (h.at hq).1)
abbrev Rg : Type := Nat → Int32
abbrev Ar : Type := Nat → Nat → Int32
def bz (v : Int32) : Prop := v = 0 ∨ v = 1
theorem bz_n {v : Int32} (h : bz v) : narrow .boolean (.int v) = .int v := by rcases h with rfl | rfl <;> decide
theorem bz_f {v : Int32} (h : bz v) : fits .boolean (.int v) = true := by rcases h with rfl | rfl <;> decide
theorem bz0 : bz 0 := Or.inl rfl
theorem bz1 : bz 1 := Or.inr rfl
/-- a contract: any worlds before, any behind; nothing is made -/
abbrev Pcg (D : va_G) (tys : List (ClassId × FieldType)) (Pre : Heap → Prop) (av : List Value) : Array Value → State → Prop := va_Pc av (fun U => Pre U.heap ∧ va_K D vwCl tys U ∧ NW U)
abbrev Qcg (Post : Option Value → Heap → Prop) (A : Nat → Prop) : Array Value → State → Outcome → State → Prop := fun _ st oc t => (∃ v, oc = .returned v ∧ Post v t.heap) ∧ va_F A st t
def Ct (l : Launch) (y : MethodName) (bytes : ByteArray) (maxL : Nat) (ret : Option FieldType) (rm : Room) (D : va_G) (tys : List (ClassId × FieldType)) (Pre : Heap → Prop) (av : List Value) (A : Nat → Prop) (Post : Option Value → Heap → Prop) : Prop :=
  Met l y (wy y bytes maxL ret) rm (Pcg D tys Pre av) (Qcg Post A) 0 0 A
/-- what a body knows -/
def Cx (p : Program) (s : State) (m : MethodId) (args : Array Value) (meth : Method) (c : Code) (own : String) (cc : ByteArray) (nL : Nat) (ret : Option FieldType) (D : va_G) (tys : List (ClassId × FieldType)) : Prop :=
  p.tables.exec = Jvm.exec ∧ c.code = cc ∧ c.maxLocals = nL ∧ s.vm.findClass own = some m.cls ∧ meth.sig.returnType = ret ∧ meth.locks = false ∧ (∀ w ∈ gw, w.before args s = true) ∧ va_K D vwCl tys s ∧ NW s
theorem Ct.of {l : Launch} {y : MethodName} {bytes : ByteArray} {maxL : Nat} {ret : Option FieldType} {rm : Room} {D : va_G} {tys : List (ClassId × FieldType)} {Pre : Heap → Prop} {av : List Value} {A : Nat → Prop} {Post : Option Value → Heap → Prop}
    (hy : plainName y.cls = true) (hn : (lg_sl av).length ≤ maxL)
    (body : ∀ p e s m below meth c ls, Cx p s m av.toArray meth c y.cls bytes maxL ret D tys → Pre s.heap → lv_has ls maxL (lv_args 0 av) → W p l e rm s m av.toArray below meth c s.heap [] 0 0 (MQ below (Qcg Post A) av.toArray s 0 0 A) (F0 m 0 ls [])) : Ct l y bytes maxL ret rm D tys Pre av A Post := by
  refine Met.ofW (cc := bytes) (maxL := maxL) (ret := ret) hy rfl ?_
  intro p e s m args below meth c s₁ B hml hv
  obtain ⟨rfl, hP, hK, hN⟩ := hv
  have hts := atoms_spec (ws := wy y bytes maxL ret) B.pre
  have hl := lv_entry av (n := maxL) hn
  rw [lg_entry_eq]
  exact body p e s m below meth c _ ⟨B.exec, B.bytes, hml, findClass_of_methodNamed B.named, B.returns, B.notSynchronized, fun w h => hts w (List.mem_cons_of_mem _ h), hK, hN⟩ hP hl

section KIT
variable {p : Program} {l : Launch} {e : Env} {R : Room} {s : State} {m : MethodId} {args : Array Value} {below : List Frame} {meth : Method} {c : Code} {H : Heap} {locs : List Loc} {cells slots : Nat} {Q : State → Prop}
variable {own : String} {nL : Nat} {ret : Option FieldType} {cc : ByteArray} {pc : Nat} {ls : Array Slot} {rest st0 : List Value} {D : va_G} {cy : ClassId} {Ad : Nat → Nat} {σ : Rg} {μ : Ar} {H0 : Heap} {A : Nat → Prop} {tys : List (ClassId × FieldType)}
theorem kcG {y : MethodName} {bytes : ByteArray} {maxL : Nat} {ret : Option FieldType} {rm : Room} {Pre : Heap → Prop} {av : List Value} {A1 : Nat → Prop} {Post : Option Value → Heap → Prop} (hM : Ct l y bytes maxL ret rm D tys Pre av A1 Post)
    (run : Met l y (wy y bytes maxL ret) rm (Pcg D tys Pre av) (Qcg Post A1) 0 0 A1 → va_Run p l e R s m args below meth c H locs cells slots 0 0 (F0 m pc ls st0) rest ((Qcg Post A1) av.toArray) A1)
    (hS : va_S A H0 H locs) (hA : ∀ q, A1 q → A q)
    (kk : ∀ (v : Option Value) (H1 : Heap) (locs1 : List Loc), Post v H1 → H.size ≤ H1.size → (∀ q : Nat, q < H.size → ¬ A1 q → H1[q]? = H[q]?) → va_S A H0 H1 locs1 → W p l e R s m args below meth c H1 locs1 cells slots Q (F0 m (pc + 3) ls (v.toList ++ rest))) : W p l e R s m args below meth c H locs cells slots Q (F0 m pc ls st0) := by
  intro T hT X
  obtain ⟨v, st₀, t, T', L, h0, X', hL, e1, e2, ⟨⟨v', hv, hp⟩, hz, hk⟩, st⟩ := run hM T hT X
  cases hv
  rw [h0] at hz hk
  obtain ⟨t2, a1, b1⟩ := kk v T'.heap (locs ++ L) (by rw [e1]; exact hp) (by rw [e1]; exact hz) (fun q h1 h2 => by rw [e1]; exact hk q h1 h2)
    ⟨Nat.le_trans hS.1 (by rw [e1]; exact hz), fun q h1 h2 => by rw [e1, hk q (Nat.lt_of_lt_of_le h1 hS.1) (fun z => h2 (hA q z))]; exact hS.2.1 q h1 h2, fun q hq => by
      rcases List.mem_append.mp hq with h | h
      · exact hS.2.2 q h
      · exact hA _ (hL q h)⟩ T' rfl X'
  exact ⟨t2, st t2 a1, b1⟩
theorem preBlind {Pre : Heap → Prop} {av : List Value} : FrameBlind (Pcg D tys Pre av) := fun a U g mk h => ⟨h.1, h.2.1, va_K.moved (u := U) (U := U.calling g mk a) (Vm.Alike.refl U.vm) h.2.2.1, NW.same (u := U) (U := U.calling g mk a) rfl h.2.2.2⟩
theorem preAt {Pre : Heap → Prop} {av : List Value} (hK : va_K D vwCl tys s) (hN : NW s) (hP : Pre H) : ∀ U : State, U.heap = H → s.WarmedH U.vm → Pcg D tys Pre av av.toArray U := fun U hU hW => ⟨rfl, by rw [hU]; exact hP, va_K.moved hW.alike hK, hN.warm hW⟩
/-- what is known of a method of an object by its name -/
def Yv (y : MethodName) (bytes : ByteArray) (maxL : Nat) (ret : Option FieldType) (n : Nat) : Prop := Cond.code y bytes maxL ret ∈ gw ∧ Cond.instanceMethod y ∈ gw ∧ Cond.selects y.cls y y ∈ gw ∧ Cond.initialized y.cls ∈ gw ∧ (y.cls ≠ "java/lang/invoke/MethodHandle" ∧ y.cls ≠ "java/lang/invoke/VarHandle" ∧ (parseMethodDescriptor y.desc).map (fun d => d.parameters.length) = some n)
def Ys (y : MethodName) (bytes : ByteArray) (maxL : Nat) (ret : Option FieldType) (n : Nat) : Prop := Cond.code y bytes maxL ret ∈ gw ∧ Cond.static y ∈ gw ∧ Cond.initialized y.cls ∈ gw ∧ (y.cls ≠ "java/lang/invoke/MethodHandle" ∧ y.cls ≠ "java/lang/invoke/VarHandle" ∧ (parseMethodDescriptor y.desc).map (fun d => d.parameters.length) = some n)
/-- a call of a method of an object, of the own class -/
theorem kcV {own : String} {index : Nat} {ret0 : Option FieldType} {y : MethodName} {bytes : ByteArray} {maxL nL n : Nat} {ret : Option FieldType} {rm : Room} {Pre : Heap → Prop} {b : Nat} (As : List Value) {A1 : Nat → Prop} {Post : Option Value → Heap → Prop}
    (C : Cx p s m args meth c own cc nL ret0 D tys) (hM : Ct l y bytes maxL ret rm D tys Pre (.ref b :: As) A1 Post) (hy : Yv y bytes maxL ret n) (hl : Cond.methodLink own index y ∈ gw) (hrc : rm.cells = 0 ∧ rm.slots = 0)
    (hR : rm.frames + 1 ≤ R.frames ∧ 8 + (maxL + 11) + rm.locals ≤ R.locals) (hcs : cells ≤ R.cells ∧ slots ≤ R.slots) (hrecv : ∃ cellB : Cell, H[b]? = some cellB ∧ cellB.vm.isStatics = false ∧ s.vm.findClass y.cls = some cellB.cls)
    (hP : Pre H) (hS : va_S A H0 H locs) (hA : ∀ q, A1 q → A q) (hsz : ls.size = nL) (hn : As.length = n) (hst : st0 = As.reverse ++ .ref b :: rest) (hW : (rest.map fun v => v.category).sum ≤ 8) (hdg : decode cc pc = .ok (.invokevirtual index, 3))
    (kk : ∀ (v : Option Value) (H1 : Heap) (locs1 : List Loc), Post v H1 → H.size ≤ H1.size → (∀ q : Nat, q < H.size → ¬ A1 q → H1[q]? = H[q]?) → va_S A H0 H1 locs1 → W p l e R s m args below meth c H1 locs1 cells slots Q (F0 m (pc + 3) ls (v.toList ++ rest))) : W p l e R s m args below meth c H locs cells slots Q (F0 m pc ls st0) := by
  obtain ⟨hx, hb, hml, hown, hr, hlk, hts, hK, hN⟩ := C
  obtain ⟨y1, y2, y3, y4, y5⟩ := hy
  refine kcG hM (fun hM => va_runV (As := As) (rest := rest) (Ts := gw) ⟨hx, hb, hml, hown, hts⟩ hM ⟨callB_of n hts (gwGood y1) rfl hrc.1 hrc.2 (hts _ y4) (hts _ hl) y5 hR, hts _ y2, hts _ y3⟩ ⟨preBlind, hrecv, preAt hK hN hP⟩ rfl hn hsz hst (lv_room hW) hdg hcs) hS hA kk
/-- the same of a nest mate's private method -/
theorem kcVN {own host : String} {index : Nat} {ret0 : Option FieldType} {y : MethodName} {bytes : ByteArray} {maxL nL n : Nat} {ret : Option FieldType} {rm : Room} {Pre : Heap → Prop} {b : Nat} (As : List Value) {A1 : Nat → Prop} {Post : Option Value → Heap → Prop}
    (C : Cx p s m args meth c own cc nL ret0 D tys) (hM : Ct l y bytes maxL ret rm D tys Pre (.ref b :: As) A1 Post) (hy : Yv y bytes maxL ret n) (hl : Cond.methodLinkNest own index y host ∈ nw) (hrc : rm.cells = 0 ∧ rm.slots = 0)
    (hR : rm.frames + 1 ≤ R.frames ∧ 8 + (maxL + 11) + rm.locals ≤ R.locals) (hcs : cells ≤ R.cells ∧ slots ≤ R.slots) (hrecv : ∃ cellB : Cell, H[b]? = some cellB ∧ cellB.vm.isStatics = false ∧ s.vm.findClass y.cls = some cellB.cls)
    (hP : Pre H) (hS : va_S A H0 H locs) (hA : ∀ q, A1 q → A q) (hsz : ls.size = nL) (hn : As.length = n) (hst : st0 = As.reverse ++ .ref b :: rest) (hW : (rest.map fun v => v.category).sum ≤ 8) (hdg : decode cc pc = .ok (.invokevirtual index, 3))
    (kk : ∀ (v : Option Value) (H1 : Heap) (locs1 : List Loc), Post v H1 → H.size ≤ H1.size → (∀ q : Nat, q < H.size → ¬ A1 q → H1[q]? = H[q]?) → va_S A H0 H1 locs1 → W p l e R s m args below meth c H1 locs1 cells slots Q (F0 m (pc + 3) ls (v.toList ++ rest))) : W p l e R s m args below meth c H locs cells slots Q (F0 m pc ls st0) := by
  obtain ⟨hx, hb, hml, hown, hr, hlk, hts, hK, hN⟩ := C
  obtain ⟨y1, y2, y3, y4, y5⟩ := hy
  refine kcG hM (fun hM => va_runVN (As := As) (rest := rest) (Ts := gw) ⟨hx, hb, hml, hown, hts⟩ hM ⟨va_cnB n hts (gwGood y1) rfl hrc.1 hrc.2 (hN _ hl) (hts _ y4) y5 hR, hts _ y2, hts _ y3⟩ ⟨preBlind, hrecv, preAt hK hN hP⟩ rfl hn hsz hst (lv_room hW) hdg hcs) hS hA kk
/-- a static method of the own class -/
theorem kcS {own : String} {index : Nat} {ret0 : Option FieldType} {y : MethodName} {bytes : ByteArray} {maxL nL n : Nat} {ret : Option FieldType} {rm : Room} {Pre : Heap → Prop} (As : List Value) {A1 : Nat → Prop} {Post : Option Value → Heap → Prop}
    (C : Cx p s m args meth c own cc nL ret0 D tys) (hM : Ct l y bytes maxL ret rm D tys Pre As A1 Post) (hy : Ys y bytes maxL ret n) (hl : Cond.methodLink own index y ∈ gw) (hrc : rm.cells = 0 ∧ rm.slots = 0)
    (hR : rm.frames + 1 ≤ R.frames ∧ 8 + (maxL + 11) + rm.locals ≤ R.locals) (hcs : cells ≤ R.cells ∧ slots ≤ R.slots)
    (hP : Pre H) (hS : va_S A H0 H locs) (hA : ∀ q, A1 q → A q) (hsz : ls.size = nL) (hn : As.length = n) (hst : st0 = As.reverse ++ rest) (hW : (rest.map fun v => v.category).sum ≤ 8) (hdg : decode cc pc = .ok (.invokestatic index, 3))
    (kk : ∀ (v : Option Value) (H1 : Heap) (locs1 : List Loc), Post v H1 → H.size ≤ H1.size → (∀ q : Nat, q < H.size → ¬ A1 q → H1[q]? = H[q]?) → va_S A H0 H1 locs1 → W p l e R s m args below meth c H1 locs1 cells slots Q (F0 m (pc + 3) ls (v.toList ++ rest))) : W p l e R s m args below meth c H locs cells slots Q (F0 m pc ls st0) := by
  obtain ⟨hx, hb, hml, hown, hr, hlk, hts, hK, hN⟩ := C
  obtain ⟨y1, y2, y4, y5⟩ := hy
  refine kcG hM (fun hM => va_runS (As := As) (rest := rest) (Ts := gw) ⟨hx, hb, hml, hown, hts⟩ hM ⟨callB_of n hts (gwGood y1) rfl hrc.1 hrc.2 (hts _ y4) (hts _ hl) y5 hR, hts _ y2⟩ ⟨preBlind, preAt hK hN hP⟩ rfl hn hsz hst (lv_room hW) hdg hcs) hS hA kk
/-- a nest mate's private static method -/
theorem kcSN {own host : String} {index : Nat} {ret0 : Option FieldType} {y : MethodName} {bytes : ByteArray} {maxL nL n : Nat} {ret : Option FieldType} {rm : Room} {Pre : Heap → Prop} (As : List Value) {A1 : Nat → Prop} {Post : Option Value → Heap → Prop}
    (C : Cx p s m args meth c own cc nL ret0 D tys) (hM : Ct l y bytes maxL ret rm D tys Pre As A1 Post) (hy : Ys y bytes maxL ret n) (hl : Cond.methodLinkNest own index y host ∈ nw) (hrc : rm.cells = 0 ∧ rm.slots = 0)
    (hR : rm.frames + 1 ≤ R.frames ∧ 8 + (maxL + 11) + rm.locals ≤ R.locals) (hcs : cells ≤ R.cells ∧ slots ≤ R.slots)
    (hP : Pre H) (hS : va_S A H0 H locs) (hA : ∀ q, A1 q → A q) (hsz : ls.size = nL) (hn : As.length = n) (hst : st0 = As.reverse ++ rest) (hW : (rest.map fun v => v.category).sum ≤ 8) (hdg : decode cc pc = .ok (.invokestatic index, 3))
    (kk : ∀ (v : Option Value) (H1 : Heap) (locs1 : List Loc), Post v H1 → H.size ≤ H1.size → (∀ q : Nat, q < H.size → ¬ A1 q → H1[q]? = H[q]?) → va_S A H0 H1 locs1 → W p l e R s m args below meth c H1 locs1 cells slots Q (F0 m (pc + 3) ls (v.toList ++ rest))) : W p l e R s m args below meth c H locs cells slots Q (F0 m pc ls st0) := by
  obtain ⟨hx, hb, hml, hown, hr, hlk, hts, hK, hN⟩ := C
  obtain ⟨y1, y2, y4, y5⟩ := hy
  refine kcG hM (fun hM => va_runSN (As := As) (rest := rest) (Ts := gw) ⟨hx, hb, hml, hown, hts⟩ hM ⟨va_cnB n hts (gwGood y1) rfl hrc.1 hrc.2 (hN _ hl) (hts _ y4) y5 hR, hts _ y2, trivial⟩ ⟨preBlind, preAt hK hN hP⟩ rfl hn hsz hst (lv_room hW) hdg hcs) hS hA kk
theorem keepN {D : va_G} {cl : List vw_C} {ws : va_W} {H H1 : Heap} (hP : va_P D cl ws H) (hk : ∀ q : Nat, q < H.size → ¬ (fun _ : Nat => False) q → H1[q]? = H[q]?) : va_P D cl ws H1 := hP.kept fun k q hq => hk q.1 (hP k q hq).lt (fun h => h)
/-- ends -/
theorem endI {own : String} {nL : Nat} {A1 : Nat → Prop} {Post : Option Value → Heap → Prop} {v : Int32} (C : Cx p s m args meth c own cc nL (some .int) D tys) (hS : va_S A1 s.heap H locs) (hq : Post (some (.int v)) H) (hdg : decode cc pc = .ok (.ireturn, 1)) : W p l e R s m args below meth c H locs cells slots (MQ below (Qcg Post A1) args s cells slots A1) (F0 m pc ls [.int v]) :=
  W.iret C.1 C.2.1 C.2.2.2.2.1 (fun t ht hW => ⟨⟨_, rfl, by rw [ht]; exact hq⟩, hS.F ht⟩) hS.2.2 hdg C.2.2.2.2.2.1
theorem endZ {own : String} {nL : Nat} {A1 : Nat → Prop} {Post : Option Value → Heap → Prop} {v : Int32} (C : Cx p s m args meth c own cc nL (some .boolean) D tys) (hS : va_S A1 s.heap H locs) (hz : bz v) (hq : Post (some (.int v)) H) (hdg : decode cc pc = .ok (.ireturn, 1)) : W p l e R s m args below meth c H locs cells slots (MQ below (Qcg Post A1) args s cells slots A1) (F0 m pc ls [.int v]) :=
  W.zret C.1 C.2.1 C.2.2.2.2.1 (bz_n hz) (fun t ht hW => ⟨⟨_, rfl, by rw [ht]; exact hq⟩, hS.F ht⟩) hS.2.2 hdg C.2.2.2.2.2.1
theorem endL {own : String} {nL : Nat} {A1 : Nat → Prop} {Post : Option Value → Heap → Prop} {v : Int64} (C : Cx p s m args meth c own cc nL (some .long) D tys) (hS : va_S A1 s.heap H locs) (hq : Post (some (.long v)) H) (hdg : decode cc pc = .ok (.lreturn, 1)) : W p l e R s m args below meth c H locs cells slots (MQ below (Qcg Post A1) args s cells slots A1) (F0 m pc ls [.long v]) :=
  W.lret C.1 C.2.1 C.2.2.2.2.1 (fun t ht hW => ⟨⟨_, rfl, by rw [ht]; exact hq⟩, hS.F ht⟩) hS.2.2 hdg C.2.2.2.2.2.1
theorem endV {own : String} {nL : Nat} {A1 : Nat → Prop} {Post : Option Value → Heap → Prop} (C : Cx p s m args meth c own cc nL none D tys) (hS : va_S A1 s.heap H locs) (hq : Post none H) (hdg : decode cc pc = .ok (.return_, 1)) : W p l e R s m args below meth c H locs cells slots (MQ below (Qcg Post A1) args s cells slots A1) (F0 m pc ls []) :=
  W.vret C.1 C.2.1 C.2.2.2.2.1 (fun t ht hW => ⟨⟨_, rfl, by rw [ht]; exact hq⟩, hS.F ht⟩) hS.2.2 hdg C.2.2.2.2.2.1
theorem endA {own n : String} {nL b : Nat} {A1 : Nat → Prop} {Post : Option Value → Heap → Prop} (C : Cx p s m args meth c own cc nL (some (.object n)) D tys) (hS : va_S A1 s.heap H locs) (hq : Post (some (.ref b)) H) (hdg : decode cc pc = .ok (.areturn, 1)) : W p l e R s m args below meth c H locs cells slots (MQ below (Qcg Post A1) args s cells slots A1) (F0 m pc ls [.ref b]) :=
  W.aret C.1 C.2.1 C.2.2.2.2.1 (Or.inl ⟨_, rfl⟩) (Or.inr ⟨_, rfl⟩) (fun t ht hW => ⟨⟨_, rfl, by rw [ht]; exact hq⟩, hS.F ht⟩) hS.2.2 hdg C.2.2.2.2.2.1
def wS (Ad : Nat → Nat) (cy : ClassId) (σ : Rg) (μ : Ar) : va_W := [(Ad 0, .inr (4, [.ref (Ad 1), .ref (Ad 4), .ref (Ad 12), .ref (Ad 16), .int (σ 0), .int (σ 1), .int (σ 2)])), (Ad 1, .inr (1, [.ref (Ad 2), .ref (Ad 3), .int (σ 3), .int (σ 4), .int (σ 5), .int (σ 6), .int (σ 7), .int (σ 8), .int (σ 9), .int (σ 10)])), (Ad 2, .inl (cy, 768, .inl (μ 0))), (Ad 3, .inl (cy, 6, .inl (μ 1))), (Ad 4, .inr (3, [.ref (Ad 5), .ref (Ad 6), .ref (Ad 7), .ref (Ad 8), .ref (Ad 9), .ref (Ad 10), .ref (Ad 11), .int (σ 11), .int (σ 12), .int (σ 13), .int (σ 14)])), (Ad 5, .inl (cy, 128, .inl (μ 2))), (Ad 6, .inl (cy, 41, .inl (μ 3))), (Ad 7, .inl (cy, 41, .inl (μ 4))), (Ad 8, .inl (cy, 41, .inl (μ 5))), (Ad 9, .inl (cy, 41, .inl (μ 6))), (Ad 10, .inl (cy, 41, .inl (μ 7))), (Ad 11, .inl (cy, 48, .inl (μ 8))), (Ad 12, .inr (0, [.ref (Ad 13), .ref (Ad 14), .ref (Ad 15), .int (σ 15), .int (σ 16)])), (Ad 13, .inl (cy, 8, .inl (μ 9))), (Ad 14, .inl (cy, 8, .inl (μ 10))), (Ad 15, .inl (cy, 8, .inl (μ 11))), (Ad 16, .inr (2, [.ref (Ad 17), .int (σ 17), .int (σ 18)])), (Ad 17, .inl (cy, 7, .inl (μ 12)))]
theorem rS : ofR 18 Ad (wS Ad cy σ μ) := rfl
theorem gS_store_chip (C : Cx p s m args meth c own cc nL ret D tys) (hP : va_P D vwCl (wS Ad cy σ μ) H) {index : Nat} (hlink : (Cond.fieldLink own index "SettingStore$Store" "chip" "LSettingStore$Chip;").before args s = true) (hdg : decode cc pc = .ok (.getfield index, 3)) (kk : W p l e R s m args below meth c H locs cells slots Q (F0 m (pc + 3) ls (.ref (Ad 1) :: rest))) : W p l e R s m args below meth c H locs cells slots Q (F0 m pc ls (.ref (Ad 0) :: rest)) := va_get (D := D) (ci := 4) (v := .ref (Ad 1)) (C := RX4) (T := TX4) (N := 7) C.1 C.2.1 C.2.2.2.2.2.2.1 inG4 C.2.2.2.1 C.2.2.2.2.2.2.2.1 hP 0 rfl rfl 0 (by decide) hlink (fun _ h9 => h9) rfl hdg kk
theorem gnS_store_chip (C : Cx p s m args meth c own cc nL ret D tys) (hP : va_P D vwCl (wS Ad cy σ μ) H) {index : Nat} (hlink : (Cond.fieldLinkNest own index "SettingStore$Store" "chip" "LSettingStore$Chip;" "SettingStore").before args s = true) (hdg : decode cc pc = .ok (.getfield index, 3)) (kk : W p l e R s m args below meth c H locs cells slots Q (F0 m (pc + 3) ls (.ref (Ad 1) :: rest))) : W p l e R s m args below meth c H locs cells slots Q (F0 m pc ls (.ref (Ad 0) :: rest)) := va_getN (D := D) (ci := 4) (v := .ref (Ad 1)) (C := RX4) (T := TX4) (N := 7) C.1 C.2.1 C.2.2.2.2.2.2.1 inG4 C.2.2.2.1 C.2.2.2.2.2.2.2.1 hP 0 rfl rfl 0 (by decide) hlink (fun _ h9 => h9) rfl hdg kk
theorem gS_store_reading (C : Cx p s m args meth c own cc nL ret D tys) (hP : va_P D vwCl (wS Ad cy σ μ) H) {index : Nat} (hlink : (Cond.fieldLink own index "SettingStore$Store" "reading" "LSettingStore$Reading;").before args s = true) (hdg : decode cc pc = .ok (.getfield index, 3)) (kk : W p l e R s m args below meth c H locs cells slots Q (F0 m (pc + 3) ls (.ref (Ad 4) :: rest))) : W p l e R s m args below meth c H locs cells slots Q (F0 m pc ls (.ref (Ad 0) :: rest)) := va_get (D := D) (ci := 4) (v := .ref (Ad 4)) (C := RX4) (T := TX4) (N := 7) C.1 C.2.1 C.2.2.2.2.2.2.1 inG4 C.2.2.2.1 C.2.2.2.2.2.2.2.1 hP 0 rfl rfl 1 (by decide) hlink (fun _ h9 => h9) rfl hdg kk
theorem gnS_store_reading (C : Cx p s m args meth c own cc nL ret D tys) (hP : va_P D vwCl (wS Ad cy σ μ) H) {index : Nat} (hlink : (Cond.fieldLinkNest own index "SettingStore$Store" "reading" "LSettingStore$Reading;" "SettingStore").before args s = true) (hdg : decode cc pc = .ok (.getfield index, 3)) (kk : W p l e R s m args below meth c H locs cells slots Q (F0 m (pc + 3) ls (.ref (Ad 4) :: rest))) : W p l e R s m args below meth c H locs cells slots Q (F0 m pc ls (.ref (Ad 0) :: rest)) := va_getN (D := D) (ci := 4) (v := .ref (Ad 4)) (C := RX4) (T := TX4) (N := 7) C.1 C.2.1 C.2.2.2.2.2.2.1 inG4 C.2.2.2.1 C.2.2.2.2.2.2.2.1 hP 0 rfl rfl 1 (by decide) hlink (fun _ h9 => h9) rfl hdg kk
theorem gS_store_change (C : Cx p s m args meth c own cc nL ret D tys) (hP : va_P D vwCl (wS Ad cy σ μ) H) {index : Nat} (hlink : (Cond.fieldLink own index "SettingStore$Store" "change" "LSettingStore$Change;").before args s = true) (hdg : decode cc pc = .ok (.getfield index, 3)) (kk : W p l e R s m args below meth c H locs cells slots Q (F0 m (pc + 3) ls (.ref (Ad 12) :: rest))) : W p l e R s m args below meth c H locs cells slots Q (F0 m pc ls (.ref (Ad 0) :: rest)) := va_get (D := D) (ci := 4) (v := .ref (Ad 12)) (C := RX4) (T := TX4) (N := 7) C.1 C.2.1 C.2.2.2.2.2.2.1 inG4 C.2.2.2.1 C.2.2.2.2.2.2.2.1 hP 0 rfl rfl 2 (by decide) hlink (fun _ h9 => h9) rfl hdg kk
theorem gnS_store_change (C : Cx p s m args meth c own cc nL ret D tys) (hP : va_P D vwCl (wS Ad cy σ μ) H) {index : Nat} (hlink : (Cond.fieldLinkNest own index "SettingStore$Store" "change" "LSettingStore$Change;" "SettingStore").before args s = true) (hdg : decode cc pc = .ok (.getfield index, 3)) (kk : W p l e R s m args below meth c H locs cells slots Q (F0 m (pc + 3) ls (.ref (Ad 12) :: rest))) : W p l e R s m args below meth c H locs cells slots Q (F0 m pc ls (.ref (Ad 0) :: rest)) := va_getN (D := D) (ci := 4) (v := .ref (Ad 12)) (C := RX4) (T := TX4) (N := 7) C.1 C.2.1 C.2.2.2.2.2.2.1 inG4 C.2.2.2.1 C.2.2.2.2.2.2.2.1 hP 0 rfl rfl 2 (by decide) hlink (fun _ h9 => h9) rfl hdg kk
theorem gS_store_draft (C : Cx p s m args meth c own cc nL ret D tys) (hP : va_P D vwCl (wS Ad cy σ μ) H) {index : Nat} (hlink : (Cond.fieldLink own index "SettingStore$Store" "draft" "LSettingStore$Draft;").before args s = true) (hdg : decode cc pc = .ok (.getfield index, 3)) (kk : W p l e R s m args below meth c H locs cells slots Q (F0 m (pc + 3) ls (.ref (Ad 16) :: rest))) : W p l e R s m args below meth c H locs cells slots Q (F0 m pc ls (.ref (Ad 0) :: rest)) := va_get (D := D) (ci := 4) (v := .ref (Ad 16)) (C := RX4) (T := TX4) (N := 7) C.1 C.2.1 C.2.2.2.2.2.2.1 inG4 C.2.2.2.1 C.2.2.2.2.2.2.2.1 hP 0 rfl rfl 3 (by decide) hlink (fun _ h9 => h9) rfl hdg kk
theorem gnS_store_draft (C : Cx p s m args meth c own cc nL ret D tys) (hP : va_P D vwCl (wS Ad cy σ μ) H) {index : Nat} (hlink : (Cond.fieldLinkNest own index "SettingStore$Store" "draft" "LSettingStore$Draft;" "SettingStore").before args s = true) (hdg : decode cc pc = .ok (.getfield index, 3)) (kk : W p l e R s m args below meth c H locs cells slots Q (F0 m (pc + 3) ls (.ref (Ad 16) :: rest))) : W p l e R s m args below meth c H locs cells slots Q (F0 m pc ls (.ref (Ad 0) :: rest)) := va_getN (D := D) (ci := 4) (v := .ref (Ad 16)) (C := RX4) (T := TX4) (N := 7) C.1 C.2.1 C.2.2.2.2.2.2.1 inG4 C.2.2.2.1 C.2.2.2.2.2.2.2.1 hP 0 rfl rfl 3 (by decide) hlink (fun _ h9 => h9) rfl hdg kk
theorem gS_store_inUse (C : Cx p s m args meth c own cc nL ret D tys) (hP : va_P D vwCl (wS Ad cy σ μ) H) {index : Nat} (hlink : (Cond.fieldLink own index "SettingStore$Store" "inUse" "I").before args s = true) (hdg : decode cc pc = .ok (.getfield index, 3)) (kk : W p l e R s m args below meth c H locs cells slots Q (F0 m (pc + 3) ls (.int (σ 0) :: rest))) : W p l e R s m args below meth c H locs cells slots Q (F0 m pc ls (.ref (Ad 0) :: rest)) := va_get (D := D) (ci := 4) (v := .int (σ 0)) (C := RX4) (T := TX4) (N := 7) C.1 C.2.1 C.2.2.2.2.2.2.1 inG4 C.2.2.2.1 C.2.2.2.2.2.2.2.1 hP 0 rfl rfl 4 (by decide) hlink (fun _ h9 => h9) rfl hdg kk
theorem pS_store_inUse {v : Int32} (C : Cx p s m args meth c own cc nL ret D tys) (hap : apt 18 Ad) (hin : ∀ q, AS 18 Ad q → A q) (hP : va_P D vwCl (wS Ad cy σ μ) H) (hS : va_S A H0 H locs) {index : Nat} (hlink : (Cond.fieldLink own index "SettingStore$Store" "inUse" "I").before args s = true) (hdg : decode cc pc = .ok (.putfield index, 3)) (kk : ∀ (H1 : Heap) (locs1 : List Loc), va_P D vwCl (wS Ad cy (upd σ 0 v) μ) H1 → va_S A H0 H1 locs1 → W p l e R s m args below meth c H1 locs1 cells slots Q (F0 m (pc + 3) ls rest)) : W p l e R s m args below meth c H locs cells slots Q (F0 m pc ls (.int v :: .ref (Ad 0) :: rest)) :=
  va_put (D := D) (ci := 4) (v := .int v) (ty := .int) (C := RX4) (T := TX4) (N := 7) C.1 C.2.1 C.2.2.2.2.2.2.1 inG4 tyX4 tyX4_ok nmX4 C.2.2.2.1 C.2.2.2.2.2.2.2.1 hP ((dW rS hap).weaken (fun _ _ _ h => hin _ h)) hS 0 rfl rfl 4 (by decide) hlink (fun _ h9 => h9) rfl (by decide +kernel) rfl rfl (Nat.le_of_ble_eq_true rfl) hdg (fun H1 locs1 hP1 _ hS1 => kk H1 locs1 hP1 hS1)
theorem gnS_store_inUse (C : Cx p s m args meth c own cc nL ret D tys) (hP : va_P D vwCl (wS Ad cy σ μ) H) {index : Nat} (hlink : (Cond.fieldLinkNest own index "SettingStore$Store" "inUse" "I" "SettingStore").before args s = true) (hdg : decode cc pc = .ok (.getfield index, 3)) (kk : W p l e R s m args below meth c H locs cells slots Q (F0 m (pc + 3) ls (.int (σ 0) :: rest))) : W p l e R s m args below meth c H locs cells slots Q (F0 m pc ls (.ref (Ad 0) :: rest)) := va_getN (D := D) (ci := 4) (v := .int (σ 0)) (C := RX4) (T := TX4) (N := 7) C.1 C.2.1 C.2.2.2.2.2.2.1 inG4 C.2.2.2.1 C.2.2.2.2.2.2.2.1 hP 0 rfl rfl 4 (by decide) hlink (fun _ h9 => h9) rfl hdg kk
theorem pnS_store_inUse {v : Int32} (C : Cx p s m args meth c own cc nL ret D tys) (hap : apt 18 Ad) (hin : ∀ q, AS 18 Ad q → A q) (hP : va_P D vwCl (wS Ad cy σ μ) H) (hS : va_S A H0 H locs) {index : Nat} (hlink : (Cond.fieldLinkNest own index "SettingStore$Store" "inUse" "I" "SettingStore").before args s = true) (hdg : decode cc pc = .ok (.putfield index, 3)) (kk : ∀ (H1 : Heap) (locs1 : List Loc), va_P D vwCl (wS Ad cy (upd σ 0 v) μ) H1 → va_S A H0 H1 locs1 → W p l e R s m args below meth c H1 locs1 cells slots Q (F0 m (pc + 3) ls rest)) : W p l e R s m args below meth c H locs cells slots Q (F0 m pc ls (.int v :: .ref (Ad 0) :: rest)) :=
  va_putN (D := D) (ci := 4) (v := .int v) (ty := .int) (C := RX4) (T := TX4) (N := 7) C.1 C.2.1 C.2.2.2.2.2.2.1 inG4 tyX4 tyX4_ok nmX4 C.2.2.2.1 C.2.2.2.2.2.2.2.1 hP ((dW rS hap).weaken (fun _ _ _ h => hin _ h)) hS 0 rfl rfl 4 (by decide) hlink (fun _ h9 => h9) rfl (by decide +kernel) rfl rfl (Nat.le_of_ble_eq_true rfl) hdg (fun H1 locs1 hP1 _ hS1 => kk H1 locs1 hP1 hS1)
theorem gS_store_handovers (C : Cx p s m args meth c own cc nL ret D tys) (hP : va_P D vwCl (wS Ad cy σ μ) H) {index : Nat} (hlink : (Cond.fieldLink own index "SettingStore$Store" "handovers" "I").before args s = true) (hdg : decode cc pc = .ok (.getfield index, 3)) (kk : W p l e R s m args below meth c H locs cells slots Q (F0 m (pc + 3) ls (.int (σ 1) :: rest))) : W p l e R s m args below meth c H locs cells slots Q (F0 m pc ls (.ref (Ad 0) :: rest)) := va_get (D := D) (ci := 4) (v := .int (σ 1)) (C := RX4) (T := TX4) (N := 7) C.1 C.2.1 C.2.2.2.2.2.2.1 inG4 C.2.2.2.1 C.2.2.2.2.2.2.2.1 hP 0 rfl rfl 5 (by decide) hlink (fun _ h9 => h9) rfl hdg kk
theorem pS_store_handovers {v : Int32} (C : Cx p s m args meth c own cc nL ret D tys) (hap : apt 18 Ad) (hin : ∀ q, AS 18 Ad q → A q) (hP : va_P D vwCl (wS Ad cy σ μ) H) (hS : va_S A H0 H locs) {index : Nat} (hlink : (Cond.fieldLink own index "SettingStore$Store" "handovers" "I").before args s = true) (hdg : decode cc pc = .ok (.putfield index, 3)) (kk : ∀ (H1 : Heap) (locs1 : List Loc), va_P D vwCl (wS Ad cy (upd σ 1 v) μ) H1 → va_S A H0 H1 locs1 → W p l e R s m args below meth c H1 locs1 cells slots Q (F0 m (pc + 3) ls rest)) : W p l e R s m args below meth c H locs cells slots Q (F0 m pc ls (.int v :: .ref (Ad 0) :: rest)) :=
  va_put (D := D) (ci := 4) (v := .int v) (ty := .int) (C := RX4) (T := TX4) (N := 7) C.1 C.2.1 C.2.2.2.2.2.2.1 inG4 tyX4 tyX4_ok nmX4 C.2.2.2.1 C.2.2.2.2.2.2.2.1 hP ((dW rS hap).weaken (fun _ _ _ h => hin _ h)) hS 0 rfl rfl 5 (by decide) hlink (fun _ h9 => h9) rfl (by decide +kernel) rfl rfl (Nat.le_of_ble_eq_true rfl) hdg (fun H1 locs1 hP1 _ hS1 => kk H1 locs1 hP1 hS1)
theorem gnS_store_handovers (C : Cx p s m args meth c own cc nL ret D tys) (hP : va_P D vwCl (wS Ad cy σ μ) H) {index : Nat} (hlink : (Cond.fieldLinkNest own index "SettingStore$Store" "handovers" "I" "SettingStore").before args s = true) (hdg : decode cc pc = .ok (.getfield index, 3)) (kk : W p l e R s m args below meth c H locs cells slots Q (F0 m (pc + 3) ls (.int (σ 1) :: rest))) : W p l e R s m args below meth c H locs cells slots Q (F0 m pc ls (.ref (Ad 0) :: rest)) := va_getN (D := D) (ci := 4) (v := .int (σ 1)) (C := RX4) (T := TX4) (N := 7) C.1 C.2.1 C.2.2.2.2.2.2.1 inG4 C.2.2.2.1 C.2.2.2.2.2.2.2.1 hP 0 rfl rfl 5 (by decide) hlink (fun _ h9 => h9) rfl hdg kk
theorem pnS_store_handovers {v : Int32} (C : Cx p s m args meth c own cc nL ret D tys) (hap : apt 18 Ad) (hin : ∀ q, AS 18 Ad q → A q) (hP : va_P D vwCl (wS Ad cy σ μ) H) (hS : va_S A H0 H locs) {index : Nat} (hlink : (Cond.fieldLinkNest own index "SettingStore$Store" "handovers" "I" "SettingStore").before args s = true) (hdg : decode cc pc = .ok (.putfield index, 3)) (kk : ∀ (H1 : Heap) (locs1 : List Loc), va_P D vwCl (wS Ad cy (upd σ 1 v) μ) H1 → va_S A H0 H1 locs1 → W p l e R s m args below meth c H1 locs1 cells slots Q (F0 m (pc + 3) ls rest)) : W p l e R s m args below meth c H locs cells slots Q (F0 m pc ls (.int v :: .ref (Ad 0) :: rest)) :=
  va_putN (D := D) (ci := 4) (v := .int v) (ty := .int) (C := RX4) (T := TX4) (N := 7) C.1 C.2.1 C.2.2.2.2.2.2.1 inG4 tyX4 tyX4_ok nmX4 C.2.2.2.1 C.2.2.2.2.2.2.2.1 hP ((dW rS hap).weaken (fun _ _ _ h => hin _ h)) hS 0 rfl rfl 5 (by decide) hlink (fun _ h9 => h9) rfl (by decide +kernel) rfl rfl (Nat.le_of_ble_eq_true rfl) hdg (fun H1 locs1 hP1 _ hS1 => kk H1 locs1 hP1 hS1)
theorem gS_store_pen (C : Cx p s m args meth c own cc nL ret D tys) (hP : va_P D vwCl (wS Ad cy σ μ) H) {index : Nat} (hlink : (Cond.fieldLink own index "SettingStore$Store" "pen" "I").before args s = true) (hdg : decode cc pc = .ok (.getfield index, 3)) (kk : W p l e R s m args below meth c H locs cells slots Q (F0 m (pc + 3) ls (.int (σ 2) :: rest))) : W p l e R s m args below meth c H locs cells slots Q (F0 m pc ls (.ref (Ad 0) :: rest)) := va_get (D := D) (ci := 4) (v := .int (σ 2)) (C := RX4) (T := TX4) (N := 7) C.1 C.2.1 C.2.2.2.2.2.2.1 inG4 C.2.2.2.1 C.2.2.2.2.2.2.2.1 hP 0 rfl rfl 6 (by decide) hlink (fun _ h9 => h9) rfl hdg kk
theorem pS_store_pen {v : Int32} (C : Cx p s m args meth c own cc nL ret D tys) (hap : apt 18 Ad) (hin : ∀ q, AS 18 Ad q → A q) (hP : va_P D vwCl (wS Ad cy σ μ) H) (hS : va_S A H0 H locs) {index : Nat} (hlink : (Cond.fieldLink own index "SettingStore$Store" "pen" "I").before args s = true) (hdg : decode cc pc = .ok (.putfield index, 3)) (kk : ∀ (H1 : Heap) (locs1 : List Loc), va_P D vwCl (wS Ad cy (upd σ 2 v) μ) H1 → va_S A H0 H1 locs1 → W p l e R s m args below meth c H1 locs1 cells slots Q (F0 m (pc + 3) ls rest)) : W p l e R s m args below meth c H locs cells slots Q (F0 m pc ls (.int v :: .ref (Ad 0) :: rest)) :=
  va_put (D := D) (ci := 4) (v := .int v) (ty := .int) (C := RX4) (T := TX4) (N := 7) C.1 C.2.1 C.2.2.2.2.2.2.1 inG4 tyX4 tyX4_ok nmX4 C.2.2.2.1 C.2.2.2.2.2.2.2.1 hP ((dW rS hap).weaken (fun _ _ _ h => hin _ h)) hS 0 rfl rfl 6 (by decide) hlink (fun _ h9 => h9) rfl (by decide +kernel) rfl rfl (Nat.le_of_ble_eq_true rfl) hdg (fun H1 locs1 hP1 _ hS1 => kk H1 locs1 hP1 hS1)
theorem gnS_store_pen (C : Cx p s m args meth c own cc nL ret D tys) (hP : va_P D vwCl (wS Ad cy σ μ) H) {index : Nat} (hlink : (Cond.fieldLinkNest own index "SettingStore$Store" "pen" "I" "SettingStore").before args s = true) (hdg : decode cc pc = .ok (.getfield index, 3)) (kk : W p l e R s m args below meth c H locs cells slots Q (F0 m (pc + 3) ls (.int (σ 2) :: rest))) : W p l e R s m args below meth c H locs cells slots Q (F0 m pc ls (.ref (Ad 0) :: rest)) := va_getN (D := D) (ci := 4) (v := .int (σ 2)) (C := RX4) (T := TX4) (N := 7) C.1 C.2.1 C.2.2.2.2.2.2.1 inG4 C.2.2.2.1 C.2.2.2.2.2.2.2.1 hP 0 rfl rfl 6 (by decide) hlink (fun _ h9 => h9) rfl hdg kk
theorem pnS_store_pen {v : Int32} (C : Cx p s m args meth c own cc nL ret D tys) (hap : apt 18 Ad) (hin : ∀ q, AS 18 Ad q → A q) (hP : va_P D vwCl (wS Ad cy σ μ) H) (hS : va_S A H0 H locs) {index : Nat} (hlink : (Cond.fieldLinkNest own index "SettingStore$Store" "pen" "I" "SettingStore").before args s = true) (hdg : decode cc pc = .ok (.putfield index, 3)) (kk : ∀ (H1 : Heap) (locs1 : List Loc), va_P D vwCl (wS Ad cy (upd σ 2 v) μ) H1 → va_S A H0 H1 locs1 → W p l e R s m args below meth c H1 locs1 cells slots Q (F0 m (pc + 3) ls rest)) : W p l e R s m args below meth c H locs cells slots Q (F0 m pc ls (.int v :: .ref (Ad 0) :: rest)) :=
  va_putN (D := D) (ci := 4) (v := .int v) (ty := .int) (C := RX4) (T := TX4) (N := 7) C.1 C.2.1 C.2.2.2.2.2.2.1 inG4 tyX4 tyX4_ok nmX4 C.2.2.2.1 C.2.2.2.2.2.2.2.1 hP ((dW rS hap).weaken (fun _ _ _ h => hin _ h)) hS 0 rfl rfl 6 (by decide) hlink (fun _ h9 => h9) rfl (by decide +kernel) rfl rfl (Nat.le_of_ble_eq_true rfl) hdg (fun H1 locs1 hP1 _ hS1 => kk H1 locs1 hP1 hS1)
theorem vS_store (C : Cx p s m args meth c own cc nL ret D tys) (hP : va_P D vwCl (wS Ad cy σ μ) H) : ∃ cell : Cell, H[Ad 0]? = some cell ∧ cell.vm.isStatics = false ∧ s.vm.findClass RX4 = some cell.cls := va_recv (q0 := 0) (ci := 4) (q := (RX4, TX4, 7)) C.2.2.2.2.2.2.2.1 hP rfl rfl
theorem gS_chip_cells (C : Cx p s m args meth c own cc nL ret D tys) (hP : va_P D vwCl (wS Ad cy σ μ) H) {index : Nat} (hlink : (Cond.fieldLink own index "SettingStore$Chip" "cells" "[I").before args s = true) (hdg : decode cc pc = .ok (.getfield index, 3)) (kk : W p l e R s m args below meth c H locs cells slots Q (F0 m (pc + 3) ls (.ref (Ad 2) :: rest))) : W p l e R s m args below meth c H locs cells slots Q (F0 m pc ls (.ref (Ad 1) :: rest)) := va_get (D := D) (ci := 1) (v := .ref (Ad 2)) (C := RX1) (T := TX1) (N := 10) C.1 C.2.1 C.2.2.2.2.2.2.1 inG1 C.2.2.2.1 C.2.2.2.2.2.2.2.1 hP 1 rfl rfl 0 (by decide) hlink (fun _ h9 => h9) rfl hdg kk
theorem gnS_chip_cells (C : Cx p s m args meth c own cc nL ret D tys) (hP : va_P D vwCl (wS Ad cy σ μ) H) {index : Nat} (hlink : (Cond.fieldLinkNest own index "SettingStore$Chip" "cells" "[I" "SettingStore").before args s = true) (hdg : decode cc pc = .ok (.getfield index, 3)) (kk : W p l e R s m args below meth c H locs cells slots Q (F0 m (pc + 3) ls (.ref (Ad 2) :: rest))) : W p l e R s m args below meth c H locs cells slots Q (F0 m pc ls (.ref (Ad 1) :: rest)) := va_getN (D := D) (ci := 1) (v := .ref (Ad 2)) (C := RX1) (T := TX1) (N := 10) C.1 C.2.1 C.2.2.2.2.2.2.1 inG1 C.2.2.2.1 C.2.2.2.2.2.2.2.1 hP 1 rfl rfl 0 (by decide) hlink (fun _ h9 => h9) rfl hdg kk
theorem gS_chip_erases (C : Cx p s m args meth c own cc nL ret D tys) (hP : va_P D vwCl (wS Ad cy σ μ) H) {index : Nat} (hlink : (Cond.fieldLink own index "SettingStore$Chip" "erases" "[I").before args s = true) (hdg : decode cc pc = .ok (.getfield index, 3)) (kk : W p l e R s m args below meth c H locs cells slots Q (F0 m (pc + 3) ls (.ref (Ad 3) :: rest))) : W p l e R s m args below meth c H locs cells slots Q (F0 m pc ls (.ref (Ad 1) :: rest)) := va_get (D := D) (ci := 1) (v := .ref (Ad 3)) (C := RX1) (T := TX1) (N := 10) C.1 C.2.1 C.2.2.2.2.2.2.1 inG1 C.2.2.2.1 C.2.2.2.2.2.2.2.1 hP 1 rfl rfl 1 (by decide) hlink (fun _ h9 => h9) rfl hdg kk
theorem gnS_chip_erases (C : Cx p s m args meth c own cc nL ret D tys) (hP : va_P D vwCl (wS Ad cy σ μ) H) {index : Nat} (hlink : (Cond.fieldLinkNest own index "SettingStore$Chip" "erases" "[I" "SettingStore").before args s = true) (hdg : decode cc pc = .ok (.getfield index, 3)) (kk : W p l e R s m args below meth c H locs cells slots Q (F0 m (pc + 3) ls (.ref (Ad 3) :: rest))) : W p l e R s m args below meth c H locs cells slots Q (F0 m pc ls (.ref (Ad 1) :: rest)) := va_getN (D := D) (ci := 1) (v := .ref (Ad 3)) (C := RX1) (T := TX1) (N := 10) C.1 C.2.1 C.2.2.2.2.2.2.1 inG1 C.2.2.2.1 C.2.2.2.2.2.2.2.1 hP 1 rfl rfl 1 (by decide) hlink (fun _ h9 => h9) rfl hdg kk
theorem gS_chip_sectors (C : Cx p s m args meth c own cc nL ret D tys) (hP : va_P D vwCl (wS Ad cy σ μ) H) {index : Nat} (hlink : (Cond.fieldLink own index "SettingStore$Chip" "sectors" "I").before args s = true) (hdg : decode cc pc = .ok (.getfield index, 3)) (kk : W p l e R s m args below meth c H locs cells slots Q (F0 m (pc + 3) ls (.int (σ 3) :: rest))) : W p l e R s m args below meth c H locs cells slots Q (F0 m pc ls (.ref (Ad 1) :: rest)) := va_get (D := D) (ci := 1) (v := .int (σ 3)) (C := RX1) (T := TX1) (N := 10) C.1 C.2.1 C.2.2.2.2.2.2.1 inG1 C.2.2.2.1 C.2.2.2.2.2.2.2.1 hP 1 rfl rfl 2 (by decide) hlink (fun _ h9 => h9) rfl hdg kk
theorem pS_chip_sectors {v : Int32} (C : Cx p s m args meth c own cc nL ret D tys) (hap : apt 18 Ad) (hin : ∀ q, AS 18 Ad q → A q) (hP : va_P D vwCl (wS Ad cy σ μ) H) (hS : va_S A H0 H locs) {index : Nat} (hlink : (Cond.fieldLink own index "SettingStore$Chip" "sectors" "I").before args s = true) (hdg : decode cc pc = .ok (.putfield index, 3)) (kk : ∀ (H1 : Heap) (locs1 : List Loc), va_P D vwCl (wS Ad cy (upd σ 3 v) μ) H1 → va_S A H0 H1 locs1 → W p l e R s m args below meth c H1 locs1 cells slots Q (F0 m (pc + 3) ls rest)) : W p l e R s m args below meth c H locs cells slots Q (F0 m pc ls (.int v :: .ref (Ad 1) :: rest)) :=
  va_put (D := D) (ci := 1) (v := .int v) (ty := .int) (C := RX1) (T := TX1) (N := 10) C.1 C.2.1 C.2.2.2.2.2.2.1 inG1 tyX1 tyX1_ok nmX1 C.2.2.2.1 C.2.2.2.2.2.2.2.1 hP ((dW rS hap).weaken (fun _ _ _ h => hin _ h)) hS 1 rfl rfl 2 (by decide) hlink (fun _ h9 => h9) rfl (by decide +kernel) rfl rfl (Nat.le_of_ble_eq_true rfl) hdg (fun H1 locs1 hP1 _ hS1 => kk H1 locs1 hP1 hS1)
theorem gnS_chip_sectors (C : Cx p s m args meth c own cc nL ret D tys) (hP : va_P D vwCl (wS Ad cy σ μ) H) {index : Nat} (hlink : (Cond.fieldLinkNest own index "SettingStore$Chip" "sectors" "I" "SettingStore").before args s = true) (hdg : decode cc pc = .ok (.getfield index, 3)) (kk : W p l e R s m args below meth c H locs cells slots Q (F0 m (pc + 3) ls (.int (σ 3) :: rest))) : W p l e R s m args below meth c H locs cells slots Q (F0 m pc ls (.ref (Ad 1) :: rest)) := va_getN (D := D) (ci := 1) (v := .int (σ 3)) (C := RX1) (T := TX1) (N := 10) C.1 C.2.1 C.2.2.2.2.2.2.1 inG1 C.2.2.2.1 C.2.2.2.2.2.2.2.1 hP 1 rfl rfl 2 (by decide) hlink (fun _ h9 => h9) rfl hdg kk
theorem pnS_chip_sectors {v : Int32} (C : Cx p s m args meth c own cc nL ret D tys) (hap : apt 18 Ad) (hin : ∀ q, AS 18 Ad q → A q) (hP : va_P D vwCl (wS Ad cy σ μ) H) (hS : va_S A H0 H locs) {index : Nat} (hlink : (Cond.fieldLinkNest own index "SettingStore$Chip" "sectors" "I" "SettingStore").before args s = true) (hdg : decode cc pc = .ok (.putfield index, 3)) (kk : ∀ (H1 : Heap) (locs1 : List Loc), va_P D vwCl (wS Ad cy (upd σ 3 v) μ) H1 → va_S A H0 H1 locs1 → W p l e R s m args below meth c H1 locs1 cells slots Q (F0 m (pc + 3) ls rest)) : W p l e R s m args below meth c H locs cells slots Q (F0 m pc ls (.int v :: .ref (Ad 1) :: rest)) :=
  va_putN (D := D) (ci := 1) (v := .int v) (ty := .int) (C := RX1) (T := TX1) (N := 10) C.1 C.2.1 C.2.2.2.2.2.2.1 inG1 tyX1 tyX1_ok nmX1 C.2.2.2.1 C.2.2.2.2.2.2.2.1 hP ((dW rS hap).weaken (fun _ _ _ h => hin _ h)) hS 1 rfl rfl 2 (by decide) hlink (fun _ h9 => h9) rfl (by decide +kernel) rfl rfl (Nat.le_of_ble_eq_true rfl) hdg (fun H1 locs1 hP1 _ hS1 => kk H1 locs1 hP1 hS1)
theorem gS_chip_size (C : Cx p s m args meth c own cc nL ret D tys) (hP : va_P D vwCl (wS Ad cy σ μ) H) {index : Nat} (hlink : (Cond.fieldLink own index "SettingStore$Chip" "size" "I").before args s = true) (hdg : decode cc pc = .ok (.getfield index, 3)) (kk : W p l e R s m args below meth c H locs cells slots Q (F0 m (pc + 3) ls (.int (σ 4) :: rest))) : W p l e R s m args below meth c H locs cells slots Q (F0 m pc ls (.ref (Ad 1) :: rest)) := va_get (D := D) (ci := 1) (v := .int (σ 4)) (C := RX1) (T := TX1) (N := 10) C.1 C.2.1 C.2.2.2.2.2.2.1 inG1 C.2.2.2.1 C.2.2.2.2.2.2.2.1 hP 1 rfl rfl 3 (by decide) hlink (fun _ h9 => h9) rfl hdg kk
theorem pS_chip_size {v : Int32} (C : Cx p s m args meth c own cc nL ret D tys) (hap : apt 18 Ad) (hin : ∀ q, AS 18 Ad q → A q) (hP : va_P D vwCl (wS Ad cy σ μ) H) (hS : va_S A H0 H locs) {index : Nat} (hlink : (Cond.fieldLink own index "SettingStore$Chip" "size" "I").before args s = true) (hdg : decode cc pc = .ok (.putfield index, 3)) (kk : ∀ (H1 : Heap) (locs1 : List Loc), va_P D vwCl (wS Ad cy (upd σ 4 v) μ) H1 → va_S A H0 H1 locs1 → W p l e R s m args below meth c H1 locs1 cells slots Q (F0 m (pc + 3) ls rest)) : W p l e R s m args below meth c H locs cells slots Q (F0 m pc ls (.int v :: .ref (Ad 1) :: rest)) :=
  va_put (D := D) (ci := 1) (v := .int v) (ty := .int) (C := RX1) (T := TX1) (N := 10) C.1 C.2.1 C.2.2.2.2.2.2.1 inG1 tyX1 tyX1_ok nmX1 C.2.2.2.1 C.2.2.2.2.2.2.2.1 hP ((dW rS hap).weaken (fun _ _ _ h => hin _ h)) hS 1 rfl rfl 3 (by decide) hlink (fun _ h9 => h9) rfl (by decide +kernel) rfl rfl (Nat.le_of_ble_eq_true rfl) hdg (fun H1 locs1 hP1 _ hS1 => kk H1 locs1 hP1 hS1)
theorem gnS_chip_size (C : Cx p s m args meth c own cc nL ret D tys) (hP : va_P D vwCl (wS Ad cy σ μ) H) {index : Nat} (hlink : (Cond.fieldLinkNest own index "SettingStore$Chip" "size" "I" "SettingStore").before args s = true) (hdg : decode cc pc = .ok (.getfield index, 3)) (kk : W p l e R s m args below meth c H locs cells slots Q (F0 m (pc + 3) ls (.int (σ 4) :: rest))) : W p l e R s m args below meth c H locs cells slots Q (F0 m pc ls (.ref (Ad 1) :: rest)) := va_getN (D := D) (ci := 1) (v := .int (σ 4)) (C := RX1) (T := TX1) (N := 10) C.1 C.2.1 C.2.2.2.2.2.2.1 inG1 C.2.2.2.1 C.2.2.2.2.2.2.2.1 hP 1 rfl rfl 3 (by decide) hlink (fun _ h9 => h9) rfl hdg kk
theorem pnS_chip_size {v : Int32} (C : Cx p s m args meth c own cc nL ret D tys) (hap : apt 18 Ad) (hin : ∀ q, AS 18 Ad q → A q) (hP : va_P D vwCl (wS Ad cy σ μ) H) (hS : va_S A H0 H locs) {index : Nat} (hlink : (Cond.fieldLinkNest own index "SettingStore$Chip" "size" "I" "SettingStore").before args s = true) (hdg : decode cc pc = .ok (.putfield index, 3)) (kk : ∀ (H1 : Heap) (locs1 : List Loc), va_P D vwCl (wS Ad cy (upd σ 4 v) μ) H1 → va_S A H0 H1 locs1 → W p l e R s m args below meth c H1 locs1 cells slots Q (F0 m (pc + 3) ls rest)) : W p l e R s m args below meth c H locs cells slots Q (F0 m pc ls (.int v :: .ref (Ad 1) :: rest)) :=
  va_putN (D := D) (ci := 1) (v := .int v) (ty := .int) (C := RX1) (T := TX1) (N := 10) C.1 C.2.1 C.2.2.2.2.2.2.1 inG1 tyX1 tyX1_ok nmX1 C.2.2.2.1 C.2.2.2.2.2.2.2.1 hP ((dW rS hap).weaken (fun _ _ _ h => hin _ h)) hS 1 rfl rfl 3 (by decide) hlink (fun _ h9 => h9) rfl (by decide +kernel) rfl rfl (Nat.le_of_ble_eq_true rfl) hdg (fun H1 locs1 hP1 _ hS1 => kk H1 locs1 hP1 hS1)
theorem gS_chip_writes (C : Cx p s m args meth c own cc nL ret D tys) (hP : va_P D vwCl (wS Ad cy σ μ) H) {index : Nat} (hlink : (Cond.fieldLink own index "SettingStore$Chip" "writes" "I").before args s = true) (hdg : decode cc pc = .ok (.getfield index, 3)) (kk : W p l e R s m args below meth c H locs cells slots Q (F0 m (pc + 3) ls (.int (σ 5) :: rest))) : W p l e R s m args below meth c H locs cells slots Q (F0 m pc ls (.ref (Ad 1) :: rest)) := va_get (D := D) (ci := 1) (v := .int (σ 5)) (C := RX1) (T := TX1) (N := 10) C.1 C.2.1 C.2.2.2.2.2.2.1 inG1 C.2.2.2.1 C.2.2.2.2.2.2.2.1 hP 1 rfl rfl 4 (by decide) hlink (fun _ h9 => h9) rfl hdg kk
theorem pS_chip_writes {v : Int32} (C : Cx p s m args meth c own cc nL ret D tys) (hap : apt 18 Ad) (hin : ∀ q, AS 18 Ad q → A q) (hP : va_P D vwCl (wS Ad cy σ μ) H) (hS : va_S A H0 H locs) {index : Nat} (hlink : (Cond.fieldLink own index "SettingStore$Chip" "writes" "I").before args s = true) (hdg : decode cc pc = .ok (.putfield index, 3)) (kk : ∀ (H1 : Heap) (locs1 : List Loc), va_P D vwCl (wS Ad cy (upd σ 5 v) μ) H1 → va_S A H0 H1 locs1 → W p l e R s m args below meth c H1 locs1 cells slots Q (F0 m (pc + 3) ls rest)) : W p l e R s m args below meth c H locs cells slots Q (F0 m pc ls (.int v :: .ref (Ad 1) :: rest)) :=
  va_put (D := D) (ci := 1) (v := .int v) (ty := .int) (C := RX1) (T := TX1) (N := 10) C.1 C.2.1 C.2.2.2.2.2.2.1 inG1 tyX1 tyX1_ok nmX1 C.2.2.2.1 C.2.2.2.2.2.2.2.1 hP ((dW rS hap).weaken (fun _ _ _ h => hin _ h)) hS 1 rfl rfl 4 (by decide) hlink (fun _ h9 => h9) rfl (by decide +kernel) rfl rfl (Nat.le_of_ble_eq_true rfl) hdg (fun H1 locs1 hP1 _ hS1 => kk H1 locs1 hP1 hS1)
theorem gnS_chip_writes (C : Cx p s m args meth c own cc nL ret D tys) (hP : va_P D vwCl (wS Ad cy σ μ) H) {index : Nat} (hlink : (Cond.fieldLinkNest own index "SettingStore$Chip" "writes" "I" "SettingStore").before args s = true) (hdg : decode cc pc = .ok (.getfield index, 3)) (kk : W p l e R s m args below meth c H locs cells slots Q (F0 m (pc + 3) ls (.int (σ 5) :: rest))) : W p l e R s m args below meth c H locs cells slots Q (F0 m pc ls (.ref (Ad 1) :: rest)) := va_getN (D := D) (ci := 1) (v := .int (σ 5)) (C := RX1) (T := TX1) (N := 10) C.1 C.2.1 C.2.2.2.2.2.2.1 inG1 C.2.2.2.1 C.2.2.2.2.2.2.2.1 hP 1 rfl rfl 4 (by decide) hlink (fun _ h9 => h9) rfl hdg kk
theorem pnS_chip_writes {v : Int32} (C : Cx p s m args meth c own cc nL ret D tys) (hap : apt 18 Ad) (hin : ∀ q, AS 18 Ad q → A q) (hP : va_P D vwCl (wS Ad cy σ μ) H) (hS : va_S A H0 H locs) {index : Nat} (hlink : (Cond.fieldLinkNest own index "SettingStore$Chip" "writes" "I" "SettingStore").before args s = true) (hdg : decode cc pc = .ok (.putfield index, 3)) (kk : ∀ (H1 : Heap) (locs1 : List Loc), va_P D vwCl (wS Ad cy (upd σ 5 v) μ) H1 → va_S A H0 H1 locs1 → W p l e R s m args below meth c H1 locs1 cells slots Q (F0 m (pc + 3) ls rest)) : W p l e R s m args below meth c H locs cells slots Q (F0 m pc ls (.int v :: .ref (Ad 1) :: rest)) :=
  va_putN (D := D) (ci := 1) (v := .int v) (ty := .int) (C := RX1) (T := TX1) (N := 10) C.1 C.2.1 C.2.2.2.2.2.2.1 inG1 tyX1 tyX1_ok nmX1 C.2.2.2.1 C.2.2.2.2.2.2.2.1 hP ((dW rS hap).weaken (fun _ _ _ h => hin _ h)) hS 1 rfl rfl 4 (by decide) hlink (fun _ h9 => h9) rfl (by decide +kernel) rfl rfl (Nat.le_of_ble_eq_true rfl) hdg (fun H1 locs1 hP1 _ hS1 => kk H1 locs1 hP1 hS1)
theorem gS_chip_doings (C : Cx p s m args meth c own cc nL ret D tys) (hP : va_P D vwCl (wS Ad cy σ μ) H) {index : Nat} (hlink : (Cond.fieldLink own index "SettingStore$Chip" "doings" "I").before args s = true) (hdg : decode cc pc = .ok (.getfield index, 3)) (kk : W p l e R s m args below meth c H locs cells slots Q (F0 m (pc + 3) ls (.int (σ 6) :: rest))) : W p l e R s m args below meth c H locs cells slots Q (F0 m pc ls (.ref (Ad 1) :: rest)) := va_get (D := D) (ci := 1) (v := .int (σ 6)) (C := RX1) (T := TX1) (N := 10) C.1 C.2.1 C.2.2.2.2.2.2.1 inG1 C.2.2.2.1 C.2.2.2.2.2.2.2.1 hP 1 rfl rfl 5 (by decide) hlink (fun _ h9 => h9) rfl hdg kk
theorem pS_chip_doings {v : Int32} (C : Cx p s m args meth c own cc nL ret D tys) (hap : apt 18 Ad) (hin : ∀ q, AS 18 Ad q → A q) (hP : va_P D vwCl (wS Ad cy σ μ) H) (hS : va_S A H0 H locs) {index : Nat} (hlink : (Cond.fieldLink own index "SettingStore$Chip" "doings" "I").before args s = true) (hdg : decode cc pc = .ok (.putfield index, 3)) (kk : ∀ (H1 : Heap) (locs1 : List Loc), va_P D vwCl (wS Ad cy (upd σ 6 v) μ) H1 → va_S A H0 H1 locs1 → W p l e R s m args below meth c H1 locs1 cells slots Q (F0 m (pc + 3) ls rest)) : W p l e R s m args below meth c H locs cells slots Q (F0 m pc ls (.int v :: .ref (Ad 1) :: rest)) :=
  va_put (D := D) (ci := 1) (v := .int v) (ty := .int) (C := RX1) (T := TX1) (N := 10) C.1 C.2.1 C.2.2.2.2.2.2.1 inG1 tyX1 tyX1_ok nmX1 C.2.2.2.1 C.2.2.2.2.2.2.2.1 hP ((dW rS hap).weaken (fun _ _ _ h => hin _ h)) hS 1 rfl rfl 5 (by decide) hlink (fun _ h9 => h9) rfl (by decide +kernel) rfl rfl (Nat.le_of_ble_eq_true rfl) hdg (fun H1 locs1 hP1 _ hS1 => kk H1 locs1 hP1 hS1)
theorem gnS_chip_doings (C : Cx p s m args meth c own cc nL ret D tys) (hP : va_P D vwCl (wS Ad cy σ μ) H) {index : Nat} (hlink : (Cond.fieldLinkNest own index "SettingStore$Chip" "doings" "I" "SettingStore").before args s = true) (hdg : decode cc pc = .ok (.getfield index, 3)) (kk : W p l e R s m args below meth c H locs cells slots Q (F0 m (pc + 3) ls (.int (σ 6) :: rest))) : W p l e R s m args below meth c H locs cells slots Q (F0 m pc ls (.ref (Ad 1) :: rest)) := va_getN (D := D) (ci := 1) (v := .int (σ 6)) (C := RX1) (T := TX1) (N := 10) C.1 C.2.1 C.2.2.2.2.2.2.1 inG1 C.2.2.2.1 C.2.2.2.2.2.2.2.1 hP 1 rfl rfl 5 (by decide) hlink (fun _ h9 => h9) rfl hdg kk
theorem pnS_chip_doings {v : Int32} (C : Cx p s m args meth c own cc nL ret D tys) (hap : apt 18 Ad) (hin : ∀ q, AS 18 Ad q → A q) (hP : va_P D vwCl (wS Ad cy σ μ) H) (hS : va_S A H0 H locs) {index : Nat} (hlink : (Cond.fieldLinkNest own index "SettingStore$Chip" "doings" "I" "SettingStore").before args s = true) (hdg : decode cc pc = .ok (.putfield index, 3)) (kk : ∀ (H1 : Heap) (locs1 : List Loc), va_P D vwCl (wS Ad cy (upd σ 6 v) μ) H1 → va_S A H0 H1 locs1 → W p l e R s m args below meth c H1 locs1 cells slots Q (F0 m (pc + 3) ls rest)) : W p l e R s m args below meth c H locs cells slots Q (F0 m pc ls (.int v :: .ref (Ad 1) :: rest)) :=
  va_putN (D := D) (ci := 1) (v := .int v) (ty := .int) (C := RX1) (T := TX1) (N := 10) C.1 C.2.1 C.2.2.2.2.2.2.1 inG1 tyX1 tyX1_ok nmX1 C.2.2.2.1 C.2.2.2.2.2.2.2.1 hP ((dW rS hap).weaken (fun _ _ _ h => hin _ h)) hS 1 rfl rfl 5 (by decide) hlink (fun _ h9 => h9) rfl (by decide +kernel) rfl rfl (Nat.le_of_ble_eq_true rfl) hdg (fun H1 locs1 hP1 _ hS1 => kk H1 locs1 hP1 hS1)
theorem gS_chip_powered (C : Cx p s m args meth c own cc nL ret D tys) (hP : va_P D vwCl (wS Ad cy σ μ) H) {index : Nat} (hlink : (Cond.fieldLink own index "SettingStore$Chip" "powered" "Z").before args s = true) (hdg : decode cc pc = .ok (.getfield index, 3)) (kk : W p l e R s m args below meth c H locs cells slots Q (F0 m (pc + 3) ls (.int (σ 7) :: rest))) : W p l e R s m args below meth c H locs cells slots Q (F0 m pc ls (.ref (Ad 1) :: rest)) := va_get (D := D) (ci := 1) (v := .int (σ 7)) (C := RX1) (T := TX1) (N := 10) C.1 C.2.1 C.2.2.2.2.2.2.1 inG1 C.2.2.2.1 C.2.2.2.2.2.2.2.1 hP 1 rfl rfl 6 (by decide) hlink (fun _ h9 => h9) rfl hdg kk
theorem pS_chip_powered {v : Int32} (C : Cx p s m args meth c own cc nL ret D tys) (hap : apt 18 Ad) (hin : ∀ q, AS 18 Ad q → A q) (hP : va_P D vwCl (wS Ad cy σ μ) H) (hS : va_S A H0 H locs) (hz : bz v) {index : Nat} (hlink : (Cond.fieldLink own index "SettingStore$Chip" "powered" "Z").before args s = true) (hdg : decode cc pc = .ok (.putfield index, 3)) (kk : ∀ (H1 : Heap) (locs1 : List Loc), va_P D vwCl (wS Ad cy (upd σ 7 v) μ) H1 → va_S A H0 H1 locs1 → W p l e R s m args below meth c H1 locs1 cells slots Q (F0 m (pc + 3) ls rest)) : W p l e R s m args below meth c H locs cells slots Q (F0 m pc ls (.int v :: .ref (Ad 1) :: rest)) :=
  va_put (D := D) (ci := 1) (v := .int v) (ty := .boolean) (C := RX1) (T := TX1) (N := 10) C.1 C.2.1 C.2.2.2.2.2.2.1 inG1 tyX1 tyX1_ok nmX1 C.2.2.2.1 C.2.2.2.2.2.2.2.1 hP ((dW rS hap).weaken (fun _ _ _ h => hin _ h)) hS 1 rfl rfl 6 (by decide) hlink (fun _ h9 => h9) rfl (by decide +kernel) (bz_n hz) (bz_f hz) (Nat.le_of_ble_eq_true rfl) hdg (fun H1 locs1 hP1 _ hS1 => kk H1 locs1 hP1 hS1)
theorem gnS_chip_powered (C : Cx p s m args meth c own cc nL ret D tys) (hP : va_P D vwCl (wS Ad cy σ μ) H) {index : Nat} (hlink : (Cond.fieldLinkNest own index "SettingStore$Chip" "powered" "Z" "SettingStore").before args s = true) (hdg : decode cc pc = .ok (.getfield index, 3)) (kk : W p l e R s m args below meth c H locs cells slots Q (F0 m (pc + 3) ls (.int (σ 7) :: rest))) : W p l e R s m args below meth c H locs cells slots Q (F0 m pc ls (.ref (Ad 1) :: rest)) := va_getN (D := D) (ci := 1) (v := .int (σ 7)) (C := RX1) (T := TX1) (N := 10) C.1 C.2.1 C.2.2.2.2.2.2.1 inG1 C.2.2.2.1 C.2.2.2.2.2.2.2.1 hP 1 rfl rfl 6 (by decide) hlink (fun _ h9 => h9) rfl hdg kk
theorem pnS_chip_powered {v : Int32} (C : Cx p s m args meth c own cc nL ret D tys) (hap : apt 18 Ad) (hin : ∀ q, AS 18 Ad q → A q) (hP : va_P D vwCl (wS Ad cy σ μ) H) (hS : va_S A H0 H locs) (hz : bz v) {index : Nat} (hlink : (Cond.fieldLinkNest own index "SettingStore$Chip" "powered" "Z" "SettingStore").before args s = true) (hdg : decode cc pc = .ok (.putfield index, 3)) (kk : ∀ (H1 : Heap) (locs1 : List Loc), va_P D vwCl (wS Ad cy (upd σ 7 v) μ) H1 → va_S A H0 H1 locs1 → W p l e R s m args below meth c H1 locs1 cells slots Q (F0 m (pc + 3) ls rest)) : W p l e R s m args below meth c H locs cells slots Q (F0 m pc ls (.int v :: .ref (Ad 1) :: rest)) :=
  va_putN (D := D) (ci := 1) (v := .int v) (ty := .boolean) (C := RX1) (T := TX1) (N := 10) C.1 C.2.1 C.2.2.2.2.2.2.1 inG1 tyX1 tyX1_ok nmX1 C.2.2.2.1 C.2.2.2.2.2.2.2.1 hP ((dW rS hap).weaken (fun _ _ _ h => hin _ h)) hS 1 rfl rfl 6 (by decide) hlink (fun _ h9 => h9) rfl (by decide +kernel) (bz_n hz) (bz_f hz) (Nat.le_of_ble_eq_true rfl) hdg (fun H1 locs1 hP1 _ hS1 => kk H1 locs1 hP1 hS1)
theorem gS_chip_powerIn (C : Cx p s m args meth c own cc nL ret D tys) (hP : va_P D vwCl (wS Ad cy σ μ) H) {index : Nat} (hlink : (Cond.fieldLink own index "SettingStore$Chip" "powerIn" "I").before args s = true) (hdg : decode cc pc = .ok (.getfield index, 3)) (kk : W p l e R s m args below meth c H locs cells slots Q (F0 m (pc + 3) ls (.int (σ 8) :: rest))) : W p l e R s m args below meth c H locs cells slots Q (F0 m pc ls (.ref (Ad 1) :: rest)) := va_get (D := D) (ci := 1) (v := .int (σ 8)) (C := RX1) (T := TX1) (N := 10) C.1 C.2.1 C.2.2.2.2.2.2.1 inG1 C.2.2.2.1 C.2.2.2.2.2.2.2.1 hP 1 rfl rfl 7 (by decide) hlink (fun _ h9 => h9) rfl hdg kk
theorem pS_chip_powerIn {v : Int32} (C : Cx p s m args meth c own cc nL ret D tys) (hap : apt 18 Ad) (hin : ∀ q, AS 18 Ad q → A q) (hP : va_P D vwCl (wS Ad cy σ μ) H) (hS : va_S A H0 H locs) {index : Nat} (hlink : (Cond.fieldLink own index "SettingStore$Chip" "powerIn" "I").before args s = true) (hdg : decode cc pc = .ok (.putfield index, 3)) (kk : ∀ (H1 : Heap) (locs1 : List Loc), va_P D vwCl (wS Ad cy (upd σ 8 v) μ) H1 → va_S A H0 H1 locs1 → W p l e R s m args below meth c H1 locs1 cells slots Q (F0 m (pc + 3) ls rest)) : W p l e R s m args below meth c H locs cells slots Q (F0 m pc ls (.int v :: .ref (Ad 1) :: rest)) :=
  va_put (D := D) (ci := 1) (v := .int v) (ty := .int) (C := RX1) (T := TX1) (N := 10) C.1 C.2.1 C.2.2.2.2.2.2.1 inG1 tyX1 tyX1_ok nmX1 C.2.2.2.1 C.2.2.2.2.2.2.2.1 hP ((dW rS hap).weaken (fun _ _ _ h => hin _ h)) hS 1 rfl rfl 7 (by decide) hlink (fun _ h9 => h9) rfl (by decide +kernel) rfl rfl (Nat.le_of_ble_eq_true rfl) hdg (fun H1 locs1 hP1 _ hS1 => kk H1 locs1 hP1 hS1)
theorem gnS_chip_powerIn (C : Cx p s m args meth c own cc nL ret D tys) (hP : va_P D vwCl (wS Ad cy σ μ) H) {index : Nat} (hlink : (Cond.fieldLinkNest own index "SettingStore$Chip" "powerIn" "I" "SettingStore").before args s = true) (hdg : decode cc pc = .ok (.getfield index, 3)) (kk : W p l e R s m args below meth c H locs cells slots Q (F0 m (pc + 3) ls (.int (σ 8) :: rest))) : W p l e R s m args below meth c H locs cells slots Q (F0 m pc ls (.ref (Ad 1) :: rest)) := va_getN (D := D) (ci := 1) (v := .int (σ 8)) (C := RX1) (T := TX1) (N := 10) C.1 C.2.1 C.2.2.2.2.2.2.1 inG1 C.2.2.2.1 C.2.2.2.2.2.2.2.1 hP 1 rfl rfl 7 (by decide) hlink (fun _ h9 => h9) rfl hdg kk
theorem pnS_chip_powerIn {v : Int32} (C : Cx p s m args meth c own cc nL ret D tys) (hap : apt 18 Ad) (hin : ∀ q, AS 18 Ad q → A q) (hP : va_P D vwCl (wS Ad cy σ μ) H) (hS : va_S A H0 H locs) {index : Nat} (hlink : (Cond.fieldLinkNest own index "SettingStore$Chip" "powerIn" "I" "SettingStore").before args s = true) (hdg : decode cc pc = .ok (.putfield index, 3)) (kk : ∀ (H1 : Heap) (locs1 : List Loc), va_P D vwCl (wS Ad cy (upd σ 8 v) μ) H1 → va_S A H0 H1 locs1 → W p l e R s m args below meth c H1 locs1 cells slots Q (F0 m (pc + 3) ls rest)) : W p l e R s m args below meth c H locs cells slots Q (F0 m pc ls (.int v :: .ref (Ad 1) :: rest)) :=
  va_putN (D := D) (ci := 1) (v := .int v) (ty := .int) (C := RX1) (T := TX1) (N := 10) C.1 C.2.1 C.2.2.2.2.2.2.1 inG1 tyX1 tyX1_ok nmX1 C.2.2.2.1 C.2.2.2.2.2.2.2.1 hP ((dW rS hap).weaken (fun _ _ _ h => hin _ h)) hS 1 rfl rfl 7 (by decide) hlink (fun _ h9 => h9) rfl (by decide +kernel) rfl rfl (Nat.le_of_ble_eq_true rfl) hdg (fun H1 locs1 hP1 _ hS1 => kk H1 locs1 hP1 hS1)
theorem gS_chip_mask (C : Cx p s m args meth c own cc nL ret D tys) (hP : va_P D vwCl (wS Ad cy σ μ) H) {index : Nat} (hlink : (Cond.fieldLink own index "SettingStore$Chip" "mask" "I").before args s = true) (hdg : decode cc pc = .ok (.getfield index, 3)) (kk : W p l e R s m args below meth c H locs cells slots Q (F0 m (pc + 3) ls (.int (σ 9) :: rest))) : W p l e R s m args below meth c H locs cells slots Q (F0 m pc ls (.ref (Ad 1) :: rest)) := va_get (D := D) (ci := 1) (v := .int (σ 9)) (C := RX1) (T := TX1) (N := 10) C.1 C.2.1 C.2.2.2.2.2.2.1 inG1 C.2.2.2.1 C.2.2.2.2.2.2.2.1 hP 1 rfl rfl 8 (by decide) hlink (fun _ h9 => h9) rfl hdg kk
theorem pS_chip_mask {v : Int32} (C : Cx p s m args meth c own cc nL ret D tys) (hap : apt 18 Ad) (hin : ∀ q, AS 18 Ad q → A q) (hP : va_P D vwCl (wS Ad cy σ μ) H) (hS : va_S A H0 H locs) {index : Nat} (hlink : (Cond.fieldLink own index "SettingStore$Chip" "mask" "I").before args s = true) (hdg : decode cc pc = .ok (.putfield index, 3)) (kk : ∀ (H1 : Heap) (locs1 : List Loc), va_P D vwCl (wS Ad cy (upd σ 9 v) μ) H1 → va_S A H0 H1 locs1 → W p l e R s m args below meth c H1 locs1 cells slots Q (F0 m (pc + 3) ls rest)) : W p l e R s m args below meth c H locs cells slots Q (F0 m pc ls (.int v :: .ref (Ad 1) :: rest)) :=
  va_put (D := D) (ci := 1) (v := .int v) (ty := .int) (C := RX1) (T := TX1) (N := 10) C.1 C.2.1 C.2.2.2.2.2.2.1 inG1 tyX1 tyX1_ok nmX1 C.2.2.2.1 C.2.2.2.2.2.2.2.1 hP ((dW rS hap).weaken (fun _ _ _ h => hin _ h)) hS 1 rfl rfl 8 (by decide) hlink (fun _ h9 => h9) rfl (by decide +kernel) rfl rfl (Nat.le_of_ble_eq_true rfl) hdg (fun H1 locs1 hP1 _ hS1 => kk H1 locs1 hP1 hS1)
theorem gnS_chip_mask (C : Cx p s m args meth c own cc nL ret D tys) (hP : va_P D vwCl (wS Ad cy σ μ) H) {index : Nat} (hlink : (Cond.fieldLinkNest own index "SettingStore$Chip" "mask" "I" "SettingStore").before args s = true) (hdg : decode cc pc = .ok (.getfield index, 3)) (kk : W p l e R s m args below meth c H locs cells slots Q (F0 m (pc + 3) ls (.int (σ 9) :: rest))) : W p l e R s m args below meth c H locs cells slots Q (F0 m pc ls (.ref (Ad 1) :: rest)) := va_getN (D := D) (ci := 1) (v := .int (σ 9)) (C := RX1) (T := TX1) (N := 10) C.1 C.2.1 C.2.2.2.2.2.2.1 inG1 C.2.2.2.1 C.2.2.2.2.2.2.2.1 hP 1 rfl rfl 8 (by decide) hlink (fun _ h9 => h9) rfl hdg kk
theorem pnS_chip_mask {v : Int32} (C : Cx p s m args meth c own cc nL ret D tys) (hap : apt 18 Ad) (hin : ∀ q, AS 18 Ad q → A q) (hP : va_P D vwCl (wS Ad cy σ μ) H) (hS : va_S A H0 H locs) {index : Nat} (hlink : (Cond.fieldLinkNest own index "SettingStore$Chip" "mask" "I" "SettingStore").before args s = true) (hdg : decode cc pc = .ok (.putfield index, 3)) (kk : ∀ (H1 : Heap) (locs1 : List Loc), va_P D vwCl (wS Ad cy (upd σ 9 v) μ) H1 → va_S A H0 H1 locs1 → W p l e R s m args below meth c H1 locs1 cells slots Q (F0 m (pc + 3) ls rest)) : W p l e R s m args below meth c H locs cells slots Q (F0 m pc ls (.int v :: .ref (Ad 1) :: rest)) :=
  va_putN (D := D) (ci := 1) (v := .int v) (ty := .int) (C := RX1) (T := TX1) (N := 10) C.1 C.2.1 C.2.2.2.2.2.2.1 inG1 tyX1 tyX1_ok nmX1 C.2.2.2.1 C.2.2.2.2.2.2.2.1 hP ((dW rS hap).weaken (fun _ _ _ h => hin _ h)) hS 1 rfl rfl 8 (by decide) hlink (fun _ h9 => h9) rfl (by decide +kernel) rfl rfl (Nat.le_of_ble_eq_true rfl) hdg (fun H1 locs1 hP1 _ hS1 => kk H1 locs1 hP1 hS1)
theorem gS_chip_outages (C : Cx p s m args meth c own cc nL ret D tys) (hP : va_P D vwCl (wS Ad cy σ μ) H) {index : Nat} (hlink : (Cond.fieldLink own index "SettingStore$Chip" "outages" "I").before args s = true) (hdg : decode cc pc = .ok (.getfield index, 3)) (kk : W p l e R s m args below meth c H locs cells slots Q (F0 m (pc + 3) ls (.int (σ 10) :: rest))) : W p l e R s m args below meth c H locs cells slots Q (F0 m pc ls (.ref (Ad 1) :: rest)) := va_get (D := D) (ci := 1) (v := .int (σ 10)) (C := RX1) (T := TX1) (N := 10) C.1 C.2.1 C.2.2.2.2.2.2.1 inG1 C.2.2.2.1 C.2.2.2.2.2.2.2.1 hP 1 rfl rfl 9 (by decide) hlink (fun _ h9 => h9) rfl hdg kk
theorem pS_chip_outages {v : Int32} (C : Cx p s m args meth c own cc nL ret D tys) (hap : apt 18 Ad) (hin : ∀ q, AS 18 Ad q → A q) (hP : va_P D vwCl (wS Ad cy σ μ) H) (hS : va_S A H0 H locs) {index : Nat} (hlink : (Cond.fieldLink own index "SettingStore$Chip" "outages" "I").before args s = true) (hdg : decode cc pc = .ok (.putfield index, 3)) (kk : ∀ (H1 : Heap) (locs1 : List Loc), va_P D vwCl (wS Ad cy (upd σ 10 v) μ) H1 → va_S A H0 H1 locs1 → W p l e R s m args below meth c H1 locs1 cells slots Q (F0 m (pc + 3) ls rest)) : W p l e R s m args below meth c H locs cells slots Q (F0 m pc ls (.int v :: .ref (Ad 1) :: rest)) :=
  va_put (D := D) (ci := 1) (v := .int v) (ty := .int) (C := RX1) (T := TX1) (N := 10) C.1 C.2.1 C.2.2.2.2.2.2.1 inG1 tyX1 tyX1_ok nmX1 C.2.2.2.1 C.2.2.2.2.2.2.2.1 hP ((dW rS hap).weaken (fun _ _ _ h => hin _ h)) hS 1 rfl rfl 9 (by decide) hlink (fun _ h9 => h9) rfl (by decide +kernel) rfl rfl (Nat.le_of_ble_eq_true rfl) hdg (fun H1 locs1 hP1 _ hS1 => kk H1 locs1 hP1 hS1)
theorem gnS_chip_outages (C : Cx p s m args meth c own cc nL ret D tys) (hP : va_P D vwCl (wS Ad cy σ μ) H) {index : Nat} (hlink : (Cond.fieldLinkNest own index "SettingStore$Chip" "outages" "I" "SettingStore").before args s = true) (hdg : decode cc pc = .ok (.getfield index, 3)) (kk : W p l e R s m args below meth c H locs cells slots Q (F0 m (pc + 3) ls (.int (σ 10) :: rest))) : W p l e R s m args below meth c H locs cells slots Q (F0 m pc ls (.ref (Ad 1) :: rest)) := va_getN (D := D) (ci := 1) (v := .int (σ 10)) (C := RX1) (T := TX1) (N := 10) C.1 C.2.1 C.2.2.2.2.2.2.1 inG1 C.2.2.2.1 C.2.2.2.2.2.2.2.1 hP 1 rfl rfl 9 (by decide) hlink (fun _ h9 => h9) rfl hdg kk
theorem pnS_chip_outages {v : Int32} (C : Cx p s m args meth c own cc nL ret D tys) (hap : apt 18 Ad) (hin : ∀ q, AS 18 Ad q → A q) (hP : va_P D vwCl (wS Ad cy σ μ) H) (hS : va_S A H0 H locs) {index : Nat} (hlink : (Cond.fieldLinkNest own index "SettingStore$Chip" "outages" "I" "SettingStore").before args s = true) (hdg : decode cc pc = .ok (.putfield index, 3)) (kk : ∀ (H1 : Heap) (locs1 : List Loc), va_P D vwCl (wS Ad cy (upd σ 10 v) μ) H1 → va_S A H0 H1 locs1 → W p l e R s m args below meth c H1 locs1 cells slots Q (F0 m (pc + 3) ls rest)) : W p l e R s m args below meth c H locs cells slots Q (F0 m pc ls (.int v :: .ref (Ad 1) :: rest)) :=
  va_putN (D := D) (ci := 1) (v := .int v) (ty := .int) (C := RX1) (T := TX1) (N := 10) C.1 C.2.1 C.2.2.2.2.2.2.1 inG1 tyX1 tyX1_ok nmX1 C.2.2.2.1 C.2.2.2.2.2.2.2.1 hP ((dW rS hap).weaken (fun _ _ _ h => hin _ h)) hS 1 rfl rfl 9 (by decide) hlink (fun _ h9 => h9) rfl (by decide +kernel) rfl rfl (Nat.le_of_ble_eq_true rfl) hdg (fun H1 locs1 hP1 _ hS1 => kk H1 locs1 hP1 hS1)
theorem vS_chip (C : Cx p s m args meth c own cc nL ret D tys) (hP : va_P D vwCl (wS Ad cy σ μ) H) : ∃ cell : Cell, H[Ad 1]? = some cell ∧ cell.vm.isStatics = false ∧ s.vm.findClass RX1 = some cell.cls := va_recv (q0 := 1) (ci := 1) (q := (RX1, TX1, 10)) C.2.2.2.2.2.2.2.1 hP rfl rfl
theorem lS_0 {i : Int32} (C : Cx p s m args meth c own cc nL ret D ((cy, .int) :: tys)) (hP : va_P D vwCl (wS Ad cy σ μ) H) (hin : vp_in i 768) (hdg : decode cc pc = .ok (.iaload, 1)) (kk : W p l e R s m args below meth c H locs cells slots Q (F0 m (pc + 1) ls (.int (μ 0 i.toNatClampNeg) :: rest))) : W p l e R s m args below meth c H locs cells slots Q (F0 m pc ls (.int i :: .ref (Ad 2) :: rest)) := va_iald C.1 C.2.1 C.2.2.2.2.2.2.2.1 hP 2 0 rfl rfl hin hdg kk
theorem nS_0 (C : Cx p s m args meth c own cc nL ret D ((cy, .int) :: tys)) (hP : va_P D vwCl (wS Ad cy σ μ) H) (hdg : decode cc pc = .ok (.arraylength, 1)) (kk : W p l e R s m args below meth c H locs cells slots Q (F0 m (pc + 1) ls (.int 768 :: rest))) : W p l e R s m args below meth c H locs cells slots Q (F0 m pc ls (.ref (Ad 2) :: rest)) := va_alen C.1 C.2.1 C.2.2.2.2.2.2.2.1 hP 2 0 rfl rfl rfl hdg kk
theorem sS_0 {i x : Int32} (C : Cx p s m args meth c own cc nL ret D ((cy, .int) :: tys)) (hap : apt 18 Ad) (hin : ∀ q, AS 18 Ad q → A q) (hP : va_P D vwCl (wS Ad cy σ μ) H) (hS : va_S A H0 H locs) (hi : vp_in i 768) (hdg : decode cc pc = .ok (.iastore, 1)) (kk : ∀ (H1 : Heap) (locs1 : List Loc), va_P D vwCl (wS Ad cy σ (updA μ 0 (upd (μ 0) i.toNatClampNeg x))) H1 → va_S A H0 H1 locs1 → W p l e R s m args below meth c H1 locs1 cells slots Q (F0 m (pc + 1) ls rest)) : W p l e R s m args below meth c H locs cells slots Q (F0 m pc ls (.int x :: .int i :: .ref (Ad 2) :: rest)) := va_iast C.1 C.2.1 C.2.2.2.2.2.2.2.1 hP ((dW rS hap).weaken (fun _ _ _ h => hin _ h)) hS 2 0 rfl rfl hi hdg (fun H1 locs1 hP1 _ hS1 => kk H1 locs1 hP1 hS1)
theorem lS_1 {i : Int32} (C : Cx p s m args meth c own cc nL ret D ((cy, .int) :: tys)) (hP : va_P D vwCl (wS Ad cy σ μ) H) (hin : vp_in i 6) (hdg : decode cc pc = .ok (.iaload, 1)) (kk : W p l e R s m args below meth c H locs cells slots Q (F0 m (pc + 1) ls (.int (μ 1 i.toNatClampNeg) :: rest))) : W p l e R s m args below meth c H locs cells slots Q (F0 m pc ls (.int i :: .ref (Ad 3) :: rest)) := va_iald C.1 C.2.1 C.2.2.2.2.2.2.2.1 hP 3 0 rfl rfl hin hdg kk
theorem nS_1 (C : Cx p s m args meth c own cc nL ret D ((cy, .int) :: tys)) (hP : va_P D vwCl (wS Ad cy σ μ) H) (hdg : decode cc pc = .ok (.arraylength, 1)) (kk : W p l e R s m args below meth c H locs cells slots Q (F0 m (pc + 1) ls (.int 6 :: rest))) : W p l e R s m args below meth c H locs cells slots Q (F0 m pc ls (.ref (Ad 3) :: rest)) := va_alen C.1 C.2.1 C.2.2.2.2.2.2.2.1 hP 3 0 rfl rfl rfl hdg kk
theorem sS_1 {i x : Int32} (C : Cx p s m args meth c own cc nL ret D ((cy, .int) :: tys)) (hap : apt 18 Ad) (hin : ∀ q, AS 18 Ad q → A q) (hP : va_P D vwCl (wS Ad cy σ μ) H) (hS : va_S A H0 H locs) (hi : vp_in i 6) (hdg : decode cc pc = .ok (.iastore, 1)) (kk : ∀ (H1 : Heap) (locs1 : List Loc), va_P D vwCl (wS Ad cy σ (updA μ 1 (upd (μ 1) i.toNatClampNeg x))) H1 → va_S A H0 H1 locs1 → W p l e R s m args below meth c H1 locs1 cells slots Q (F0 m (pc + 1) ls rest)) : W p l e R s m args below meth c H locs cells slots Q (F0 m pc ls (.int x :: .int i :: .ref (Ad 3) :: rest)) := va_iast C.1 C.2.1 C.2.2.2.2.2.2.2.1 hP ((dW rS hap).weaken (fun _ _ _ h => hin _ h)) hS 3 0 rfl rfl hi hdg (fun H1 locs1 hP1 _ hS1 => kk H1 locs1 hP1 hS1)
theorem gS_reading_row (C : Cx p s m args meth c own cc nL ret D tys) (hP : va_P D vwCl (wS Ad cy σ μ) H) {index : Nat} (hlink : (Cond.fieldLink own index "SettingStore$Reading" "row" "[I").before args s = true) (hdg : decode cc pc = .ok (.getfield index, 3)) (kk : W p l e R s m args below meth c H locs cells slots Q (F0 m (pc + 3) ls (.ref (Ad 5) :: rest))) : W p l e R s m args below meth c H locs cells slots Q (F0 m pc ls (.ref (Ad 4) :: rest)) := va_get (D := D) (ci := 3) (v := .ref (Ad 5)) (C := RX3) (T := TX3) (N := 11) C.1 C.2.1 C.2.2.2.2.2.2.1 inG3 C.2.2.2.1 C.2.2.2.2.2.2.2.1 hP 4 rfl rfl 0 (by decide) hlink (fun _ h9 => h9) rfl hdg kk
theorem gnS_reading_row (C : Cx p s m args meth c own cc nL ret D tys) (hP : va_P D vwCl (wS Ad cy σ μ) H) {index : Nat} (hlink : (Cond.fieldLinkNest own index "SettingStore$Reading" "row" "[I" "SettingStore").before args s = true) (hdg : decode cc pc = .ok (.getfield index, 3)) (kk : W p l e R s m args below meth c H locs cells slots Q (F0 m (pc + 3) ls (.ref (Ad 5) :: rest))) : W p l e R s m args below meth c H locs cells slots Q (F0 m pc ls (.ref (Ad 4) :: rest)) := va_getN (D := D) (ci := 3) (v := .ref (Ad 5)) (C := RX3) (T := TX3) (N := 11) C.1 C.2.1 C.2.2.2.2.2.2.1 inG3 C.2.2.2.1 C.2.2.2.2.2.2.2.1 hP 4 rfl rfl 0 (by decide) hlink (fun _ h9 => h9) rfl hdg kk
theorem gS_reading_places (C : Cx p s m args meth c own cc nL ret D tys) (hP : va_P D vwCl (wS Ad cy σ μ) H) {index : Nat} (hlink : (Cond.fieldLink own index "SettingStore$Reading" "places" "[I").before args s = true) (hdg : decode cc pc = .ok (.getfield index, 3)) (kk : W p l e R s m args below meth c H locs cells slots Q (F0 m (pc + 3) ls (.ref (Ad 6) :: rest))) : W p l e R s m args below meth c H locs cells slots Q (F0 m pc ls (.ref (Ad 4) :: rest)) := va_get (D := D) (ci := 3) (v := .ref (Ad 6)) (C := RX3) (T := TX3) (N := 11) C.1 C.2.1 C.2.2.2.2.2.2.1 inG3 C.2.2.2.1 C.2.2.2.2.2.2.2.1 hP 4 rfl rfl 1 (by decide) hlink (fun _ h9 => h9) rfl hdg kk
theorem gnS_reading_places (C : Cx p s m args meth c own cc nL ret D tys) (hP : va_P D vwCl (wS Ad cy σ μ) H) {index : Nat} (hlink : (Cond.fieldLinkNest own index "SettingStore$Reading" "places" "[I" "SettingStore").before args s = true) (hdg : decode cc pc = .ok (.getfield index, 3)) (kk : W p l e R s m args below meth c H locs cells slots Q (F0 m (pc + 3) ls (.ref (Ad 6) :: rest))) : W p l e R s m args below meth c H locs cells slots Q (F0 m pc ls (.ref (Ad 4) :: rest)) := va_getN (D := D) (ci := 3) (v := .ref (Ad 6)) (C := RX3) (T := TX3) (N := 11) C.1 C.2.1 C.2.2.2.2.2.2.1 inG3 C.2.2.2.1 C.2.2.2.2.2.2.2.1 hP 4 rfl rfl 1 (by decide) hlink (fun _ h9 => h9) rfl hdg kk
theorem gS_reading_kinds (C : Cx p s m args meth c own cc nL ret D tys) (hP : va_P D vwCl (wS Ad cy σ μ) H) {index : Nat} (hlink : (Cond.fieldLink own index "SettingStore$Reading" "kinds" "[I").before args s = true) (hdg : decode cc pc = .ok (.getfield index, 3)) (kk : W p l e R s m args below meth c H locs cells slots Q (F0 m (pc + 3) ls (.ref (Ad 7) :: rest))) : W p l e R s m args below meth c H locs cells slots Q (F0 m pc ls (.ref (Ad 4) :: rest)) := va_get (D := D) (ci := 3) (v := .ref (Ad 7)) (C := RX3) (T := TX3) (N := 11) C.1 C.2.1 C.2.2.2.2.2.2.1 inG3 C.2.2.2.1 C.2.2.2.2.2.2.2.1 hP 4 rfl rfl 2 (by decide) hlink (fun _ h9 => h9) rfl hdg kk
theorem gnS_reading_kinds (C : Cx p s m args meth c own cc nL ret D tys) (hP : va_P D vwCl (wS Ad cy σ μ) H) {index : Nat} (hlink : (Cond.fieldLinkNest own index "SettingStore$Reading" "kinds" "[I" "SettingStore").before args s = true) (hdg : decode cc pc = .ok (.getfield index, 3)) (kk : W p l e R s m args below meth c H locs cells slots Q (F0 m (pc + 3) ls (.ref (Ad 7) :: rest))) : W p l e R s m args below meth c H locs cells slots Q (F0 m pc ls (.ref (Ad 4) :: rest)) := va_getN (D := D) (ci := 3) (v := .ref (Ad 7)) (C := RX3) (T := TX3) (N := 11) C.1 C.2.1 C.2.2.2.2.2.2.1 inG3 C.2.2.2.1 C.2.2.2.2.2.2.2.1 hP 4 rfl rfl 2 (by decide) hlink (fun _ h9 => h9) rfl hdg kk
theorem gS_reading_labels (C : Cx p s m args meth c own cc nL ret D tys) (hP : va_P D vwCl (wS Ad cy σ μ) H) {index : Nat} (hlink : (Cond.fieldLink own index "SettingStore$Reading" "labels" "[I").before args s = true) (hdg : decode cc pc = .ok (.getfield index, 3)) (kk : W p l e R s m args below meth c H locs cells slots Q (F0 m (pc + 3) ls (.ref (Ad 8) :: rest))) : W p l e R s m args below meth c H locs cells slots Q (F0 m pc ls (.ref (Ad 4) :: rest)) := va_get (D := D) (ci := 3) (v := .ref (Ad 8)) (C := RX3) (T := TX3) (N := 11) C.1 C.2.1 C.2.2.2.2.2.2.1 inG3 C.2.2.2.1 C.2.2.2.2.2.2.2.1 hP 4 rfl rfl 3 (by decide) hlink (fun _ h9 => h9) rfl hdg kk
theorem gnS_reading_labels (C : Cx p s m args meth c own cc nL ret D tys) (hP : va_P D vwCl (wS Ad cy σ μ) H) {index : Nat} (hlink : (Cond.fieldLinkNest own index "SettingStore$Reading" "labels" "[I" "SettingStore").before args s = true) (hdg : decode cc pc = .ok (.getfield index, 3)) (kk : W p l e R s m args below meth c H locs cells slots Q (F0 m (pc + 3) ls (.ref (Ad 8) :: rest))) : W p l e R s m args below meth c H locs cells slots Q (F0 m pc ls (.ref (Ad 4) :: rest)) := va_getN (D := D) (ci := 3) (v := .ref (Ad 8)) (C := RX3) (T := TX3) (N := 11) C.1 C.2.1 C.2.2.2.2.2.2.1 inG3 C.2.2.2.1 C.2.2.2.2.2.2.2.1 hP 4 rfl rfl 3 (by decide) hlink (fun _ h9 => h9) rfl hdg kk
theorem gS_reading_sizes (C : Cx p s m args meth c own cc nL ret D tys) (hP : va_P D vwCl (wS Ad cy σ μ) H) {index : Nat} (hlink : (Cond.fieldLink own index "SettingStore$Reading" "sizes" "[I").before args s = true) (hdg : decode cc pc = .ok (.getfield index, 3)) (kk : W p l e R s m args below meth c H locs cells slots Q (F0 m (pc + 3) ls (.ref (Ad 9) :: rest))) : W p l e R s m args below meth c H locs cells slots Q (F0 m pc ls (.ref (Ad 4) :: rest)) := va_get (D := D) (ci := 3) (v := .ref (Ad 9)) (C := RX3) (T := TX3) (N := 11) C.1 C.2.1 C.2.2.2.2.2.2.1 inG3 C.2.2.2.1 C.2.2.2.2.2.2.2.1 hP 4 rfl rfl 4 (by decide) hlink (fun _ h9 => h9) rfl hdg kk
theorem gnS_reading_sizes (C : Cx p s m args meth c own cc nL ret D tys) (hP : va_P D vwCl (wS Ad cy σ μ) H) {index : Nat} (hlink : (Cond.fieldLinkNest own index "SettingStore$Reading" "sizes" "[I" "SettingStore").before args s = true) (hdg : decode cc pc = .ok (.getfield index, 3)) (kk : W p l e R s m args below meth c H locs cells slots Q (F0 m (pc + 3) ls (.ref (Ad 9) :: rest))) : W p l e R s m args below meth c H locs cells slots Q (F0 m pc ls (.ref (Ad 4) :: rest)) := va_getN (D := D) (ci := 3) (v := .ref (Ad 9)) (C := RX3) (T := TX3) (N := 11) C.1 C.2.1 C.2.2.2.2.2.2.1 inG3 C.2.2.2.1 C.2.2.2.2.2.2.2.1 hP 4 rfl rfl 4 (by decide) hlink (fun _ h9 => h9) rfl hdg kk
theorem gS_reading_marks (C : Cx p s m args meth c own cc nL ret D tys) (hP : va_P D vwCl (wS Ad cy σ μ) H) {index : Nat} (hlink : (Cond.fieldLink own index "SettingStore$Reading" "marks" "[I").before args s = true) (hdg : decode cc pc = .ok (.getfield index, 3)) (kk : W p l e R s m args below meth c H locs cells slots Q (F0 m (pc + 3) ls (.ref (Ad 10) :: rest))) : W p l e R s m args below meth c H locs cells slots Q (F0 m pc ls (.ref (Ad 4) :: rest)) := va_get (D := D) (ci := 3) (v := .ref (Ad 10)) (C := RX3) (T := TX3) (N := 11) C.1 C.2.1 C.2.2.2.2.2.2.1 inG3 C.2.2.2.1 C.2.2.2.2.2.2.2.1 hP 4 rfl rfl 5 (by decide) hlink (fun _ h9 => h9) rfl hdg kk
theorem gnS_reading_marks (C : Cx p s m args meth c own cc nL ret D tys) (hP : va_P D vwCl (wS Ad cy σ μ) H) {index : Nat} (hlink : (Cond.fieldLinkNest own index "SettingStore$Reading" "marks" "[I" "SettingStore").before args s = true) (hdg : decode cc pc = .ok (.getfield index, 3)) (kk : W p l e R s m args below meth c H locs cells slots Q (F0 m (pc + 3) ls (.ref (Ad 10) :: rest))) : W p l e R s m args below meth c H locs cells slots Q (F0 m pc ls (.ref (Ad 4) :: rest)) := va_getN (D := D) (ci := 3) (v := .ref (Ad 10)) (C := RX3) (T := TX3) (N := 11) C.1 C.2.1 C.2.2.2.2.2.2.1 inG3 C.2.2.2.1 C.2.2.2.2.2.2.2.1 hP 4 rfl rfl 5 (by decide) hlink (fun _ h9 => h9) rfl hdg kk
theorem gS_reading_newest (C : Cx p s m args meth c own cc nL ret D tys) (hP : va_P D vwCl (wS Ad cy σ μ) H) {index : Nat} (hlink : (Cond.fieldLink own index "SettingStore$Reading" "newest" "[I").before args s = true) (hdg : decode cc pc = .ok (.getfield index, 3)) (kk : W p l e R s m args below meth c H locs cells slots Q (F0 m (pc + 3) ls (.ref (Ad 11) :: rest))) : W p l e R s m args below meth c H locs cells slots Q (F0 m pc ls (.ref (Ad 4) :: rest)) := va_get (D := D) (ci := 3) (v := .ref (Ad 11)) (C := RX3) (T := TX3) (N := 11) C.1 C.2.1 C.2.2.2.2.2.2.1 inG3 C.2.2.2.1 C.2.2.2.2.2.2.2.1 hP 4 rfl rfl 6 (by decide) hlink (fun _ h9 => h9) rfl hdg kk
theorem gnS_reading_newest (C : Cx p s m args meth c own cc nL ret D tys) (hP : va_P D vwCl (wS Ad cy σ μ) H) {index : Nat} (hlink : (Cond.fieldLinkNest own index "SettingStore$Reading" "newest" "[I" "SettingStore").before args s = true) (hdg : decode cc pc = .ok (.getfield index, 3)) (kk : W p l e R s m args below meth c H locs cells slots Q (F0 m (pc + 3) ls (.ref (Ad 11) :: rest))) : W p l e R s m args below meth c H locs cells slots Q (F0 m pc ls (.ref (Ad 4) :: rest)) := va_getN (D := D) (ci := 3) (v := .ref (Ad 11)) (C := RX3) (T := TX3) (N := 11) C.1 C.2.1 C.2.2.2.2.2.2.1 inG3 C.2.2.2.1 C.2.2.2.2.2.2.2.1 hP 4 rfl rfl 6 (by decide) hlink (fun _ h9 => h9) rfl hdg kk
theorem gS_reading_size (C : Cx p s m args meth c own cc nL ret D tys) (hP : va_P D vwCl (wS Ad cy σ μ) H) {index : Nat} (hlink : (Cond.fieldLink own index "SettingStore$Reading" "size" "I").before args s = true) (hdg : decode cc pc = .ok (.getfield index, 3)) (kk : W p l e R s m args below meth c H locs cells slots Q (F0 m (pc + 3) ls (.int (σ 11) :: rest))) : W p l e R s m args below meth c H locs cells slots Q (F0 m pc ls (.ref (Ad 4) :: rest)) := va_get (D := D) (ci := 3) (v := .int (σ 11)) (C := RX3) (T := TX3) (N := 11) C.1 C.2.1 C.2.2.2.2.2.2.1 inG3 C.2.2.2.1 C.2.2.2.2.2.2.2.1 hP 4 rfl rfl 7 (by decide) hlink (fun _ h9 => h9) rfl hdg kk
theorem pS_reading_size {v : Int32} (C : Cx p s m args meth c own cc nL ret D tys) (hap : apt 18 Ad) (hin : ∀ q, AS 18 Ad q → A q) (hP : va_P D vwCl (wS Ad cy σ μ) H) (hS : va_S A H0 H locs) {index : Nat} (hlink : (Cond.fieldLink own index "SettingStore$Reading" "size" "I").before args s = true) (hdg : decode cc pc = .ok (.putfield index, 3)) (kk : ∀ (H1 : Heap) (locs1 : List Loc), va_P D vwCl (wS Ad cy (upd σ 11 v) μ) H1 → va_S A H0 H1 locs1 → W p l e R s m args below meth c H1 locs1 cells slots Q (F0 m (pc + 3) ls rest)) : W p l e R s m args below meth c H locs cells slots Q (F0 m pc ls (.int v :: .ref (Ad 4) :: rest)) :=
  va_put (D := D) (ci := 3) (v := .int v) (ty := .int) (C := RX3) (T := TX3) (N := 11) C.1 C.2.1 C.2.2.2.2.2.2.1 inG3 tyX3 tyX3_ok nmX3 C.2.2.2.1 C.2.2.2.2.2.2.2.1 hP ((dW rS hap).weaken (fun _ _ _ h => hin _ h)) hS 4 rfl rfl 7 (by decide) hlink (fun _ h9 => h9) rfl (by decide +kernel) rfl rfl (Nat.le_of_ble_eq_true rfl) hdg (fun H1 locs1 hP1 _ hS1 => kk H1 locs1 hP1 hS1)
theorem gnS_reading_size (C : Cx p s m args meth c own cc nL ret D tys) (hP : va_P D vwCl (wS Ad cy σ μ) H) {index : Nat} (hlink : (Cond.fieldLinkNest own index "SettingStore$Reading" "size" "I" "SettingStore").before args s = true) (hdg : decode cc pc = .ok (.getfield index, 3)) (kk : W p l e R s m args below meth c H locs cells slots Q (F0 m (pc + 3) ls (.int (σ 11) :: rest))) : W p l e R s m args below meth c H locs cells slots Q (F0 m pc ls (.ref (Ad 4) :: rest)) := va_getN (D := D) (ci := 3) (v := .int (σ 11)) (C := RX3) (T := TX3) (N := 11) C.1 C.2.1 C.2.2.2.2.2.2.1 inG3 C.2.2.2.1 C.2.2.2.2.2.2.2.1 hP 4 rfl rfl 7 (by decide) hlink (fun _ h9 => h9) rfl hdg kk
theorem pnS_reading_size {v : Int32} (C : Cx p s m args meth c own cc nL ret D tys) (hap : apt 18 Ad) (hin : ∀ q, AS 18 Ad q → A q) (hP : va_P D vwCl (wS Ad cy σ μ) H) (hS : va_S A H0 H locs) {index : Nat} (hlink : (Cond.fieldLinkNest own index "SettingStore$Reading" "size" "I" "SettingStore").before args s = true) (hdg : decode cc pc = .ok (.putfield index, 3)) (kk : ∀ (H1 : Heap) (locs1 : List Loc), va_P D vwCl (wS Ad cy (upd σ 11 v) μ) H1 → va_S A H0 H1 locs1 → W p l e R s m args below meth c H1 locs1 cells slots Q (F0 m (pc + 3) ls rest)) : W p l e R s m args below meth c H locs cells slots Q (F0 m pc ls (.int v :: .ref (Ad 4) :: rest)) :=
  va_putN (D := D) (ci := 3) (v := .int v) (ty := .int) (C := RX3) (T := TX3) (N := 11) C.1 C.2.1 C.2.2.2.2.2.2.1 inG3 tyX3 tyX3_ok nmX3 C.2.2.2.1 C.2.2.2.2.2.2.2.1 hP ((dW rS hap).weaken (fun _ _ _ h => hin _ h)) hS 4 rfl rfl 7 (by decide) hlink (fun _ h9 => h9) rfl (by decide +kernel) rfl rfl (Nat.le_of_ble_eq_true rfl) hdg (fun H1 locs1 hP1 _ hS1 => kk H1 locs1 hP1 hS1)
theorem gS_reading_entries (C : Cx p s m args meth c own cc nL ret D tys) (hP : va_P D vwCl (wS Ad cy σ μ) H) {index : Nat} (hlink : (Cond.fieldLink own index "SettingStore$Reading" "entries" "I").before args s = true) (hdg : decode cc pc = .ok (.getfield index, 3)) (kk : W p l e R s m args below meth c H locs cells slots Q (F0 m (pc + 3) ls (.int (σ 12) :: rest))) : W p l e R s m args below meth c H locs cells slots Q (F0 m pc ls (.ref (Ad 4) :: rest)) := va_get (D := D) (ci := 3) (v := .int (σ 12)) (C := RX3) (T := TX3) (N := 11) C.1 C.2.1 C.2.2.2.2.2.2.1 inG3 C.2.2.2.1 C.2.2.2.2.2.2.2.1 hP 4 rfl rfl 8 (by decide) hlink (fun _ h9 => h9) rfl hdg kk
theorem pS_reading_entries {v : Int32} (C : Cx p s m args meth c own cc nL ret D tys) (hap : apt 18 Ad) (hin : ∀ q, AS 18 Ad q → A q) (hP : va_P D vwCl (wS Ad cy σ μ) H) (hS : va_S A H0 H locs) {index : Nat} (hlink : (Cond.fieldLink own index "SettingStore$Reading" "entries" "I").before args s = true) (hdg : decode cc pc = .ok (.putfield index, 3)) (kk : ∀ (H1 : Heap) (locs1 : List Loc), va_P D vwCl (wS Ad cy (upd σ 12 v) μ) H1 → va_S A H0 H1 locs1 → W p l e R s m args below meth c H1 locs1 cells slots Q (F0 m (pc + 3) ls rest)) : W p l e R s m args below meth c H locs cells slots Q (F0 m pc ls (.int v :: .ref (Ad 4) :: rest)) :=
  va_put (D := D) (ci := 3) (v := .int v) (ty := .int) (C := RX3) (T := TX3) (N := 11) C.1 C.2.1 C.2.2.2.2.2.2.1 inG3 tyX3 tyX3_ok nmX3 C.2.2.2.1 C.2.2.2.2.2.2.2.1 hP ((dW rS hap).weaken (fun _ _ _ h => hin _ h)) hS 4 rfl rfl 8 (by decide) hlink (fun _ h9 => h9) rfl (by decide +kernel) rfl rfl (Nat.le_of_ble_eq_true rfl) hdg (fun H1 locs1 hP1 _ hS1 => kk H1 locs1 hP1 hS1)
theorem gnS_reading_entries (C : Cx p s m args meth c own cc nL ret D tys) (hP : va_P D vwCl (wS Ad cy σ μ) H) {index : Nat} (hlink : (Cond.fieldLinkNest own index "SettingStore$Reading" "entries" "I" "SettingStore").before args s = true) (hdg : decode cc pc = .ok (.getfield index, 3)) (kk : W p l e R s m args below meth c H locs cells slots Q (F0 m (pc + 3) ls (.int (σ 12) :: rest))) : W p l e R s m args below meth c H locs cells slots Q (F0 m pc ls (.ref (Ad 4) :: rest)) := va_getN (D := D) (ci := 3) (v := .int (σ 12)) (C := RX3) (T := TX3) (N := 11) C.1 C.2.1 C.2.2.2.2.2.2.1 inG3 C.2.2.2.1 C.2.2.2.2.2.2.2.1 hP 4 rfl rfl 8 (by decide) hlink (fun _ h9 => h9) rfl hdg kk
theorem pnS_reading_entries {v : Int32} (C : Cx p s m args meth c own cc nL ret D tys) (hap : apt 18 Ad) (hin : ∀ q, AS 18 Ad q → A q) (hP : va_P D vwCl (wS Ad cy σ μ) H) (hS : va_S A H0 H locs) {index : Nat} (hlink : (Cond.fieldLinkNest own index "SettingStore$Reading" "entries" "I" "SettingStore").before args s = true) (hdg : decode cc pc = .ok (.putfield index, 3)) (kk : ∀ (H1 : Heap) (locs1 : List Loc), va_P D vwCl (wS Ad cy (upd σ 12 v) μ) H1 → va_S A H0 H1 locs1 → W p l e R s m args below meth c H1 locs1 cells slots Q (F0 m (pc + 3) ls rest)) : W p l e R s m args below meth c H locs cells slots Q (F0 m pc ls (.int v :: .ref (Ad 4) :: rest)) :=
  va_putN (D := D) (ci := 3) (v := .int v) (ty := .int) (C := RX3) (T := TX3) (N := 11) C.1 C.2.1 C.2.2.2.2.2.2.1 inG3 tyX3 tyX3_ok nmX3 C.2.2.2.1 C.2.2.2.2.2.2.2.1 hP ((dW rS hap).weaken (fun _ _ _ h => hin _ h)) hS 4 rfl rfl 8 (by decide) hlink (fun _ h9 => h9) rfl (by decide +kernel) rfl rfl (Nat.le_of_ble_eq_true rfl) hdg (fun H1 locs1 hP1 _ hS1 => kk H1 locs1 hP1 hS1)
theorem gS_reading_free (C : Cx p s m args meth c own cc nL ret D tys) (hP : va_P D vwCl (wS Ad cy σ μ) H) {index : Nat} (hlink : (Cond.fieldLink own index "SettingStore$Reading" "free" "I").before args s = true) (hdg : decode cc pc = .ok (.getfield index, 3)) (kk : W p l e R s m args below meth c H locs cells slots Q (F0 m (pc + 3) ls (.int (σ 13) :: rest))) : W p l e R s m args below meth c H locs cells slots Q (F0 m pc ls (.ref (Ad 4) :: rest)) := va_get (D := D) (ci := 3) (v := .int (σ 13)) (C := RX3) (T := TX3) (N := 11) C.1 C.2.1 C.2.2.2.2.2.2.1 inG3 C.2.2.2.1 C.2.2.2.2.2.2.2.1 hP 4 rfl rfl 9 (by decide) hlink (fun _ h9 => h9) rfl hdg kk
theorem pS_reading_free {v : Int32} (C : Cx p s m args meth c own cc nL ret D tys) (hap : apt 18 Ad) (hin : ∀ q, AS 18 Ad q → A q) (hP : va_P D vwCl (wS Ad cy σ μ) H) (hS : va_S A H0 H locs) {index : Nat} (hlink : (Cond.fieldLink own index "SettingStore$Reading" "free" "I").before args s = true) (hdg : decode cc pc = .ok (.putfield index, 3)) (kk : ∀ (H1 : Heap) (locs1 : List Loc), va_P D vwCl (wS Ad cy (upd σ 13 v) μ) H1 → va_S A H0 H1 locs1 → W p l e R s m args below meth c H1 locs1 cells slots Q (F0 m (pc + 3) ls rest)) : W p l e R s m args below meth c H locs cells slots Q (F0 m pc ls (.int v :: .ref (Ad 4) :: rest)) :=
  va_put (D := D) (ci := 3) (v := .int v) (ty := .int) (C := RX3) (T := TX3) (N := 11) C.1 C.2.1 C.2.2.2.2.2.2.1 inG3 tyX3 tyX3_ok nmX3 C.2.2.2.1 C.2.2.2.2.2.2.2.1 hP ((dW rS hap).weaken (fun _ _ _ h => hin _ h)) hS 4 rfl rfl 9 (by decide) hlink (fun _ h9 => h9) rfl (by decide +kernel) rfl rfl (Nat.le_of_ble_eq_true rfl) hdg (fun H1 locs1 hP1 _ hS1 => kk H1 locs1 hP1 hS1)
theorem gnS_reading_free (C : Cx p s m args meth c own cc nL ret D tys) (hP : va_P D vwCl (wS Ad cy σ μ) H) {index : Nat} (hlink : (Cond.fieldLinkNest own index "SettingStore$Reading" "free" "I" "SettingStore").before args s = true) (hdg : decode cc pc = .ok (.getfield index, 3)) (kk : W p l e R s m args below meth c H locs cells slots Q (F0 m (pc + 3) ls (.int (σ 13) :: rest))) : W p l e R s m args below meth c H locs cells slots Q (F0 m pc ls (.ref (Ad 4) :: rest)) := va_getN (D := D) (ci := 3) (v := .int (σ 13)) (C := RX3) (T := TX3) (N := 11) C.1 C.2.1 C.2.2.2.2.2.2.1 inG3 C.2.2.2.1 C.2.2.2.2.2.2.2.1 hP 4 rfl rfl 9 (by decide) hlink (fun _ h9 => h9) rfl hdg kk
theorem pnS_reading_free {v : Int32} (C : Cx p s m args meth c own cc nL ret D tys) (hap : apt 18 Ad) (hin : ∀ q, AS 18 Ad q → A q) (hP : va_P D vwCl (wS Ad cy σ μ) H) (hS : va_S A H0 H locs) {index : Nat} (hlink : (Cond.fieldLinkNest own index "SettingStore$Reading" "free" "I" "SettingStore").before args s = true) (hdg : decode cc pc = .ok (.putfield index, 3)) (kk : ∀ (H1 : Heap) (locs1 : List Loc), va_P D vwCl (wS Ad cy (upd σ 13 v) μ) H1 → va_S A H0 H1 locs1 → W p l e R s m args below meth c H1 locs1 cells slots Q (F0 m (pc + 3) ls rest)) : W p l e R s m args below meth c H locs cells slots Q (F0 m pc ls (.int v :: .ref (Ad 4) :: rest)) :=
  va_putN (D := D) (ci := 3) (v := .int v) (ty := .int) (C := RX3) (T := TX3) (N := 11) C.1 C.2.1 C.2.2.2.2.2.2.1 inG3 tyX3 tyX3_ok nmX3 C.2.2.2.1 C.2.2.2.2.2.2.2.1 hP ((dW rS hap).weaken (fun _ _ _ h => hin _ h)) hS 4 rfl rfl 9 (by decide) hlink (fun _ h9 => h9) rfl (by decide +kernel) rfl rfl (Nat.le_of_ble_eq_true rfl) hdg (fun H1 locs1 hP1 _ hS1 => kk H1 locs1 hP1 hS1)
theorem gS_reading_lost (C : Cx p s m args meth c own cc nL ret D tys) (hP : va_P D vwCl (wS Ad cy σ μ) H) {index : Nat} (hlink : (Cond.fieldLink own index "SettingStore$Reading" "lost" "I").before args s = true) (hdg : decode cc pc = .ok (.getfield index, 3)) (kk : W p l e R s m args below meth c H locs cells slots Q (F0 m (pc + 3) ls (.int (σ 14) :: rest))) : W p l e R s m args below meth c H locs cells slots Q (F0 m pc ls (.ref (Ad 4) :: rest)) := va_get (D := D) (ci := 3) (v := .int (σ 14)) (C := RX3) (T := TX3) (N := 11) C.1 C.2.1 C.2.2.2.2.2.2.1 inG3 C.2.2.2.1 C.2.2.2.2.2.2.2.1 hP 4 rfl rfl 10 (by decide) hlink (fun _ h9 => h9) rfl hdg kk
theorem pS_reading_lost {v : Int32} (C : Cx p s m args meth c own cc nL ret D tys) (hap : apt 18 Ad) (hin : ∀ q, AS 18 Ad q → A q) (hP : va_P D vwCl (wS Ad cy σ μ) H) (hS : va_S A H0 H locs) {index : Nat} (hlink : (Cond.fieldLink own index "SettingStore$Reading" "lost" "I").before args s = true) (hdg : decode cc pc = .ok (.putfield index, 3)) (kk : ∀ (H1 : Heap) (locs1 : List Loc), va_P D vwCl (wS Ad cy (upd σ 14 v) μ) H1 → va_S A H0 H1 locs1 → W p l e R s m args below meth c H1 locs1 cells slots Q (F0 m (pc + 3) ls rest)) : W p l e R s m args below meth c H locs cells slots Q (F0 m pc ls (.int v :: .ref (Ad 4) :: rest)) :=
  va_put (D := D) (ci := 3) (v := .int v) (ty := .int) (C := RX3) (T := TX3) (N := 11) C.1 C.2.1 C.2.2.2.2.2.2.1 inG3 tyX3 tyX3_ok nmX3 C.2.2.2.1 C.2.2.2.2.2.2.2.1 hP ((dW rS hap).weaken (fun _ _ _ h => hin _ h)) hS 4 rfl rfl 10 (by decide) hlink (fun _ h9 => h9) rfl (by decide +kernel) rfl rfl (Nat.le_of_ble_eq_true rfl) hdg (fun H1 locs1 hP1 _ hS1 => kk H1 locs1 hP1 hS1)
theorem gnS_reading_lost (C : Cx p s m args meth c own cc nL ret D tys) (hP : va_P D vwCl (wS Ad cy σ μ) H) {index : Nat} (hlink : (Cond.fieldLinkNest own index "SettingStore$Reading" "lost" "I" "SettingStore").before args s = true) (hdg : decode cc pc = .ok (.getfield index, 3)) (kk : W p l e R s m args below meth c H locs cells slots Q (F0 m (pc + 3) ls (.int (σ 14) :: rest))) : W p l e R s m args below meth c H locs cells slots Q (F0 m pc ls (.ref (Ad 4) :: rest)) := va_getN (D := D) (ci := 3) (v := .int (σ 14)) (C := RX3) (T := TX3) (N := 11) C.1 C.2.1 C.2.2.2.2.2.2.1 inG3 C.2.2.2.1 C.2.2.2.2.2.2.2.1 hP 4 rfl rfl 10 (by decide) hlink (fun _ h9 => h9) rfl hdg kk
theorem pnS_reading_lost {v : Int32} (C : Cx p s m args meth c own cc nL ret D tys) (hap : apt 18 Ad) (hin : ∀ q, AS 18 Ad q → A q) (hP : va_P D vwCl (wS Ad cy σ μ) H) (hS : va_S A H0 H locs) {index : Nat} (hlink : (Cond.fieldLinkNest own index "SettingStore$Reading" "lost" "I" "SettingStore").before args s = true) (hdg : decode cc pc = .ok (.putfield index, 3)) (kk : ∀ (H1 : Heap) (locs1 : List Loc), va_P D vwCl (wS Ad cy (upd σ 14 v) μ) H1 → va_S A H0 H1 locs1 → W p l e R s m args below meth c H1 locs1 cells slots Q (F0 m (pc + 3) ls rest)) : W p l e R s m args below meth c H locs cells slots Q (F0 m pc ls (.int v :: .ref (Ad 4) :: rest)) :=
  va_putN (D := D) (ci := 3) (v := .int v) (ty := .int) (C := RX3) (T := TX3) (N := 11) C.1 C.2.1 C.2.2.2.2.2.2.1 inG3 tyX3 tyX3_ok nmX3 C.2.2.2.1 C.2.2.2.2.2.2.2.1 hP ((dW rS hap).weaken (fun _ _ _ h => hin _ h)) hS 4 rfl rfl 10 (by decide) hlink (fun _ h9 => h9) rfl (by decide +kernel) rfl rfl (Nat.le_of_ble_eq_true rfl) hdg (fun H1 locs1 hP1 _ hS1 => kk H1 locs1 hP1 hS1)
theorem vS_reading (C : Cx p s m args meth c own cc nL ret D tys) (hP : va_P D vwCl (wS Ad cy σ μ) H) : ∃ cell : Cell, H[Ad 4]? = some cell ∧ cell.vm.isStatics = false ∧ s.vm.findClass RX3 = some cell.cls := va_recv (q0 := 4) (ci := 3) (q := (RX3, TX3, 11)) C.2.2.2.2.2.2.2.1 hP rfl rfl
theorem lS_2 {i : Int32} (C : Cx p s m args meth c own cc nL ret D ((cy, .int) :: tys)) (hP : va_P D vwCl (wS Ad cy σ μ) H) (hin : vp_in i 128) (hdg : decode cc pc = .ok (.iaload, 1)) (kk : W p l e R s m args below meth c H locs cells slots Q (F0 m (pc + 1) ls (.int (μ 2 i.toNatClampNeg) :: rest))) : W p l e R s m args below meth c H locs cells slots Q (F0 m pc ls (.int i :: .ref (Ad 5) :: rest)) := va_iald C.1 C.2.1 C.2.2.2.2.2.2.2.1 hP 5 0 rfl rfl hin hdg kk
theorem nS_2 (C : Cx p s m args meth c own cc nL ret D ((cy, .int) :: tys)) (hP : va_P D vwCl (wS Ad cy σ μ) H) (hdg : decode cc pc = .ok (.arraylength, 1)) (kk : W p l e R s m args below meth c H locs cells slots Q (F0 m (pc + 1) ls (.int 128 :: rest))) : W p l e R s m args below meth c H locs cells slots Q (F0 m pc ls (.ref (Ad 5) :: rest)) := va_alen C.1 C.2.1 C.2.2.2.2.2.2.2.1 hP 5 0 rfl rfl rfl hdg kk
theorem sS_2 {i x : Int32} (C : Cx p s m args meth c own cc nL ret D ((cy, .int) :: tys)) (hap : apt 18 Ad) (hin : ∀ q, AS 18 Ad q → A q) (hP : va_P D vwCl (wS Ad cy σ μ) H) (hS : va_S A H0 H locs) (hi : vp_in i 128) (hdg : decode cc pc = .ok (.iastore, 1)) (kk : ∀ (H1 : Heap) (locs1 : List Loc), va_P D vwCl (wS Ad cy σ (updA μ 2 (upd (μ 2) i.toNatClampNeg x))) H1 → va_S A H0 H1 locs1 → W p l e R s m args below meth c H1 locs1 cells slots Q (F0 m (pc + 1) ls rest)) : W p l e R s m args below meth c H locs cells slots Q (F0 m pc ls (.int x :: .int i :: .ref (Ad 5) :: rest)) := va_iast C.1 C.2.1 C.2.2.2.2.2.2.2.1 hP ((dW rS hap).weaken (fun _ _ _ h => hin _ h)) hS 5 0 rfl rfl hi hdg (fun H1 locs1 hP1 _ hS1 => kk H1 locs1 hP1 hS1)
theorem lS_3 {i : Int32} (C : Cx p s m args meth c own cc nL ret D ((cy, .int) :: tys)) (hP : va_P D vwCl (wS Ad cy σ μ) H) (hin : vp_in i 41) (hdg : decode cc pc = .ok (.iaload, 1)) (kk : W p l e R s m args below meth c H locs cells slots Q (F0 m (pc + 1) ls (.int (μ 3 i.toNatClampNeg) :: rest))) : W p l e R s m args below meth c H locs cells slots Q (F0 m pc ls (.int i :: .ref (Ad 6) :: rest)) := va_iald C.1 C.2.1 C.2.2.2.2.2.2.2.1 hP 6 0 rfl rfl hin hdg kk
theorem nS_3 (C : Cx p s m args meth c own cc nL ret D ((cy, .int) :: tys)) (hP : va_P D vwCl (wS Ad cy σ μ) H) (hdg : decode cc pc = .ok (.arraylength, 1)) (kk : W p l e R s m args below meth c H locs cells slots Q (F0 m (pc + 1) ls (.int 41 :: rest))) : W p l e R s m args below meth c H locs cells slots Q (F0 m pc ls (.ref (Ad 6) :: rest)) := va_alen C.1 C.2.1 C.2.2.2.2.2.2.2.1 hP 6 0 rfl rfl rfl hdg kk
theorem sS_3 {i x : Int32} (C : Cx p s m args meth c own cc nL ret D ((cy, .int) :: tys)) (hap : apt 18 Ad) (hin : ∀ q, AS 18 Ad q → A q) (hP : va_P D vwCl (wS Ad cy σ μ) H) (hS : va_S A H0 H locs) (hi : vp_in i 41) (hdg : decode cc pc = .ok (.iastore, 1)) (kk : ∀ (H1 : Heap) (locs1 : List Loc), va_P D vwCl (wS Ad cy σ (updA μ 3 (upd (μ 3) i.toNatClampNeg x))) H1 → va_S A H0 H1 locs1 → W p l e R s m args below meth c H1 locs1 cells slots Q (F0 m (pc + 1) ls rest)) : W p l e R s m args below meth c H locs cells slots Q (F0 m pc ls (.int x :: .int i :: .ref (Ad 6) :: rest)) := va_iast C.1 C.2.1 C.2.2.2.2.2.2.2.1 hP ((dW rS hap).weaken (fun _ _ _ h => hin _ h)) hS 6 0 rfl rfl hi hdg (fun H1 locs1 hP1 _ hS1 => kk H1 locs1 hP1 hS1)
theorem lS_4 {i : Int32} (C : Cx p s m args meth c own cc nL ret D ((cy, .int) :: tys)) (hP : va_P D vwCl (wS Ad cy σ μ) H) (hin : vp_in i 41) (hdg : decode cc pc = .ok (.iaload, 1)) (kk : W p l e R s m args below meth c H locs cells slots Q (F0 m (pc + 1) ls (.int (μ 4 i.toNatClampNeg) :: rest))) : W p l e R s m args below meth c H locs cells slots Q (F0 m pc ls (.int i :: .ref (Ad 7) :: rest)) := va_iald C.1 C.2.1 C.2.2.2.2.2.2.2.1 hP 7 0 rfl rfl hin hdg kk
theorem nS_4 (C : Cx p s m args meth c own cc nL ret D ((cy, .int) :: tys)) (hP : va_P D vwCl (wS Ad cy σ μ) H) (hdg : decode cc pc = .ok (.arraylength, 1)) (kk : W p l e R s m args below meth c H locs cells slots Q (F0 m (pc + 1) ls (.int 41 :: rest))) : W p l e R s m args below meth c H locs cells slots Q (F0 m pc ls (.ref (Ad 7) :: rest)) := va_alen C.1 C.2.1 C.2.2.2.2.2.2.2.1 hP 7 0 rfl rfl rfl hdg kk
theorem sS_4 {i x : Int32} (C : Cx p s m args meth c own cc nL ret D ((cy, .int) :: tys)) (hap : apt 18 Ad) (hin : ∀ q, AS 18 Ad q → A q) (hP : va_P D vwCl (wS Ad cy σ μ) H) (hS : va_S A H0 H locs) (hi : vp_in i 41) (hdg : decode cc pc = .ok (.iastore, 1)) (kk : ∀ (H1 : Heap) (locs1 : List Loc), va_P D vwCl (wS Ad cy σ (updA μ 4 (upd (μ 4) i.toNatClampNeg x))) H1 → va_S A H0 H1 locs1 → W p l e R s m args below meth c H1 locs1 cells slots Q (F0 m (pc + 1) ls rest)) : W p l e R s m args below meth c H locs cells slots Q (F0 m pc ls (.int x :: .int i :: .ref (Ad 7) :: rest)) := va_iast C.1 C.2.1 C.2.2.2.2.2.2.2.1 hP ((dW rS hap).weaken (fun _ _ _ h => hin _ h)) hS 7 0 rfl rfl hi hdg (fun H1 locs1 hP1 _ hS1 => kk H1 locs1 hP1 hS1)
theorem lS_5 {i : Int32} (C : Cx p s m args meth c own cc nL ret D ((cy, .int) :: tys)) (hP : va_P D vwCl (wS Ad cy σ μ) H) (hin : vp_in i 41) (hdg : decode cc pc = .ok (.iaload, 1)) (kk : W p l e R s m args below meth c H locs cells slots Q (F0 m (pc + 1) ls (.int (μ 5 i.toNatClampNeg) :: rest))) : W p l e R s m args below meth c H locs cells slots Q (F0 m pc ls (.int i :: .ref (Ad 8) :: rest)) := va_iald C.1 C.2.1 C.2.2.2.2.2.2.2.1 hP 8 0 rfl rfl hin hdg kk
theorem nS_5 (C : Cx p s m args meth c own cc nL ret D ((cy, .int) :: tys)) (hP : va_P D vwCl (wS Ad cy σ μ) H) (hdg : decode cc pc = .ok (.arraylength, 1)) (kk : W p l e R s m args below meth c H locs cells slots Q (F0 m (pc + 1) ls (.int 41 :: rest))) : W p l e R s m args below meth c H locs cells slots Q (F0 m pc ls (.ref (Ad 8) :: rest)) := va_alen C.1 C.2.1 C.2.2.2.2.2.2.2.1 hP 8 0 rfl rfl rfl hdg kk
theorem sS_5 {i x : Int32} (C : Cx p s m args meth c own cc nL ret D ((cy, .int) :: tys)) (hap : apt 18 Ad) (hin : ∀ q, AS 18 Ad q → A q) (hP : va_P D vwCl (wS Ad cy σ μ) H) (hS : va_S A H0 H locs) (hi : vp_in i 41) (hdg : decode cc pc = .ok (.iastore, 1)) (kk : ∀ (H1 : Heap) (locs1 : List Loc), va_P D vwCl (wS Ad cy σ (updA μ 5 (upd (μ 5) i.toNatClampNeg x))) H1 → va_S A H0 H1 locs1 → W p l e R s m args below meth c H1 locs1 cells slots Q (F0 m (pc + 1) ls rest)) : W p l e R s m args below meth c H locs cells slots Q (F0 m pc ls (.int x :: .int i :: .ref (Ad 8) :: rest)) := va_iast C.1 C.2.1 C.2.2.2.2.2.2.2.1 hP ((dW rS hap).weaken (fun _ _ _ h => hin _ h)) hS 8 0 rfl rfl hi hdg (fun H1 locs1 hP1 _ hS1 => kk H1 locs1 hP1 hS1)
theorem lS_6 {i : Int32} (C : Cx p s m args meth c own cc nL ret D ((cy, .int) :: tys)) (hP : va_P D vwCl (wS Ad cy σ μ) H) (hin : vp_in i 41) (hdg : decode cc pc = .ok (.iaload, 1)) (kk : W p l e R s m args below meth c H locs cells slots Q (F0 m (pc + 1) ls (.int (μ 6 i.toNatClampNeg) :: rest))) : W p l e R s m args below meth c H locs cells slots Q (F0 m pc ls (.int i :: .ref (Ad 9) :: rest)) := va_iald C.1 C.2.1 C.2.2.2.2.2.2.2.1 hP 9 0 rfl rfl hin hdg kk
theorem nS_6 (C : Cx p s m args meth c own cc nL ret D ((cy, .int) :: tys)) (hP : va_P D vwCl (wS Ad cy σ μ) H) (hdg : decode cc pc = .ok (.arraylength, 1)) (kk : W p l e R s m args below meth c H locs cells slots Q (F0 m (pc + 1) ls (.int 41 :: rest))) : W p l e R s m args below meth c H locs cells slots Q (F0 m pc ls (.ref (Ad 9) :: rest)) := va_alen C.1 C.2.1 C.2.2.2.2.2.2.2.1 hP 9 0 rfl rfl rfl hdg kk
theorem sS_6 {i x : Int32} (C : Cx p s m args meth c own cc nL ret D ((cy, .int) :: tys)) (hap : apt 18 Ad) (hin : ∀ q, AS 18 Ad q → A q) (hP : va_P D vwCl (wS Ad cy σ μ) H) (hS : va_S A H0 H locs) (hi : vp_in i 41) (hdg : decode cc pc = .ok (.iastore, 1)) (kk : ∀ (H1 : Heap) (locs1 : List Loc), va_P D vwCl (wS Ad cy σ (updA μ 6 (upd (μ 6) i.toNatClampNeg x))) H1 → va_S A H0 H1 locs1 → W p l e R s m args below meth c H1 locs1 cells slots Q (F0 m (pc + 1) ls rest)) : W p l e R s m args below meth c H locs cells slots Q (F0 m pc ls (.int x :: .int i :: .ref (Ad 9) :: rest)) := va_iast C.1 C.2.1 C.2.2.2.2.2.2.2.1 hP ((dW rS hap).weaken (fun _ _ _ h => hin _ h)) hS 9 0 rfl rfl hi hdg (fun H1 locs1 hP1 _ hS1 => kk H1 locs1 hP1 hS1)
theorem lS_7 {i : Int32} (C : Cx p s m args meth c own cc nL ret D ((cy, .int) :: tys)) (hP : va_P D vwCl (wS Ad cy σ μ) H) (hin : vp_in i 41) (hdg : decode cc pc = .ok (.iaload, 1)) (kk : W p l e R s m args below meth c H locs cells slots Q (F0 m (pc + 1) ls (.int (μ 7 i.toNatClampNeg) :: rest))) : W p l e R s m args below meth c H locs cells slots Q (F0 m pc ls (.int i :: .ref (Ad 10) :: rest)) := va_iald C.1 C.2.1 C.2.2.2.2.2.2.2.1 hP 10 0 rfl rfl hin hdg kk
theorem nS_7 (C : Cx p s m args meth c own cc nL ret D ((cy, .int) :: tys)) (hP : va_P D vwCl (wS Ad cy σ μ) H) (hdg : decode cc pc = .ok (.arraylength, 1)) (kk : W p l e R s m args below meth c H locs cells slots Q (F0 m (pc + 1) ls (.int 41 :: rest))) : W p l e R s m args below meth c H locs cells slots Q (F0 m pc ls (.ref (Ad 10) :: rest)) := va_alen C.1 C.2.1 C.2.2.2.2.2.2.2.1 hP 10 0 rfl rfl rfl hdg kk
theorem sS_7 {i x : Int32} (C : Cx p s m args meth c own cc nL ret D ((cy, .int) :: tys)) (hap : apt 18 Ad) (hin : ∀ q, AS 18 Ad q → A q) (hP : va_P D vwCl (wS Ad cy σ μ) H) (hS : va_S A H0 H locs) (hi : vp_in i 41) (hdg : decode cc pc = .ok (.iastore, 1)) (kk : ∀ (H1 : Heap) (locs1 : List Loc), va_P D vwCl (wS Ad cy σ (updA μ 7 (upd (μ 7) i.toNatClampNeg x))) H1 → va_S A H0 H1 locs1 → W p l e R s m args below meth c H1 locs1 cells slots Q (F0 m (pc + 1) ls rest)) : W p l e R s m args below meth c H locs cells slots Q (F0 m pc ls (.int x :: .int i :: .ref (Ad 10) :: rest)) := va_iast C.1 C.2.1 C.2.2.2.2.2.2.2.1 hP ((dW rS hap).weaken (fun _ _ _ h => hin _ h)) hS 10 0 rfl rfl hi hdg (fun H1 locs1 hP1 _ hS1 => kk H1 locs1 hP1 hS1)
theorem lS_8 {i : Int32} (C : Cx p s m args meth c own cc nL ret D ((cy, .int) :: tys)) (hP : va_P D vwCl (wS Ad cy σ μ) H) (hin : vp_in i 48) (hdg : decode cc pc = .ok (.iaload, 1)) (kk : W p l e R s m args below meth c H locs cells slots Q (F0 m (pc + 1) ls (.int (μ 8 i.toNatClampNeg) :: rest))) : W p l e R s m args below meth c H locs cells slots Q (F0 m pc ls (.int i :: .ref (Ad 11) :: rest)) := va_iald C.1 C.2.1 C.2.2.2.2.2.2.2.1 hP 11 0 rfl rfl hin hdg kk
theorem nS_8 (C : Cx p s m args meth c own cc nL ret D ((cy, .int) :: tys)) (hP : va_P D vwCl (wS Ad cy σ μ) H) (hdg : decode cc pc = .ok (.arraylength, 1)) (kk : W p l e R s m args below meth c H locs cells slots Q (F0 m (pc + 1) ls (.int 48 :: rest))) : W p l e R s m args below meth c H locs cells slots Q (F0 m pc ls (.ref (Ad 11) :: rest)) := va_alen C.1 C.2.1 C.2.2.2.2.2.2.2.1 hP 11 0 rfl rfl rfl hdg kk
theorem sS_8 {i x : Int32} (C : Cx p s m args meth c own cc nL ret D ((cy, .int) :: tys)) (hap : apt 18 Ad) (hin : ∀ q, AS 18 Ad q → A q) (hP : va_P D vwCl (wS Ad cy σ μ) H) (hS : va_S A H0 H locs) (hi : vp_in i 48) (hdg : decode cc pc = .ok (.iastore, 1)) (kk : ∀ (H1 : Heap) (locs1 : List Loc), va_P D vwCl (wS Ad cy σ (updA μ 8 (upd (μ 8) i.toNatClampNeg x))) H1 → va_S A H0 H1 locs1 → W p l e R s m args below meth c H1 locs1 cells slots Q (F0 m (pc + 1) ls rest)) : W p l e R s m args below meth c H locs cells slots Q (F0 m pc ls (.int x :: .int i :: .ref (Ad 11) :: rest)) := va_iast C.1 C.2.1 C.2.2.2.2.2.2.2.1 hP ((dW rS hap).weaken (fun _ _ _ h => hin _ h)) hS 11 0 rfl rfl hi hdg (fun H1 locs1 hP1 _ hS1 => kk H1 locs1 hP1 hS1)
theorem gS_change_labels (C : Cx p s m args meth c own cc nL ret D tys) (hP : va_P D vwCl (wS Ad cy σ μ) H) {index : Nat} (hlink : (Cond.fieldLink own index "SettingStore$Change" "labels" "[I").before args s = true) (hdg : decode cc pc = .ok (.getfield index, 3)) (kk : W p l e R s m args below meth c H locs cells slots Q (F0 m (pc + 3) ls (.ref (Ad 13) :: rest))) : W p l e R s m args below meth c H locs cells slots Q (F0 m pc ls (.ref (Ad 12) :: rest)) := va_get (D := D) (ci := 0) (v := .ref (Ad 13)) (C := RX0) (T := TX0) (N := 5) C.1 C.2.1 C.2.2.2.2.2.2.1 inG0 C.2.2.2.1 C.2.2.2.2.2.2.2.1 hP 12 rfl rfl 0 (by decide) hlink (fun _ h9 => h9) rfl hdg kk
theorem gnS_change_labels (C : Cx p s m args meth c own cc nL ret D tys) (hP : va_P D vwCl (wS Ad cy σ μ) H) {index : Nat} (hlink : (Cond.fieldLinkNest own index "SettingStore$Change" "labels" "[I" "SettingStore").before args s = true) (hdg : decode cc pc = .ok (.getfield index, 3)) (kk : W p l e R s m args below meth c H locs cells slots Q (F0 m (pc + 3) ls (.ref (Ad 13) :: rest))) : W p l e R s m args below meth c H locs cells slots Q (F0 m pc ls (.ref (Ad 12) :: rest)) := va_getN (D := D) (ci := 0) (v := .ref (Ad 13)) (C := RX0) (T := TX0) (N := 5) C.1 C.2.1 C.2.2.2.2.2.2.1 inG0 C.2.2.2.1 C.2.2.2.2.2.2.2.1 hP 12 rfl rfl 0 (by decide) hlink (fun _ h9 => h9) rfl hdg kk
theorem gS_change_values (C : Cx p s m args meth c own cc nL ret D tys) (hP : va_P D vwCl (wS Ad cy σ μ) H) {index : Nat} (hlink : (Cond.fieldLink own index "SettingStore$Change" "values" "[I").before args s = true) (hdg : decode cc pc = .ok (.getfield index, 3)) (kk : W p l e R s m args below meth c H locs cells slots Q (F0 m (pc + 3) ls (.ref (Ad 14) :: rest))) : W p l e R s m args below meth c H locs cells slots Q (F0 m pc ls (.ref (Ad 12) :: rest)) := va_get (D := D) (ci := 0) (v := .ref (Ad 14)) (C := RX0) (T := TX0) (N := 5) C.1 C.2.1 C.2.2.2.2.2.2.1 inG0 C.2.2.2.1 C.2.2.2.2.2.2.2.1 hP 12 rfl rfl 1 (by decide) hlink (fun _ h9 => h9) rfl hdg kk
theorem gnS_change_values (C : Cx p s m args meth c own cc nL ret D tys) (hP : va_P D vwCl (wS Ad cy σ μ) H) {index : Nat} (hlink : (Cond.fieldLinkNest own index "SettingStore$Change" "values" "[I" "SettingStore").before args s = true) (hdg : decode cc pc = .ok (.getfield index, 3)) (kk : W p l e R s m args below meth c H locs cells slots Q (F0 m (pc + 3) ls (.ref (Ad 14) :: rest))) : W p l e R s m args below meth c H locs cells slots Q (F0 m pc ls (.ref (Ad 12) :: rest)) := va_getN (D := D) (ci := 0) (v := .ref (Ad 14)) (C := RX0) (T := TX0) (N := 5) C.1 C.2.1 C.2.2.2.2.2.2.1 inG0 C.2.2.2.1 C.2.2.2.2.2.2.2.1 hP 12 rfl rfl 1 (by decide) hlink (fun _ h9 => h9) rfl hdg kk
theorem gS_change_lengths (C : Cx p s m args meth c own cc nL ret D tys) (hP : va_P D vwCl (wS Ad cy σ μ) H) {index : Nat} (hlink : (Cond.fieldLink own index "SettingStore$Change" "lengths" "[I").before args s = true) (hdg : decode cc pc = .ok (.getfield index, 3)) (kk : W p l e R s m args below meth c H locs cells slots Q (F0 m (pc + 3) ls (.ref (Ad 15) :: rest))) : W p l e R s m args below meth c H locs cells slots Q (F0 m pc ls (.ref (Ad 12) :: rest)) := va_get (D := D) (ci := 0) (v := .ref (Ad 15)) (C := RX0) (T := TX0) (N := 5) C.1 C.2.1 C.2.2.2.2.2.2.1 inG0 C.2.2.2.1 C.2.2.2.2.2.2.2.1 hP 12 rfl rfl 2 (by decide) hlink (fun _ h9 => h9) rfl hdg kk
theorem gnS_change_lengths (C : Cx p s m args meth c own cc nL ret D tys) (hP : va_P D vwCl (wS Ad cy σ μ) H) {index : Nat} (hlink : (Cond.fieldLinkNest own index "SettingStore$Change" "lengths" "[I" "SettingStore").before args s = true) (hdg : decode cc pc = .ok (.getfield index, 3)) (kk : W p l e R s m args below meth c H locs cells slots Q (F0 m (pc + 3) ls (.ref (Ad 15) :: rest))) : W p l e R s m args below meth c H locs cells slots Q (F0 m pc ls (.ref (Ad 12) :: rest)) := va_getN (D := D) (ci := 0) (v := .ref (Ad 15)) (C := RX0) (T := TX0) (N := 5) C.1 C.2.1 C.2.2.2.2.2.2.1 inG0 C.2.2.2.1 C.2.2.2.2.2.2.2.1 hP 12 rfl rfl 2 (by decide) hlink (fun _ h9 => h9) rfl hdg kk
theorem gS_change_begun (C : Cx p s m args meth c own cc nL ret D tys) (hP : va_P D vwCl (wS Ad cy σ μ) H) {index : Nat} (hlink : (Cond.fieldLink own index "SettingStore$Change" "begun" "Z").before args s = true) (hdg : decode cc pc = .ok (.getfield index, 3)) (kk : W p l e R s m args below meth c H locs cells slots Q (F0 m (pc + 3) ls (.int (σ 15) :: rest))) : W p l e R s m args below meth c H locs cells slots Q (F0 m pc ls (.ref (Ad 12) :: rest)) := va_get (D := D) (ci := 0) (v := .int (σ 15)) (C := RX0) (T := TX0) (N := 5) C.1 C.2.1 C.2.2.2.2.2.2.1 inG0 C.2.2.2.1 C.2.2.2.2.2.2.2.1 hP 12 rfl rfl 3 (by decide) hlink (fun _ h9 => h9) rfl hdg kk
theorem pS_change_begun {v : Int32} (C : Cx p s m args meth c own cc nL ret D tys) (hap : apt 18 Ad) (hin : ∀ q, AS 18 Ad q → A q) (hP : va_P D vwCl (wS Ad cy σ μ) H) (hS : va_S A H0 H locs) (hz : bz v) {index : Nat} (hlink : (Cond.fieldLink own index "SettingStore$Change" "begun" "Z").before args s = true) (hdg : decode cc pc = .ok (.putfield index, 3)) (kk : ∀ (H1 : Heap) (locs1 : List Loc), va_P D vwCl (wS Ad cy (upd σ 15 v) μ) H1 → va_S A H0 H1 locs1 → W p l e R s m args below meth c H1 locs1 cells slots Q (F0 m (pc + 3) ls rest)) : W p l e R s m args below meth c H locs cells slots Q (F0 m pc ls (.int v :: .ref (Ad 12) :: rest)) :=
  va_put (D := D) (ci := 0) (v := .int v) (ty := .boolean) (C := RX0) (T := TX0) (N := 5) C.1 C.2.1 C.2.2.2.2.2.2.1 inG0 tyX0 tyX0_ok nmX0 C.2.2.2.1 C.2.2.2.2.2.2.2.1 hP ((dW rS hap).weaken (fun _ _ _ h => hin _ h)) hS 12 rfl rfl 3 (by decide) hlink (fun _ h9 => h9) rfl (by decide +kernel) (bz_n hz) (bz_f hz) (Nat.le_of_ble_eq_true rfl) hdg (fun H1 locs1 hP1 _ hS1 => kk H1 locs1 hP1 hS1)
theorem gnS_change_begun (C : Cx p s m args meth c own cc nL ret D tys) (hP : va_P D vwCl (wS Ad cy σ μ) H) {index : Nat} (hlink : (Cond.fieldLinkNest own index "SettingStore$Change" "begun" "Z" "SettingStore").before args s = true) (hdg : decode cc pc = .ok (.getfield index, 3)) (kk : W p l e R s m args below meth c H locs cells slots Q (F0 m (pc + 3) ls (.int (σ 15) :: rest))) : W p l e R s m args below meth c H locs cells slots Q (F0 m pc ls (.ref (Ad 12) :: rest)) := va_getN (D := D) (ci := 0) (v := .int (σ 15)) (C := RX0) (T := TX0) (N := 5) C.1 C.2.1 C.2.2.2.2.2.2.1 inG0 C.2.2.2.1 C.2.2.2.2.2.2.2.1 hP 12 rfl rfl 3 (by decide) hlink (fun _ h9 => h9) rfl hdg kk
theorem pnS_change_begun {v : Int32} (C : Cx p s m args meth c own cc nL ret D tys) (hap : apt 18 Ad) (hin : ∀ q, AS 18 Ad q → A q) (hP : va_P D vwCl (wS Ad cy σ μ) H) (hS : va_S A H0 H locs) (hz : bz v) {index : Nat} (hlink : (Cond.fieldLinkNest own index "SettingStore$Change" "begun" "Z" "SettingStore").before args s = true) (hdg : decode cc pc = .ok (.putfield index, 3)) (kk : ∀ (H1 : Heap) (locs1 : List Loc), va_P D vwCl (wS Ad cy (upd σ 15 v) μ) H1 → va_S A H0 H1 locs1 → W p l e R s m args below meth c H1 locs1 cells slots Q (F0 m (pc + 3) ls rest)) : W p l e R s m args below meth c H locs cells slots Q (F0 m pc ls (.int v :: .ref (Ad 12) :: rest)) :=
  va_putN (D := D) (ci := 0) (v := .int v) (ty := .boolean) (C := RX0) (T := TX0) (N := 5) C.1 C.2.1 C.2.2.2.2.2.2.1 inG0 tyX0 tyX0_ok nmX0 C.2.2.2.1 C.2.2.2.2.2.2.2.1 hP ((dW rS hap).weaken (fun _ _ _ h => hin _ h)) hS 12 rfl rfl 3 (by decide) hlink (fun _ h9 => h9) rfl (by decide +kernel) (bz_n hz) (bz_f hz) (Nat.le_of_ble_eq_true rfl) hdg (fun H1 locs1 hP1 _ hS1 => kk H1 locs1 hP1 hS1)
theorem gS_change_told (C : Cx p s m args meth c own cc nL ret D tys) (hP : va_P D vwCl (wS Ad cy σ μ) H) {index : Nat} (hlink : (Cond.fieldLink own index "SettingStore$Change" "told" "I").before args s = true) (hdg : decode cc pc = .ok (.getfield index, 3)) (kk : W p l e R s m args below meth c H locs cells slots Q (F0 m (pc + 3) ls (.int (σ 16) :: rest))) : W p l e R s m args below meth c H locs cells slots Q (F0 m pc ls (.ref (Ad 12) :: rest)) := va_get (D := D) (ci := 0) (v := .int (σ 16)) (C := RX0) (T := TX0) (N := 5) C.1 C.2.1 C.2.2.2.2.2.2.1 inG0 C.2.2.2.1 C.2.2.2.2.2.2.2.1 hP 12 rfl rfl 4 (by decide) hlink (fun _ h9 => h9) rfl hdg kk
theorem pS_change_told {v : Int32} (C : Cx p s m args meth c own cc nL ret D tys) (hap : apt 18 Ad) (hin : ∀ q, AS 18 Ad q → A q) (hP : va_P D vwCl (wS Ad cy σ μ) H) (hS : va_S A H0 H locs) {index : Nat} (hlink : (Cond.fieldLink own index "SettingStore$Change" "told" "I").before args s = true) (hdg : decode cc pc = .ok (.putfield index, 3)) (kk : ∀ (H1 : Heap) (locs1 : List Loc), va_P D vwCl (wS Ad cy (upd σ 16 v) μ) H1 → va_S A H0 H1 locs1 → W p l e R s m args below meth c H1 locs1 cells slots Q (F0 m (pc + 3) ls rest)) : W p l e R s m args below meth c H locs cells slots Q (F0 m pc ls (.int v :: .ref (Ad 12) :: rest)) :=
  va_put (D := D) (ci := 0) (v := .int v) (ty := .int) (C := RX0) (T := TX0) (N := 5) C.1 C.2.1 C.2.2.2.2.2.2.1 inG0 tyX0 tyX0_ok nmX0 C.2.2.2.1 C.2.2.2.2.2.2.2.1 hP ((dW rS hap).weaken (fun _ _ _ h => hin _ h)) hS 12 rfl rfl 4 (by decide) hlink (fun _ h9 => h9) rfl (by decide +kernel) rfl rfl (Nat.le_of_ble_eq_true rfl) hdg (fun H1 locs1 hP1 _ hS1 => kk H1 locs1 hP1 hS1)
theorem gnS_change_told (C : Cx p s m args meth c own cc nL ret D tys) (hP : va_P D vwCl (wS Ad cy σ μ) H) {index : Nat} (hlink : (Cond.fieldLinkNest own index "SettingStore$Change" "told" "I" "SettingStore").before args s = true) (hdg : decode cc pc = .ok (.getfield index, 3)) (kk : W p l e R s m args below meth c H locs cells slots Q (F0 m (pc + 3) ls (.int (σ 16) :: rest))) : W p l e R s m args below meth c H locs cells slots Q (F0 m pc ls (.ref (Ad 12) :: rest)) := va_getN (D := D) (ci := 0) (v := .int (σ 16)) (C := RX0) (T := TX0) (N := 5) C.1 C.2.1 C.2.2.2.2.2.2.1 inG0 C.2.2.2.1 C.2.2.2.2.2.2.2.1 hP 12 rfl rfl 4 (by decide) hlink (fun _ h9 => h9) rfl hdg kk
theorem pnS_change_told {v : Int32} (C : Cx p s m args meth c own cc nL ret D tys) (hap : apt 18 Ad) (hin : ∀ q, AS 18 Ad q → A q) (hP : va_P D vwCl (wS Ad cy σ μ) H) (hS : va_S A H0 H locs) {index : Nat} (hlink : (Cond.fieldLinkNest own index "SettingStore$Change" "told" "I" "SettingStore").before args s = true) (hdg : decode cc pc = .ok (.putfield index, 3)) (kk : ∀ (H1 : Heap) (locs1 : List Loc), va_P D vwCl (wS Ad cy (upd σ 16 v) μ) H1 → va_S A H0 H1 locs1 → W p l e R s m args below meth c H1 locs1 cells slots Q (F0 m (pc + 3) ls rest)) : W p l e R s m args below meth c H locs cells slots Q (F0 m pc ls (.int v :: .ref (Ad 12) :: rest)) :=
  va_putN (D := D) (ci := 0) (v := .int v) (ty := .int) (C := RX0) (T := TX0) (N := 5) C.1 C.2.1 C.2.2.2.2.2.2.1 inG0 tyX0 tyX0_ok nmX0 C.2.2.2.1 C.2.2.2.2.2.2.2.1 hP ((dW rS hap).weaken (fun _ _ _ h => hin _ h)) hS 12 rfl rfl 4 (by decide) hlink (fun _ h9 => h9) rfl (by decide +kernel) rfl rfl (Nat.le_of_ble_eq_true rfl) hdg (fun H1 locs1 hP1 _ hS1 => kk H1 locs1 hP1 hS1)
theorem vS_change (C : Cx p s m args meth c own cc nL ret D tys) (hP : va_P D vwCl (wS Ad cy σ μ) H) : ∃ cell : Cell, H[Ad 12]? = some cell ∧ cell.vm.isStatics = false ∧ s.vm.findClass RX0 = some cell.cls := va_recv (q0 := 12) (ci := 0) (q := (RX0, TX0, 5)) C.2.2.2.2.2.2.2.1 hP rfl rfl
theorem lS_9 {i : Int32} (C : Cx p s m args meth c own cc nL ret D ((cy, .int) :: tys)) (hP : va_P D vwCl (wS Ad cy σ μ) H) (hin : vp_in i 8) (hdg : decode cc pc = .ok (.iaload, 1)) (kk : W p l e R s m args below meth c H locs cells slots Q (F0 m (pc + 1) ls (.int (μ 9 i.toNatClampNeg) :: rest))) : W p l e R s m args below meth c H locs cells slots Q (F0 m pc ls (.int i :: .ref (Ad 13) :: rest)) := va_iald C.1 C.2.1 C.2.2.2.2.2.2.2.1 hP 13 0 rfl rfl hin hdg kk
theorem nS_9 (C : Cx p s m args meth c own cc nL ret D ((cy, .int) :: tys)) (hP : va_P D vwCl (wS Ad cy σ μ) H) (hdg : decode cc pc = .ok (.arraylength, 1)) (kk : W p l e R s m args below meth c H locs cells slots Q (F0 m (pc + 1) ls (.int 8 :: rest))) : W p l e R s m args below meth c H locs cells slots Q (F0 m pc ls (.ref (Ad 13) :: rest)) := va_alen C.1 C.2.1 C.2.2.2.2.2.2.2.1 hP 13 0 rfl rfl rfl hdg kk
theorem sS_9 {i x : Int32} (C : Cx p s m args meth c own cc nL ret D ((cy, .int) :: tys)) (hap : apt 18 Ad) (hin : ∀ q, AS 18 Ad q → A q) (hP : va_P D vwCl (wS Ad cy σ μ) H) (hS : va_S A H0 H locs) (hi : vp_in i 8) (hdg : decode cc pc = .ok (.iastore, 1)) (kk : ∀ (H1 : Heap) (locs1 : List Loc), va_P D vwCl (wS Ad cy σ (updA μ 9 (upd (μ 9) i.toNatClampNeg x))) H1 → va_S A H0 H1 locs1 → W p l e R s m args below meth c H1 locs1 cells slots Q (F0 m (pc + 1) ls rest)) : W p l e R s m args below meth c H locs cells slots Q (F0 m pc ls (.int x :: .int i :: .ref (Ad 13) :: rest)) := va_iast C.1 C.2.1 C.2.2.2.2.2.2.2.1 hP ((dW rS hap).weaken (fun _ _ _ h => hin _ h)) hS 13 0 rfl rfl hi hdg (fun H1 locs1 hP1 _ hS1 => kk H1 locs1 hP1 hS1)
theorem lS_10 {i : Int32} (C : Cx p s m args meth c own cc nL ret D ((cy, .int) :: tys)) (hP : va_P D vwCl (wS Ad cy σ μ) H) (hin : vp_in i 8) (hdg : decode cc pc = .ok (.iaload, 1)) (kk : W p l e R s m args below meth c H locs cells slots Q (F0 m (pc + 1) ls (.int (μ 10 i.toNatClampNeg) :: rest))) : W p l e R s m args below meth c H locs cells slots Q (F0 m pc ls (.int i :: .ref (Ad 14) :: rest)) := va_iald C.1 C.2.1 C.2.2.2.2.2.2.2.1 hP 14 0 rfl rfl hin hdg kk
theorem nS_10 (C : Cx p s m args meth c own cc nL ret D ((cy, .int) :: tys)) (hP : va_P D vwCl (wS Ad cy σ μ) H) (hdg : decode cc pc = .ok (.arraylength, 1)) (kk : W p l e R s m args below meth c H locs cells slots Q (F0 m (pc + 1) ls (.int 8 :: rest))) : W p l e R s m args below meth c H locs cells slots Q (F0 m pc ls (.ref (Ad 14) :: rest)) := va_alen C.1 C.2.1 C.2.2.2.2.2.2.2.1 hP 14 0 rfl rfl rfl hdg kk
theorem sS_10 {i x : Int32} (C : Cx p s m args meth c own cc nL ret D ((cy, .int) :: tys)) (hap : apt 18 Ad) (hin : ∀ q, AS 18 Ad q → A q) (hP : va_P D vwCl (wS Ad cy σ μ) H) (hS : va_S A H0 H locs) (hi : vp_in i 8) (hdg : decode cc pc = .ok (.iastore, 1)) (kk : ∀ (H1 : Heap) (locs1 : List Loc), va_P D vwCl (wS Ad cy σ (updA μ 10 (upd (μ 10) i.toNatClampNeg x))) H1 → va_S A H0 H1 locs1 → W p l e R s m args below meth c H1 locs1 cells slots Q (F0 m (pc + 1) ls rest)) : W p l e R s m args below meth c H locs cells slots Q (F0 m pc ls (.int x :: .int i :: .ref (Ad 14) :: rest)) := va_iast C.1 C.2.1 C.2.2.2.2.2.2.2.1 hP ((dW rS hap).weaken (fun _ _ _ h => hin _ h)) hS 14 0 rfl rfl hi hdg (fun H1 locs1 hP1 _ hS1 => kk H1 locs1 hP1 hS1)
theorem lS_11 {i : Int32} (C : Cx p s m args meth c own cc nL ret D ((cy, .int) :: tys)) (hP : va_P D vwCl (wS Ad cy σ μ) H) (hin : vp_in i 8) (hdg : decode cc pc = .ok (.iaload, 1)) (kk : W p l e R s m args below meth c H locs cells slots Q (F0 m (pc + 1) ls (.int (μ 11 i.toNatClampNeg) :: rest))) : W p l e R s m args below meth c H locs cells slots Q (F0 m pc ls (.int i :: .ref (Ad 15) :: rest)) := va_iald C.1 C.2.1 C.2.2.2.2.2.2.2.1 hP 15 0 rfl rfl hin hdg kk
theorem nS_11 (C : Cx p s m args meth c own cc nL ret D ((cy, .int) :: tys)) (hP : va_P D vwCl (wS Ad cy σ μ) H) (hdg : decode cc pc = .ok (.arraylength, 1)) (kk : W p l e R s m args below meth c H locs cells slots Q (F0 m (pc + 1) ls (.int 8 :: rest))) : W p l e R s m args below meth c H locs cells slots Q (F0 m pc ls (.ref (Ad 15) :: rest)) := va_alen C.1 C.2.1 C.2.2.2.2.2.2.2.1 hP 15 0 rfl rfl rfl hdg kk
theorem sS_11 {i x : Int32} (C : Cx p s m args meth c own cc nL ret D ((cy, .int) :: tys)) (hap : apt 18 Ad) (hin : ∀ q, AS 18 Ad q → A q) (hP : va_P D vwCl (wS Ad cy σ μ) H) (hS : va_S A H0 H locs) (hi : vp_in i 8) (hdg : decode cc pc = .ok (.iastore, 1)) (kk : ∀ (H1 : Heap) (locs1 : List Loc), va_P D vwCl (wS Ad cy σ (updA μ 11 (upd (μ 11) i.toNatClampNeg x))) H1 → va_S A H0 H1 locs1 → W p l e R s m args below meth c H1 locs1 cells slots Q (F0 m (pc + 1) ls rest)) : W p l e R s m args below meth c H locs cells slots Q (F0 m pc ls (.int x :: .int i :: .ref (Ad 15) :: rest)) := va_iast C.1 C.2.1 C.2.2.2.2.2.2.2.1 hP ((dW rS hap).weaken (fun _ _ _ h => hin _ h)) hS 15 0 rfl rfl hi hdg (fun H1 locs1 hP1 _ hS1 => kk H1 locs1 hP1 hS1)
theorem gS_draft_row (C : Cx p s m args meth c own cc nL ret D tys) (hP : va_P D vwCl (wS Ad cy σ μ) H) {index : Nat} (hlink : (Cond.fieldLink own index "SettingStore$Draft" "row" "[I").before args s = true) (hdg : decode cc pc = .ok (.getfield index, 3)) (kk : W p l e R s m args below meth c H locs cells slots Q (F0 m (pc + 3) ls (.ref (Ad 17) :: rest))) : W p l e R s m args below meth c H locs cells slots Q (F0 m pc ls (.ref (Ad 16) :: rest)) := va_get (D := D) (ci := 2) (v := .ref (Ad 17)) (C := RX2) (T := TX2) (N := 3) C.1 C.2.1 C.2.2.2.2.2.2.1 inG2 C.2.2.2.1 C.2.2.2.2.2.2.2.1 hP 16 rfl rfl 0 (by decide) hlink (fun _ h9 => h9) rfl hdg kk
theorem gnS_draft_row (C : Cx p s m args meth c own cc nL ret D tys) (hP : va_P D vwCl (wS Ad cy σ μ) H) {index : Nat} (hlink : (Cond.fieldLinkNest own index "SettingStore$Draft" "row" "[I" "SettingStore").before args s = true) (hdg : decode cc pc = .ok (.getfield index, 3)) (kk : W p l e R s m args below meth c H locs cells slots Q (F0 m (pc + 3) ls (.ref (Ad 17) :: rest))) : W p l e R s m args below meth c H locs cells slots Q (F0 m pc ls (.ref (Ad 16) :: rest)) := va_getN (D := D) (ci := 2) (v := .ref (Ad 17)) (C := RX2) (T := TX2) (N := 3) C.1 C.2.1 C.2.2.2.2.2.2.1 inG2 C.2.2.2.1 C.2.2.2.2.2.2.2.1 hP 16 rfl rfl 0 (by decide) hlink (fun _ h9 => h9) rfl hdg kk
theorem gS_draft_used (C : Cx p s m args meth c own cc nL ret D tys) (hP : va_P D vwCl (wS Ad cy σ μ) H) {index : Nat} (hlink : (Cond.fieldLink own index "SettingStore$Draft" "used" "I").before args s = true) (hdg : decode cc pc = .ok (.getfield index, 3)) (kk : W p l e R s m args below meth c H locs cells slots Q (F0 m (pc + 3) ls (.int (σ 17) :: rest))) : W p l e R s m args below meth c H locs cells slots Q (F0 m pc ls (.ref (Ad 16) :: rest)) := va_get (D := D) (ci := 2) (v := .int (σ 17)) (C := RX2) (T := TX2) (N := 3) C.1 C.2.1 C.2.2.2.2.2.2.1 inG2 C.2.2.2.1 C.2.2.2.2.2.2.2.1 hP 16 rfl rfl 1 (by decide) hlink (fun _ h9 => h9) rfl hdg kk
theorem pS_draft_used {v : Int32} (C : Cx p s m args meth c own cc nL ret D tys) (hap : apt 18 Ad) (hin : ∀ q, AS 18 Ad q → A q) (hP : va_P D vwCl (wS Ad cy σ μ) H) (hS : va_S A H0 H locs) {index : Nat} (hlink : (Cond.fieldLink own index "SettingStore$Draft" "used" "I").before args s = true) (hdg : decode cc pc = .ok (.putfield index, 3)) (kk : ∀ (H1 : Heap) (locs1 : List Loc), va_P D vwCl (wS Ad cy (upd σ 17 v) μ) H1 → va_S A H0 H1 locs1 → W p l e R s m args below meth c H1 locs1 cells slots Q (F0 m (pc + 3) ls rest)) : W p l e R s m args below meth c H locs cells slots Q (F0 m pc ls (.int v :: .ref (Ad 16) :: rest)) :=
  va_put (D := D) (ci := 2) (v := .int v) (ty := .int) (C := RX2) (T := TX2) (N := 3) C.1 C.2.1 C.2.2.2.2.2.2.1 inG2 tyX2 tyX2_ok nmX2 C.2.2.2.1 C.2.2.2.2.2.2.2.1 hP ((dW rS hap).weaken (fun _ _ _ h => hin _ h)) hS 16 rfl rfl 1 (by decide) hlink (fun _ h9 => h9) rfl (by decide +kernel) rfl rfl (Nat.le_of_ble_eq_true rfl) hdg (fun H1 locs1 hP1 _ hS1 => kk H1 locs1 hP1 hS1)
theorem gnS_draft_used (C : Cx p s m args meth c own cc nL ret D tys) (hP : va_P D vwCl (wS Ad cy σ μ) H) {index : Nat} (hlink : (Cond.fieldLinkNest own index "SettingStore$Draft" "used" "I" "SettingStore").before args s = true) (hdg : decode cc pc = .ok (.getfield index, 3)) (kk : W p l e R s m args below meth c H locs cells slots Q (F0 m (pc + 3) ls (.int (σ 17) :: rest))) : W p l e R s m args below meth c H locs cells slots Q (F0 m pc ls (.ref (Ad 16) :: rest)) := va_getN (D := D) (ci := 2) (v := .int (σ 17)) (C := RX2) (T := TX2) (N := 3) C.1 C.2.1 C.2.2.2.2.2.2.1 inG2 C.2.2.2.1 C.2.2.2.2.2.2.2.1 hP 16 rfl rfl 1 (by decide) hlink (fun _ h9 => h9) rfl hdg kk
theorem pnS_draft_used {v : Int32} (C : Cx p s m args meth c own cc nL ret D tys) (hap : apt 18 Ad) (hin : ∀ q, AS 18 Ad q → A q) (hP : va_P D vwCl (wS Ad cy σ μ) H) (hS : va_S A H0 H locs) {index : Nat} (hlink : (Cond.fieldLinkNest own index "SettingStore$Draft" "used" "I" "SettingStore").before args s = true) (hdg : decode cc pc = .ok (.putfield index, 3)) (kk : ∀ (H1 : Heap) (locs1 : List Loc), va_P D vwCl (wS Ad cy (upd σ 17 v) μ) H1 → va_S A H0 H1 locs1 → W p l e R s m args below meth c H1 locs1 cells slots Q (F0 m (pc + 3) ls rest)) : W p l e R s m args below meth c H locs cells slots Q (F0 m pc ls (.int v :: .ref (Ad 16) :: rest)) :=
  va_putN (D := D) (ci := 2) (v := .int v) (ty := .int) (C := RX2) (T := TX2) (N := 3) C.1 C.2.1 C.2.2.2.2.2.2.1 inG2 tyX2 tyX2_ok nmX2 C.2.2.2.1 C.2.2.2.2.2.2.2.1 hP ((dW rS hap).weaken (fun _ _ _ h => hin _ h)) hS 16 rfl rfl 1 (by decide) hlink (fun _ h9 => h9) rfl (by decide +kernel) rfl rfl (Nat.le_of_ble_eq_true rfl) hdg (fun H1 locs1 hP1 _ hS1 => kk H1 locs1 hP1 hS1)
theorem gS_draft_sum (C : Cx p s m args meth c own cc nL ret D tys) (hP : va_P D vwCl (wS Ad cy σ μ) H) {index : Nat} (hlink : (Cond.fieldLink own index "SettingStore$Draft" "sum" "I").before args s = true) (hdg : decode cc pc = .ok (.getfield index, 3)) (kk : W p l e R s m args below meth c H locs cells slots Q (F0 m (pc + 3) ls (.int (σ 18) :: rest))) : W p l e R s m args below meth c H locs cells slots Q (F0 m pc ls (.ref (Ad 16) :: rest)) := va_get (D := D) (ci := 2) (v := .int (σ 18)) (C := RX2) (T := TX2) (N := 3) C.1 C.2.1 C.2.2.2.2.2.2.1 inG2 C.2.2.2.1 C.2.2.2.2.2.2.2.1 hP 16 rfl rfl 2 (by decide) hlink (fun _ h9 => h9) rfl hdg kk
theorem pS_draft_sum {v : Int32} (C : Cx p s m args meth c own cc nL ret D tys) (hap : apt 18 Ad) (hin : ∀ q, AS 18 Ad q → A q) (hP : va_P D vwCl (wS Ad cy σ μ) H) (hS : va_S A H0 H locs) {index : Nat} (hlink : (Cond.fieldLink own index "SettingStore$Draft" "sum" "I").before args s = true) (hdg : decode cc pc = .ok (.putfield index, 3)) (kk : ∀ (H1 : Heap) (locs1 : List Loc), va_P D vwCl (wS Ad cy (upd σ 18 v) μ) H1 → va_S A H0 H1 locs1 → W p l e R s m args below meth c H1 locs1 cells slots Q (F0 m (pc + 3) ls rest)) : W p l e R s m args below meth c H locs cells slots Q (F0 m pc ls (.int v :: .ref (Ad 16) :: rest)) :=
  va_put (D := D) (ci := 2) (v := .int v) (ty := .int) (C := RX2) (T := TX2) (N := 3) C.1 C.2.1 C.2.2.2.2.2.2.1 inG2 tyX2 tyX2_ok nmX2 C.2.2.2.1 C.2.2.2.2.2.2.2.1 hP ((dW rS hap).weaken (fun _ _ _ h => hin _ h)) hS 16 rfl rfl 2 (by decide) hlink (fun _ h9 => h9) rfl (by decide +kernel) rfl rfl (Nat.le_of_ble_eq_true rfl) hdg (fun H1 locs1 hP1 _ hS1 => kk H1 locs1 hP1 hS1)
theorem gnS_draft_sum (C : Cx p s m args meth c own cc nL ret D tys) (hP : va_P D vwCl (wS Ad cy σ μ) H) {index : Nat} (hlink : (Cond.fieldLinkNest own index "SettingStore$Draft" "sum" "I" "SettingStore").before args s = true) (hdg : decode cc pc = .ok (.getfield index, 3)) (kk : W p l e R s m args below meth c H locs cells slots Q (F0 m (pc + 3) ls (.int (σ 18) :: rest))) : W p l e R s m args below meth c H locs cells slots Q (F0 m pc ls (.ref (Ad 16) :: rest)) := va_getN (D := D) (ci := 2) (v := .int (σ 18)) (C := RX2) (T := TX2) (N := 3) C.1 C.2.1 C.2.2.2.2.2.2.1 inG2 C.2.2.2.1 C.2.2.2.2.2.2.2.1 hP 16 rfl rfl 2 (by decide) hlink (fun _ h9 => h9) rfl hdg kk
theorem pnS_draft_sum {v : Int32} (C : Cx p s m args meth c own cc nL ret D tys) (hap : apt 18 Ad) (hin : ∀ q, AS 18 Ad q → A q) (hP : va_P D vwCl (wS Ad cy σ μ) H) (hS : va_S A H0 H locs) {index : Nat} (hlink : (Cond.fieldLinkNest own index "SettingStore$Draft" "sum" "I" "SettingStore").before args s = true) (hdg : decode cc pc = .ok (.putfield index, 3)) (kk : ∀ (H1 : Heap) (locs1 : List Loc), va_P D vwCl (wS Ad cy (upd σ 18 v) μ) H1 → va_S A H0 H1 locs1 → W p l e R s m args below meth c H1 locs1 cells slots Q (F0 m (pc + 3) ls rest)) : W p l e R s m args below meth c H locs cells slots Q (F0 m pc ls (.int v :: .ref (Ad 16) :: rest)) :=
  va_putN (D := D) (ci := 2) (v := .int v) (ty := .int) (C := RX2) (T := TX2) (N := 3) C.1 C.2.1 C.2.2.2.2.2.2.1 inG2 tyX2 tyX2_ok nmX2 C.2.2.2.1 C.2.2.2.2.2.2.2.1 hP ((dW rS hap).weaken (fun _ _ _ h => hin _ h)) hS 16 rfl rfl 2 (by decide) hlink (fun _ h9 => h9) rfl (by decide +kernel) rfl rfl (Nat.le_of_ble_eq_true rfl) hdg (fun H1 locs1 hP1 _ hS1 => kk H1 locs1 hP1 hS1)
theorem vS_draft (C : Cx p s m args meth c own cc nL ret D tys) (hP : va_P D vwCl (wS Ad cy σ μ) H) : ∃ cell : Cell, H[Ad 16]? = some cell ∧ cell.vm.isStatics = false ∧ s.vm.findClass RX2 = some cell.cls := va_recv (q0 := 16) (ci := 2) (q := (RX2, TX2, 3)) C.2.2.2.2.2.2.2.1 hP rfl rfl
theorem lS_12 {i : Int32} (C : Cx p s m args meth c own cc nL ret D ((cy, .int) :: tys)) (hP : va_P D vwCl (wS Ad cy σ μ) H) (hin : vp_in i 7) (hdg : decode cc pc = .ok (.iaload, 1)) (kk : W p l e R s m args below meth c H locs cells slots Q (F0 m (pc + 1) ls (.int (μ 12 i.toNatClampNeg) :: rest))) : W p l e R s m args below meth c H locs cells slots Q (F0 m pc ls (.int i :: .ref (Ad 17) :: rest)) := va_iald C.1 C.2.1 C.2.2.2.2.2.2.2.1 hP 17 0 rfl rfl hin hdg kk
theorem nS_12 (C : Cx p s m args meth c own cc nL ret D ((cy, .int) :: tys)) (hP : va_P D vwCl (wS Ad cy σ μ) H) (hdg : decode cc pc = .ok (.arraylength, 1)) (kk : W p l e R s m args below meth c H locs cells slots Q (F0 m (pc + 1) ls (.int 7 :: rest))) : W p l e R s m args below meth c H locs cells slots Q (F0 m pc ls (.ref (Ad 17) :: rest)) := va_alen C.1 C.2.1 C.2.2.2.2.2.2.2.1 hP 17 0 rfl rfl rfl hdg kk
theorem sS_12 {i x : Int32} (C : Cx p s m args meth c own cc nL ret D ((cy, .int) :: tys)) (hap : apt 18 Ad) (hin : ∀ q, AS 18 Ad q → A q) (hP : va_P D vwCl (wS Ad cy σ μ) H) (hS : va_S A H0 H locs) (hi : vp_in i 7) (hdg : decode cc pc = .ok (.iastore, 1)) (kk : ∀ (H1 : Heap) (locs1 : List Loc), va_P D vwCl (wS Ad cy σ (updA μ 12 (upd (μ 12) i.toNatClampNeg x))) H1 → va_S A H0 H1 locs1 → W p l e R s m args below meth c H1 locs1 cells slots Q (F0 m (pc + 1) ls rest)) : W p l e R s m args below meth c H locs cells slots Q (F0 m pc ls (.int x :: .int i :: .ref (Ad 17) :: rest)) := va_iast C.1 C.2.1 C.2.2.2.2.2.2.2.1 hP ((dW rS hap).weaken (fun _ _ _ h => hin _ h)) hS 17 0 rfl rfl hi hdg (fun H1 locs1 hP1 _ hS1 => kk H1 locs1 hP1 hS1)
def wM (Ad : Nat → Nat) (cy : ClassId) (σ : Rg) (μ : Ar) : va_W := [(Ad 0, .inr (6, [.ref (Ad 1), .ref (Ad 2), .int (σ 0), .int (σ 1), .int (σ 2), .int (σ 3), .int (σ 4), .ref (Ad 3), .ref (Ad 4), .ref (Ad 5), .ref (Ad 6), .ref (Ad 7), .int (σ 5), .int (σ 6), .int (σ 7)])), (Ad 1, .inl (cy, 810, .inl (μ 0))), (Ad 2, .inl (cy, 810, .inl (μ 1))), (Ad 3, .inl (cy, 64, .inl (μ 2))), (Ad 4, .inl (cy, 64, .inl (μ 3))), (Ad 5, .inl (cy, 64, .inl (μ 4))), (Ad 6, .inl (cy, 64, .inl (μ 5))), (Ad 7, .inl (cy, 48, .inl (μ 6)))]
theorem rM : ofR 8 Ad (wM Ad cy σ μ) := rfl
theorem gM_model_x (C : Cx p s m args meth c own cc nL ret D tys) (hP : va_P D vwCl (wM Ad cy σ μ) H) {index : Nat} (hlink : (Cond.fieldLink own index "SettingStoreModel" "x" "[I").before args s = true) (hdg : decode cc pc = .ok (.getfield index, 3)) (kk : W p l e R s m args below meth c H locs cells slots Q (F0 m (pc + 3) ls (.ref (Ad 1) :: rest))) : W p l e R s m args below meth c H locs cells slots Q (F0 m pc ls (.ref (Ad 0) :: rest)) := va_get (D := D) (ci := 6) (v := .ref (Ad 1)) (C := RX6) (T := TX6) (N := 15) C.1 C.2.1 C.2.2.2.2.2.2.1 inG6 C.2.2.2.1 C.2.2.2.2.2.2.2.1 hP 0 rfl rfl 0 (by decide) hlink (fun _ h9 => h9) rfl hdg kk
theorem gM_model_kept (C : Cx p s m args meth c own cc nL ret D tys) (hP : va_P D vwCl (wM Ad cy σ μ) H) {index : Nat} (hlink : (Cond.fieldLink own index "SettingStoreModel" "kept" "[I").before args s = true) (hdg : decode cc pc = .ok (.getfield index, 3)) (kk : W p l e R s m args below meth c H locs cells slots Q (F0 m (pc + 3) ls (.ref (Ad 2) :: rest))) : W p l e R s m args below meth c H locs cells slots Q (F0 m pc ls (.ref (Ad 0) :: rest)) := va_get (D := D) (ci := 6) (v := .ref (Ad 2)) (C := RX6) (T := TX6) (N := 15) C.1 C.2.1 C.2.2.2.2.2.2.1 inG6 C.2.2.2.1 C.2.2.2.2.2.2.2.1 hP 0 rfl rfl 1 (by decide) hlink (fun _ h9 => h9) rfl hdg kk
theorem gM_model_thrown (C : Cx p s m args meth c own cc nL ret D tys) (hP : va_P D vwCl (wM Ad cy σ μ) H) {index : Nat} (hlink : (Cond.fieldLink own index "SettingStoreModel" "thrown" "I").before args s = true) (hdg : decode cc pc = .ok (.getfield index, 3)) (kk : W p l e R s m args below meth c H locs cells slots Q (F0 m (pc + 3) ls (.int (σ 0) :: rest))) : W p l e R s m args below meth c H locs cells slots Q (F0 m pc ls (.ref (Ad 0) :: rest)) := va_get (D := D) (ci := 6) (v := .int (σ 0)) (C := RX6) (T := TX6) (N := 15) C.1 C.2.1 C.2.2.2.2.2.2.1 inG6 C.2.2.2.1 C.2.2.2.2.2.2.2.1 hP 0 rfl rfl 2 (by decide) hlink (fun _ h9 => h9) rfl hdg kk
theorem pM_model_thrown {v : Int32} (C : Cx p s m args meth c own cc nL ret D tys) (hap : apt 8 Ad) (hin : ∀ q, AS 8 Ad q → A q) (hP : va_P D vwCl (wM Ad cy σ μ) H) (hS : va_S A H0 H locs) {index : Nat} (hlink : (Cond.fieldLink own index "SettingStoreModel" "thrown" "I").before args s = true) (hdg : decode cc pc = .ok (.putfield index, 3)) (kk : ∀ (H1 : Heap) (locs1 : List Loc), va_P D vwCl (wM Ad cy (upd σ 0 v) μ) H1 → va_S A H0 H1 locs1 → W p l e R s m args below meth c H1 locs1 cells slots Q (F0 m (pc + 3) ls rest)) : W p l e R s m args below meth c H locs cells slots Q (F0 m pc ls (.int v :: .ref (Ad 0) :: rest)) :=
  va_put (D := D) (ci := 6) (v := .int v) (ty := .int) (C := RX6) (T := TX6) (N := 15) C.1 C.2.1 C.2.2.2.2.2.2.1 inG6 tyX6 tyX6_ok nmX6 C.2.2.2.1 C.2.2.2.2.2.2.2.1 hP ((dW rM hap).weaken (fun _ _ _ h => hin _ h)) hS 0 rfl rfl 2 (by decide) hlink (fun _ h9 => h9) rfl (by decide +kernel) rfl rfl (Nat.le_of_ble_eq_true rfl) hdg (fun H1 locs1 hP1 _ hS1 => kk H1 locs1 hP1 hS1)
theorem gM_model_isGone (C : Cx p s m args meth c own cc nL ret D tys) (hP : va_P D vwCl (wM Ad cy σ μ) H) {index : Nat} (hlink : (Cond.fieldLink own index "SettingStoreModel" "isGone" "Z").before args s = true) (hdg : decode cc pc = .ok (.getfield index, 3)) (kk : W p l e R s m args below meth c H locs cells slots Q (F0 m (pc + 3) ls (.int (σ 1) :: rest))) : W p l e R s m args below meth c H locs cells slots Q (F0 m pc ls (.ref (Ad 0) :: rest)) := va_get (D := D) (ci := 6) (v := .int (σ 1)) (C := RX6) (T := TX6) (N := 15) C.1 C.2.1 C.2.2.2.2.2.2.1 inG6 C.2.2.2.1 C.2.2.2.2.2.2.2.1 hP 0 rfl rfl 3 (by decide) hlink (fun _ h9 => h9) rfl hdg kk
theorem pM_model_isGone {v : Int32} (C : Cx p s m args meth c own cc nL ret D tys) (hap : apt 8 Ad) (hin : ∀ q, AS 8 Ad q → A q) (hP : va_P D vwCl (wM Ad cy σ μ) H) (hS : va_S A H0 H locs) (hz : bz v) {index : Nat} (hlink : (Cond.fieldLink own index "SettingStoreModel" "isGone" "Z").before args s = true) (hdg : decode cc pc = .ok (.putfield index, 3)) (kk : ∀ (H1 : Heap) (locs1 : List Loc), va_P D vwCl (wM Ad cy (upd σ 1 v) μ) H1 → va_S A H0 H1 locs1 → W p l e R s m args below meth c H1 locs1 cells slots Q (F0 m (pc + 3) ls rest)) : W p l e R s m args below meth c H locs cells slots Q (F0 m pc ls (.int v :: .ref (Ad 0) :: rest)) :=
  va_put (D := D) (ci := 6) (v := .int v) (ty := .boolean) (C := RX6) (T := TX6) (N := 15) C.1 C.2.1 C.2.2.2.2.2.2.1 inG6 tyX6 tyX6_ok nmX6 C.2.2.2.1 C.2.2.2.2.2.2.2.1 hP ((dW rM hap).weaken (fun _ _ _ h => hin _ h)) hS 0 rfl rfl 3 (by decide) hlink (fun _ h9 => h9) rfl (by decide +kernel) (bz_n hz) (bz_f hz) (Nat.le_of_ble_eq_true rfl) hdg (fun H1 locs1 hP1 _ hS1 => kk H1 locs1 hP1 hS1)
theorem gM_model_entries (C : Cx p s m args meth c own cc nL ret D tys) (hP : va_P D vwCl (wM Ad cy σ μ) H) {index : Nat} (hlink : (Cond.fieldLink own index "SettingStoreModel" "entries" "I").before args s = true) (hdg : decode cc pc = .ok (.getfield index, 3)) (kk : W p l e R s m args below meth c H locs cells slots Q (F0 m (pc + 3) ls (.int (σ 2) :: rest))) : W p l e R s m args below meth c H locs cells slots Q (F0 m pc ls (.ref (Ad 0) :: rest)) := va_get (D := D) (ci := 6) (v := .int (σ 2)) (C := RX6) (T := TX6) (N := 15) C.1 C.2.1 C.2.2.2.2.2.2.1 inG6 C.2.2.2.1 C.2.2.2.2.2.2.2.1 hP 0 rfl rfl 4 (by decide) hlink (fun _ h9 => h9) rfl hdg kk
theorem pM_model_entries {v : Int32} (C : Cx p s m args meth c own cc nL ret D tys) (hap : apt 8 Ad) (hin : ∀ q, AS 8 Ad q → A q) (hP : va_P D vwCl (wM Ad cy σ μ) H) (hS : va_S A H0 H locs) {index : Nat} (hlink : (Cond.fieldLink own index "SettingStoreModel" "entries" "I").before args s = true) (hdg : decode cc pc = .ok (.putfield index, 3)) (kk : ∀ (H1 : Heap) (locs1 : List Loc), va_P D vwCl (wM Ad cy (upd σ 2 v) μ) H1 → va_S A H0 H1 locs1 → W p l e R s m args below meth c H1 locs1 cells slots Q (F0 m (pc + 3) ls rest)) : W p l e R s m args below meth c H locs cells slots Q (F0 m pc ls (.int v :: .ref (Ad 0) :: rest)) :=
  va_put (D := D) (ci := 6) (v := .int v) (ty := .int) (C := RX6) (T := TX6) (N := 15) C.1 C.2.1 C.2.2.2.2.2.2.1 inG6 tyX6 tyX6_ok nmX6 C.2.2.2.1 C.2.2.2.2.2.2.2.1 hP ((dW rM hap).weaken (fun _ _ _ h => hin _ h)) hS 0 rfl rfl 4 (by decide) hlink (fun _ h9 => h9) rfl (by decide +kernel) rfl rfl (Nat.le_of_ble_eq_true rfl) hdg (fun H1 locs1 hP1 _ hS1 => kk H1 locs1 hP1 hS1)
theorem gM_model_free (C : Cx p s m args meth c own cc nL ret D tys) (hP : va_P D vwCl (wM Ad cy σ μ) H) {index : Nat} (hlink : (Cond.fieldLink own index "SettingStoreModel" "free" "I").before args s = true) (hdg : decode cc pc = .ok (.getfield index, 3)) (kk : W p l e R s m args below meth c H locs cells slots Q (F0 m (pc + 3) ls (.int (σ 3) :: rest))) : W p l e R s m args below meth c H locs cells slots Q (F0 m pc ls (.ref (Ad 0) :: rest)) := va_get (D := D) (ci := 6) (v := .int (σ 3)) (C := RX6) (T := TX6) (N := 15) C.1 C.2.1 C.2.2.2.2.2.2.1 inG6 C.2.2.2.1 C.2.2.2.2.2.2.2.1 hP 0 rfl rfl 5 (by decide) hlink (fun _ h9 => h9) rfl hdg kk
theorem pM_model_free {v : Int32} (C : Cx p s m args meth c own cc nL ret D tys) (hap : apt 8 Ad) (hin : ∀ q, AS 8 Ad q → A q) (hP : va_P D vwCl (wM Ad cy σ μ) H) (hS : va_S A H0 H locs) {index : Nat} (hlink : (Cond.fieldLink own index "SettingStoreModel" "free" "I").before args s = true) (hdg : decode cc pc = .ok (.putfield index, 3)) (kk : ∀ (H1 : Heap) (locs1 : List Loc), va_P D vwCl (wM Ad cy (upd σ 3 v) μ) H1 → va_S A H0 H1 locs1 → W p l e R s m args below meth c H1 locs1 cells slots Q (F0 m (pc + 3) ls rest)) : W p l e R s m args below meth c H locs cells slots Q (F0 m pc ls (.int v :: .ref (Ad 0) :: rest)) :=
  va_put (D := D) (ci := 6) (v := .int v) (ty := .int) (C := RX6) (T := TX6) (N := 15) C.1 C.2.1 C.2.2.2.2.2.2.1 inG6 tyX6 tyX6_ok nmX6 C.2.2.2.1 C.2.2.2.2.2.2.2.1 hP ((dW rM hap).weaken (fun _ _ _ h => hin _ h)) hS 0 rfl rfl 5 (by decide) hlink (fun _ h9 => h9) rfl (by decide +kernel) rfl rfl (Nat.le_of_ble_eq_true rfl) hdg (fun H1 locs1 hP1 _ hS1 => kk H1 locs1 hP1 hS1)
theorem gM_model_lost (C : Cx p s m args meth c own cc nL ret D tys) (hP : va_P D vwCl (wM Ad cy σ μ) H) {index : Nat} (hlink : (Cond.fieldLink own index "SettingStoreModel" "lost" "I").before args s = true) (hdg : decode cc pc = .ok (.getfield index, 3)) (kk : W p l e R s m args below meth c H locs cells slots Q (F0 m (pc + 3) ls (.int (σ 4) :: rest))) : W p l e R s m args below meth c H locs cells slots Q (F0 m pc ls (.ref (Ad 0) :: rest)) := va_get (D := D) (ci := 6) (v := .int (σ 4)) (C := RX6) (T := TX6) (N := 15) C.1 C.2.1 C.2.2.2.2.2.2.1 inG6 C.2.2.2.1 C.2.2.2.2.2.2.2.1 hP 0 rfl rfl 6 (by decide) hlink (fun _ h9 => h9) rfl hdg kk
theorem pM_model_lost {v : Int32} (C : Cx p s m args meth c own cc nL ret D tys) (hap : apt 8 Ad) (hin : ∀ q, AS 8 Ad q → A q) (hP : va_P D vwCl (wM Ad cy σ μ) H) (hS : va_S A H0 H locs) {index : Nat} (hlink : (Cond.fieldLink own index "SettingStoreModel" "lost" "I").before args s = true) (hdg : decode cc pc = .ok (.putfield index, 3)) (kk : ∀ (H1 : Heap) (locs1 : List Loc), va_P D vwCl (wM Ad cy (upd σ 4 v) μ) H1 → va_S A H0 H1 locs1 → W p l e R s m args below meth c H1 locs1 cells slots Q (F0 m (pc + 3) ls rest)) : W p l e R s m args below meth c H locs cells slots Q (F0 m pc ls (.int v :: .ref (Ad 0) :: rest)) :=
  va_put (D := D) (ci := 6) (v := .int v) (ty := .int) (C := RX6) (T := TX6) (N := 15) C.1 C.2.1 C.2.2.2.2.2.2.1 inG6 tyX6 tyX6_ok nmX6 C.2.2.2.1 C.2.2.2.2.2.2.2.1 hP ((dW rM hap).weaken (fun _ _ _ h => hin _ h)) hS 0 rfl rfl 6 (by decide) hlink (fun _ h9 => h9) rfl (by decide +kernel) rfl rfl (Nat.le_of_ble_eq_true rfl) hdg (fun H1 locs1 hP1 _ hS1 => kk H1 locs1 hP1 hS1)
theorem gM_model_place (C : Cx p s m args meth c own cc nL ret D tys) (hP : va_P D vwCl (wM Ad cy σ μ) H) {index : Nat} (hlink : (Cond.fieldLink own index "SettingStoreModel" "place" "[I").before args s = true) (hdg : decode cc pc = .ok (.getfield index, 3)) (kk : W p l e R s m args below meth c H locs cells slots Q (F0 m (pc + 3) ls (.ref (Ad 3) :: rest))) : W p l e R s m args below meth c H locs cells slots Q (F0 m pc ls (.ref (Ad 0) :: rest)) := va_get (D := D) (ci := 6) (v := .ref (Ad 3)) (C := RX6) (T := TX6) (N := 15) C.1 C.2.1 C.2.2.2.2.2.2.1 inG6 C.2.2.2.1 C.2.2.2.2.2.2.2.1 hP 0 rfl rfl 7 (by decide) hlink (fun _ h9 => h9) rfl hdg kk
theorem gM_model_sort (C : Cx p s m args meth c own cc nL ret D tys) (hP : va_P D vwCl (wM Ad cy σ μ) H) {index : Nat} (hlink : (Cond.fieldLink own index "SettingStoreModel" "sort" "[I").before args s = true) (hdg : decode cc pc = .ok (.getfield index, 3)) (kk : W p l e R s m args below meth c H locs cells slots Q (F0 m (pc + 3) ls (.ref (Ad 4) :: rest))) : W p l e R s m args below meth c H locs cells slots Q (F0 m pc ls (.ref (Ad 0) :: rest)) := va_get (D := D) (ci := 6) (v := .ref (Ad 4)) (C := RX6) (T := TX6) (N := 15) C.1 C.2.1 C.2.2.2.2.2.2.1 inG6 C.2.2.2.1 C.2.2.2.2.2.2.2.1 hP 0 rfl rfl 8 (by decide) hlink (fun _ h9 => h9) rfl hdg kk
theorem gM_model_size (C : Cx p s m args meth c own cc nL ret D tys) (hP : va_P D vwCl (wM Ad cy σ μ) H) {index : Nat} (hlink : (Cond.fieldLink own index "SettingStoreModel" "size" "[I").before args s = true) (hdg : decode cc pc = .ok (.getfield index, 3)) (kk : W p l e R s m args below meth c H locs cells slots Q (F0 m (pc + 3) ls (.ref (Ad 5) :: rest))) : W p l e R s m args below meth c H locs cells slots Q (F0 m pc ls (.ref (Ad 0) :: rest)) := va_get (D := D) (ci := 6) (v := .ref (Ad 5)) (C := RX6) (T := TX6) (N := 15) C.1 C.2.1 C.2.2.2.2.2.2.1 inG6 C.2.2.2.1 C.2.2.2.2.2.2.2.1 hP 0 rfl rfl 9 (by decide) hlink (fun _ h9 => h9) rfl hdg kk
theorem gM_model_state (C : Cx p s m args meth c own cc nL ret D tys) (hP : va_P D vwCl (wM Ad cy σ μ) H) {index : Nat} (hlink : (Cond.fieldLink own index "SettingStoreModel" "state" "[I").before args s = true) (hdg : decode cc pc = .ok (.getfield index, 3)) (kk : W p l e R s m args below meth c H locs cells slots Q (F0 m (pc + 3) ls (.ref (Ad 6) :: rest))) : W p l e R s m args below meth c H locs cells slots Q (F0 m pc ls (.ref (Ad 0) :: rest)) := va_get (D := D) (ci := 6) (v := .ref (Ad 6)) (C := RX6) (T := TX6) (N := 15) C.1 C.2.1 C.2.2.2.2.2.2.1 inG6 C.2.2.2.1 C.2.2.2.2.2.2.2.1 hP 0 rfl rfl 10 (by decide) hlink (fun _ h9 => h9) rfl hdg kk
theorem gM_model_newest (C : Cx p s m args meth c own cc nL ret D tys) (hP : va_P D vwCl (wM Ad cy σ μ) H) {index : Nat} (hlink : (Cond.fieldLink own index "SettingStoreModel" "newest" "[I").before args s = true) (hdg : decode cc pc = .ok (.getfield index, 3)) (kk : W p l e R s m args below meth c H locs cells slots Q (F0 m (pc + 3) ls (.ref (Ad 7) :: rest))) : W p l e R s m args below meth c H locs cells slots Q (F0 m pc ls (.ref (Ad 0) :: rest)) := va_get (D := D) (ci := 6) (v := .ref (Ad 7)) (C := RX6) (T := TX6) (N := 15) C.1 C.2.1 C.2.2.2.2.2.2.1 inG6 C.2.2.2.1 C.2.2.2.2.2.2.2.1 hP 0 rfl rfl 11 (by decide) hlink (fun _ h9 => h9) rfl hdg kk
theorem gM_model_toSector (C : Cx p s m args meth c own cc nL ret D tys) (hP : va_P D vwCl (wM Ad cy σ μ) H) {index : Nat} (hlink : (Cond.fieldLink own index "SettingStoreModel" "toSector" "I").before args s = true) (hdg : decode cc pc = .ok (.getfield index, 3)) (kk : W p l e R s m args below meth c H locs cells slots Q (F0 m (pc + 3) ls (.int (σ 5) :: rest))) : W p l e R s m args below meth c H locs cells slots Q (F0 m pc ls (.ref (Ad 0) :: rest)) := va_get (D := D) (ci := 6) (v := .int (σ 5)) (C := RX6) (T := TX6) (N := 15) C.1 C.2.1 C.2.2.2.2.2.2.1 inG6 C.2.2.2.1 C.2.2.2.2.2.2.2.1 hP 0 rfl rfl 12 (by decide) hlink (fun _ h9 => h9) rfl hdg kk
theorem pM_model_toSector {v : Int32} (C : Cx p s m args meth c own cc nL ret D tys) (hap : apt 8 Ad) (hin : ∀ q, AS 8 Ad q → A q) (hP : va_P D vwCl (wM Ad cy σ μ) H) (hS : va_S A H0 H locs) {index : Nat} (hlink : (Cond.fieldLink own index "SettingStoreModel" "toSector" "I").before args s = true) (hdg : decode cc pc = .ok (.putfield index, 3)) (kk : ∀ (H1 : Heap) (locs1 : List Loc), va_P D vwCl (wM Ad cy (upd σ 5 v) μ) H1 → va_S A H0 H1 locs1 → W p l e R s m args below meth c H1 locs1 cells slots Q (F0 m (pc + 3) ls rest)) : W p l e R s m args below meth c H locs cells slots Q (F0 m pc ls (.int v :: .ref (Ad 0) :: rest)) :=
  va_put (D := D) (ci := 6) (v := .int v) (ty := .int) (C := RX6) (T := TX6) (N := 15) C.1 C.2.1 C.2.2.2.2.2.2.1 inG6 tyX6 tyX6_ok nmX6 C.2.2.2.1 C.2.2.2.2.2.2.2.1 hP ((dW rM hap).weaken (fun _ _ _ h => hin _ h)) hS 0 rfl rfl 12 (by decide) hlink (fun _ h9 => h9) rfl (by decide +kernel) rfl rfl (Nat.le_of_ble_eq_true rfl) hdg (fun H1 locs1 hP1 _ hS1 => kk H1 locs1 hP1 hS1)
theorem gM_model_toPlace (C : Cx p s m args meth c own cc nL ret D tys) (hP : va_P D vwCl (wM Ad cy σ μ) H) {index : Nat} (hlink : (Cond.fieldLink own index "SettingStoreModel" "toPlace" "I").before args s = true) (hdg : decode cc pc = .ok (.getfield index, 3)) (kk : W p l e R s m args below meth c H locs cells slots Q (F0 m (pc + 3) ls (.int (σ 6) :: rest))) : W p l e R s m args below meth c H locs cells slots Q (F0 m pc ls (.ref (Ad 0) :: rest)) := va_get (D := D) (ci := 6) (v := .int (σ 6)) (C := RX6) (T := TX6) (N := 15) C.1 C.2.1 C.2.2.2.2.2.2.1 inG6 C.2.2.2.1 C.2.2.2.2.2.2.2.1 hP 0 rfl rfl 13 (by decide) hlink (fun _ h9 => h9) rfl hdg kk
theorem pM_model_toPlace {v : Int32} (C : Cx p s m args meth c own cc nL ret D tys) (hap : apt 8 Ad) (hin : ∀ q, AS 8 Ad q → A q) (hP : va_P D vwCl (wM Ad cy σ μ) H) (hS : va_S A H0 H locs) {index : Nat} (hlink : (Cond.fieldLink own index "SettingStoreModel" "toPlace" "I").before args s = true) (hdg : decode cc pc = .ok (.putfield index, 3)) (kk : ∀ (H1 : Heap) (locs1 : List Loc), va_P D vwCl (wM Ad cy (upd σ 6 v) μ) H1 → va_S A H0 H1 locs1 → W p l e R s m args below meth c H1 locs1 cells slots Q (F0 m (pc + 3) ls rest)) : W p l e R s m args below meth c H locs cells slots Q (F0 m pc ls (.int v :: .ref (Ad 0) :: rest)) :=
  va_put (D := D) (ci := 6) (v := .int v) (ty := .int) (C := RX6) (T := TX6) (N := 15) C.1 C.2.1 C.2.2.2.2.2.2.1 inG6 tyX6 tyX6_ok nmX6 C.2.2.2.1 C.2.2.2.2.2.2.2.1 hP ((dW rM hap).weaken (fun _ _ _ h => hin _ h)) hS 0 rfl rfl 13 (by decide) hlink (fun _ h9 => h9) rfl (by decide +kernel) rfl rfl (Nat.le_of_ble_eq_true rfl) hdg (fun H1 locs1 hP1 _ hS1 => kk H1 locs1 hP1 hS1)
theorem gM_model_sum (C : Cx p s m args meth c own cc nL ret D tys) (hP : va_P D vwCl (wM Ad cy σ μ) H) {index : Nat} (hlink : (Cond.fieldLink own index "SettingStoreModel" "sum" "I").before args s = true) (hdg : decode cc pc = .ok (.getfield index, 3)) (kk : W p l e R s m args below meth c H locs cells slots Q (F0 m (pc + 3) ls (.int (σ 7) :: rest))) : W p l e R s m args below meth c H locs cells slots Q (F0 m pc ls (.ref (Ad 0) :: rest)) := va_get (D := D) (ci := 6) (v := .int (σ 7)) (C := RX6) (T := TX6) (N := 15) C.1 C.2.1 C.2.2.2.2.2.2.1 inG6 C.2.2.2.1 C.2.2.2.2.2.2.2.1 hP 0 rfl rfl 14 (by decide) hlink (fun _ h9 => h9) rfl hdg kk
theorem pM_model_sum {v : Int32} (C : Cx p s m args meth c own cc nL ret D tys) (hap : apt 8 Ad) (hin : ∀ q, AS 8 Ad q → A q) (hP : va_P D vwCl (wM Ad cy σ μ) H) (hS : va_S A H0 H locs) {index : Nat} (hlink : (Cond.fieldLink own index "SettingStoreModel" "sum" "I").before args s = true) (hdg : decode cc pc = .ok (.putfield index, 3)) (kk : ∀ (H1 : Heap) (locs1 : List Loc), va_P D vwCl (wM Ad cy (upd σ 7 v) μ) H1 → va_S A H0 H1 locs1 → W p l e R s m args below meth c H1 locs1 cells slots Q (F0 m (pc + 3) ls rest)) : W p l e R s m args below meth c H locs cells slots Q (F0 m pc ls (.int v :: .ref (Ad 0) :: rest)) :=
  va_put (D := D) (ci := 6) (v := .int v) (ty := .int) (C := RX6) (T := TX6) (N := 15) C.1 C.2.1 C.2.2.2.2.2.2.1 inG6 tyX6 tyX6_ok nmX6 C.2.2.2.1 C.2.2.2.2.2.2.2.1 hP ((dW rM hap).weaken (fun _ _ _ h => hin _ h)) hS 0 rfl rfl 14 (by decide) hlink (fun _ h9 => h9) rfl (by decide +kernel) rfl rfl (Nat.le_of_ble_eq_true rfl) hdg (fun H1 locs1 hP1 _ hS1 => kk H1 locs1 hP1 hS1)
theorem vM_model (C : Cx p s m args meth c own cc nL ret D tys) (hP : va_P D vwCl (wM Ad cy σ μ) H) : ∃ cell : Cell, H[Ad 0]? = some cell ∧ cell.vm.isStatics = false ∧ s.vm.findClass RX6 = some cell.cls := va_recv (q0 := 0) (ci := 6) (q := (RX6, TX6, 15)) C.2.2.2.2.2.2.2.1 hP rfl rfl
theorem lM_0 {i : Int32} (C : Cx p s m args meth c own cc nL ret D ((cy, .int) :: tys)) (hP : va_P D vwCl (wM Ad cy σ μ) H) (hin : vp_in i 810) (hdg : decode cc pc = .ok (.iaload, 1)) (kk : W p l e R s m args below meth c H locs cells slots Q (F0 m (pc + 1) ls (.int (μ 0 i.toNatClampNeg) :: rest))) : W p l e R s m args below meth c H locs cells slots Q (F0 m pc ls (.int i :: .ref (Ad 1) :: rest)) := va_iald C.1 C.2.1 C.2.2.2.2.2.2.2.1 hP 1 0 rfl rfl hin hdg kk
theorem nM_0 (C : Cx p s m args meth c own cc nL ret D ((cy, .int) :: tys)) (hP : va_P D vwCl (wM Ad cy σ μ) H) (hdg : decode cc pc = .ok (.arraylength, 1)) (kk : W p l e R s m args below meth c H locs cells slots Q (F0 m (pc + 1) ls (.int 810 :: rest))) : W p l e R s m args below meth c H locs cells slots Q (F0 m pc ls (.ref (Ad 1) :: rest)) := va_alen C.1 C.2.1 C.2.2.2.2.2.2.2.1 hP 1 0 rfl rfl rfl hdg kk
theorem sM_0 {i x : Int32} (C : Cx p s m args meth c own cc nL ret D ((cy, .int) :: tys)) (hap : apt 8 Ad) (hin : ∀ q, AS 8 Ad q → A q) (hP : va_P D vwCl (wM Ad cy σ μ) H) (hS : va_S A H0 H locs) (hi : vp_in i 810) (hdg : decode cc pc = .ok (.iastore, 1)) (kk : ∀ (H1 : Heap) (locs1 : List Loc), va_P D vwCl (wM Ad cy σ (updA μ 0 (upd (μ 0) i.toNatClampNeg x))) H1 → va_S A H0 H1 locs1 → W p l e R s m args below meth c H1 locs1 cells slots Q (F0 m (pc + 1) ls rest)) : W p l e R s m args below meth c H locs cells slots Q (F0 m pc ls (.int x :: .int i :: .ref (Ad 1) :: rest)) := va_iast C.1 C.2.1 C.2.2.2.2.2.2.2.1 hP ((dW rM hap).weaken (fun _ _ _ h => hin _ h)) hS 1 0 rfl rfl hi hdg (fun H1 locs1 hP1 _ hS1 => kk H1 locs1 hP1 hS1)
theorem lM_1 {i : Int32} (C : Cx p s m args meth c own cc nL ret D ((cy, .int) :: tys)) (hP : va_P D vwCl (wM Ad cy σ μ) H) (hin : vp_in i 810) (hdg : decode cc pc = .ok (.iaload, 1)) (kk : W p l e R s m args below meth c H locs cells slots Q (F0 m (pc + 1) ls (.int (μ 1 i.toNatClampNeg) :: rest))) : W p l e R s m args below meth c H locs cells slots Q (F0 m pc ls (.int i :: .ref (Ad 2) :: rest)) := va_iald C.1 C.2.1 C.2.2.2.2.2.2.2.1 hP 2 0 rfl rfl hin hdg kk
theorem nM_1 (C : Cx p s m args meth c own cc nL ret D ((cy, .int) :: tys)) (hP : va_P D vwCl (wM Ad cy σ μ) H) (hdg : decode cc pc = .ok (.arraylength, 1)) (kk : W p l e R s m args below meth c H locs cells slots Q (F0 m (pc + 1) ls (.int 810 :: rest))) : W p l e R s m args below meth c H locs cells slots Q (F0 m pc ls (.ref (Ad 2) :: rest)) := va_alen C.1 C.2.1 C.2.2.2.2.2.2.2.1 hP 2 0 rfl rfl rfl hdg kk
theorem sM_1 {i x : Int32} (C : Cx p s m args meth c own cc nL ret D ((cy, .int) :: tys)) (hap : apt 8 Ad) (hin : ∀ q, AS 8 Ad q → A q) (hP : va_P D vwCl (wM Ad cy σ μ) H) (hS : va_S A H0 H locs) (hi : vp_in i 810) (hdg : decode cc pc = .ok (.iastore, 1)) (kk : ∀ (H1 : Heap) (locs1 : List Loc), va_P D vwCl (wM Ad cy σ (updA μ 1 (upd (μ 1) i.toNatClampNeg x))) H1 → va_S A H0 H1 locs1 → W p l e R s m args below meth c H1 locs1 cells slots Q (F0 m (pc + 1) ls rest)) : W p l e R s m args below meth c H locs cells slots Q (F0 m pc ls (.int x :: .int i :: .ref (Ad 2) :: rest)) := va_iast C.1 C.2.1 C.2.2.2.2.2.2.2.1 hP ((dW rM hap).weaken (fun _ _ _ h => hin _ h)) hS 2 0 rfl rfl hi hdg (fun H1 locs1 hP1 _ hS1 => kk H1 locs1 hP1 hS1)
theorem lM_2 {i : Int32} (C : Cx p s m args meth c own cc nL ret D ((cy, .int) :: tys)) (hP : va_P D vwCl (wM Ad cy σ μ) H) (hin : vp_in i 64) (hdg : decode cc pc = .ok (.iaload, 1)) (kk : W p l e R s m args below meth c H locs cells slots Q (F0 m (pc + 1) ls (.int (μ 2 i.toNatClampNeg) :: rest))) : W p l e R s m args below meth c H locs cells slots Q (F0 m pc ls (.int i :: .ref (Ad 3) :: rest)) := va_iald C.1 C.2.1 C.2.2.2.2.2.2.2.1 hP 3 0 rfl rfl hin hdg kk
theorem nM_2 (C : Cx p s m args meth c own cc nL ret D ((cy, .int) :: tys)) (hP : va_P D vwCl (wM Ad cy σ μ) H) (hdg : decode cc pc = .ok (.arraylength, 1)) (kk : W p l e R s m args below meth c H locs cells slots Q (F0 m (pc + 1) ls (.int 64 :: rest))) : W p l e R s m args below meth c H locs cells slots Q (F0 m pc ls (.ref (Ad 3) :: rest)) := va_alen C.1 C.2.1 C.2.2.2.2.2.2.2.1 hP 3 0 rfl rfl rfl hdg kk
theorem sM_2 {i x : Int32} (C : Cx p s m args meth c own cc nL ret D ((cy, .int) :: tys)) (hap : apt 8 Ad) (hin : ∀ q, AS 8 Ad q → A q) (hP : va_P D vwCl (wM Ad cy σ μ) H) (hS : va_S A H0 H locs) (hi : vp_in i 64) (hdg : decode cc pc = .ok (.iastore, 1)) (kk : ∀ (H1 : Heap) (locs1 : List Loc), va_P D vwCl (wM Ad cy σ (updA μ 2 (upd (μ 2) i.toNatClampNeg x))) H1 → va_S A H0 H1 locs1 → W p l e R s m args below meth c H1 locs1 cells slots Q (F0 m (pc + 1) ls rest)) : W p l e R s m args below meth c H locs cells slots Q (F0 m pc ls (.int x :: .int i :: .ref (Ad 3) :: rest)) := va_iast C.1 C.2.1 C.2.2.2.2.2.2.2.1 hP ((dW rM hap).weaken (fun _ _ _ h => hin _ h)) hS 3 0 rfl rfl hi hdg (fun H1 locs1 hP1 _ hS1 => kk H1 locs1 hP1 hS1)
theorem lM_3 {i : Int32} (C : Cx p s m args meth c own cc nL ret D ((cy, .int) :: tys)) (hP : va_P D vwCl (wM Ad cy σ μ) H) (hin : vp_in i 64) (hdg : decode cc pc = .ok (.iaload, 1)) (kk : W p l e R s m args below meth c H locs cells slots Q (F0 m (pc + 1) ls (.int (μ 3 i.toNatClampNeg) :: rest))) : W p l e R s m args below meth c H locs cells slots Q (F0 m pc ls (.int i :: .ref (Ad 4) :: rest)) := va_iald C.1 C.2.1 C.2.2.2.2.2.2.2.1 hP 4 0 rfl rfl hin hdg kk
theorem nM_3 (C : Cx p s m args meth c own cc nL ret D ((cy, .int) :: tys)) (hP : va_P D vwCl (wM Ad cy σ μ) H) (hdg : decode cc pc = .ok (.arraylength, 1)) (kk : W p l e R s m args below meth c H locs cells slots Q (F0 m (pc + 1) ls (.int 64 :: rest))) : W p l e R s m args below meth c H locs cells slots Q (F0 m pc ls (.ref (Ad 4) :: rest)) := va_alen C.1 C.2.1 C.2.2.2.2.2.2.2.1 hP 4 0 rfl rfl rfl hdg kk
theorem sM_3 {i x : Int32} (C : Cx p s m args meth c own cc nL ret D ((cy, .int) :: tys)) (hap : apt 8 Ad) (hin : ∀ q, AS 8 Ad q → A q) (hP : va_P D vwCl (wM Ad cy σ μ) H) (hS : va_S A H0 H locs) (hi : vp_in i 64) (hdg : decode cc pc = .ok (.iastore, 1)) (kk : ∀ (H1 : Heap) (locs1 : List Loc), va_P D vwCl (wM Ad cy σ (updA μ 3 (upd (μ 3) i.toNatClampNeg x))) H1 → va_S A H0 H1 locs1 → W p l e R s m args below meth c H1 locs1 cells slots Q (F0 m (pc + 1) ls rest)) : W p l e R s m args below meth c H locs cells slots Q (F0 m pc ls (.int x :: .int i :: .ref (Ad 4) :: rest)) := va_iast C.1 C.2.1 C.2.2.2.2.2.2.2.1 hP ((dW rM hap).weaken (fun _ _ _ h => hin _ h)) hS 4 0 rfl rfl hi hdg (fun H1 locs1 hP1 _ hS1 => kk H1 locs1 hP1 hS1)
theorem lM_4 {i : Int32} (C : Cx p s m args meth c own cc nL ret D ((cy, .int) :: tys)) (hP : va_P D vwCl (wM Ad cy σ μ) H) (hin : vp_in i 64) (hdg : decode cc pc = .ok (.iaload, 1)) (kk : W p l e R s m args below meth c H locs cells slots Q (F0 m (pc + 1) ls (.int (μ 4 i.toNatClampNeg) :: rest))) : W p l e R s m args below meth c H locs cells slots Q (F0 m pc ls (.int i :: .ref (Ad 5) :: rest)) := va_iald C.1 C.2.1 C.2.2.2.2.2.2.2.1 hP 5 0 rfl rfl hin hdg kk
theorem nM_4 (C : Cx p s m args meth c own cc nL ret D ((cy, .int) :: tys)) (hP : va_P D vwCl (wM Ad cy σ μ) H) (hdg : decode cc pc = .ok (.arraylength, 1)) (kk : W p l e R s m args below meth c H locs cells slots Q (F0 m (pc + 1) ls (.int 64 :: rest))) : W p l e R s m args below meth c H locs cells slots Q (F0 m pc ls (.ref (Ad 5) :: rest)) := va_alen C.1 C.2.1 C.2.2.2.2.2.2.2.1 hP 5 0 rfl rfl rfl hdg kk
theorem sM_4 {i x : Int32} (C : Cx p s m args meth c own cc nL ret D ((cy, .int) :: tys)) (hap : apt 8 Ad) (hin : ∀ q, AS 8 Ad q → A q) (hP : va_P D vwCl (wM Ad cy σ μ) H) (hS : va_S A H0 H locs) (hi : vp_in i 64) (hdg : decode cc pc = .ok (.iastore, 1)) (kk : ∀ (H1 : Heap) (locs1 : List Loc), va_P D vwCl (wM Ad cy σ (updA μ 4 (upd (μ 4) i.toNatClampNeg x))) H1 → va_S A H0 H1 locs1 → W p l e R s m args below meth c H1 locs1 cells slots Q (F0 m (pc + 1) ls rest)) : W p l e R s m args below meth c H locs cells slots Q (F0 m pc ls (.int x :: .int i :: .ref (Ad 5) :: rest)) := va_iast C.1 C.2.1 C.2.2.2.2.2.2.2.1 hP ((dW rM hap).weaken (fun _ _ _ h => hin _ h)) hS 5 0 rfl rfl hi hdg (fun H1 locs1 hP1 _ hS1 => kk H1 locs1 hP1 hS1)
theorem lM_5 {i : Int32} (C : Cx p s m args meth c own cc nL ret D ((cy, .int) :: tys)) (hP : va_P D vwCl (wM Ad cy σ μ) H) (hin : vp_in i 64) (hdg : decode cc pc = .ok (.iaload, 1)) (kk : W p l e R s m args below meth c H locs cells slots Q (F0 m (pc + 1) ls (.int (μ 5 i.toNatClampNeg) :: rest))) : W p l e R s m args below meth c H locs cells slots Q (F0 m pc ls (.int i :: .ref (Ad 6) :: rest)) := va_iald C.1 C.2.1 C.2.2.2.2.2.2.2.1 hP 6 0 rfl rfl hin hdg kk
theorem nM_5 (C : Cx p s m args meth c own cc nL ret D ((cy, .int) :: tys)) (hP : va_P D vwCl (wM Ad cy σ μ) H) (hdg : decode cc pc = .ok (.arraylength, 1)) (kk : W p l e R s m args below meth c H locs cells slots Q (F0 m (pc + 1) ls (.int 64 :: rest))) : W p l e R s m args below meth c H locs cells slots Q (F0 m pc ls (.ref (Ad 6) :: rest)) := va_alen C.1 C.2.1 C.2.2.2.2.2.2.2.1 hP 6 0 rfl rfl rfl hdg kk
theorem sM_5 {i x : Int32} (C : Cx p s m args meth c own cc nL ret D ((cy, .int) :: tys)) (hap : apt 8 Ad) (hin : ∀ q, AS 8 Ad q → A q) (hP : va_P D vwCl (wM Ad cy σ μ) H) (hS : va_S A H0 H locs) (hi : vp_in i 64) (hdg : decode cc pc = .ok (.iastore, 1)) (kk : ∀ (H1 : Heap) (locs1 : List Loc), va_P D vwCl (wM Ad cy σ (updA μ 5 (upd (μ 5) i.toNatClampNeg x))) H1 → va_S A H0 H1 locs1 → W p l e R s m args below meth c H1 locs1 cells slots Q (F0 m (pc + 1) ls rest)) : W p l e R s m args below meth c H locs cells slots Q (F0 m pc ls (.int x :: .int i :: .ref (Ad 6) :: rest)) := va_iast C.1 C.2.1 C.2.2.2.2.2.2.2.1 hP ((dW rM hap).weaken (fun _ _ _ h => hin _ h)) hS 6 0 rfl rfl hi hdg (fun H1 locs1 hP1 _ hS1 => kk H1 locs1 hP1 hS1)
theorem lM_6 {i : Int32} (C : Cx p s m args meth c own cc nL ret D ((cy, .int) :: tys)) (hP : va_P D vwCl (wM Ad cy σ μ) H) (hin : vp_in i 48) (hdg : decode cc pc = .ok (.iaload, 1)) (kk : W p l e R s m args below meth c H locs cells slots Q (F0 m (pc + 1) ls (.int (μ 6 i.toNatClampNeg) :: rest))) : W p l e R s m args below meth c H locs cells slots Q (F0 m pc ls (.int i :: .ref (Ad 7) :: rest)) := va_iald C.1 C.2.1 C.2.2.2.2.2.2.2.1 hP 7 0 rfl rfl hin hdg kk
theorem nM_6 (C : Cx p s m args meth c own cc nL ret D ((cy, .int) :: tys)) (hP : va_P D vwCl (wM Ad cy σ μ) H) (hdg : decode cc pc = .ok (.arraylength, 1)) (kk : W p l e R s m args below meth c H locs cells slots Q (F0 m (pc + 1) ls (.int 48 :: rest))) : W p l e R s m args below meth c H locs cells slots Q (F0 m pc ls (.ref (Ad 7) :: rest)) := va_alen C.1 C.2.1 C.2.2.2.2.2.2.2.1 hP 7 0 rfl rfl rfl hdg kk
theorem sM_6 {i x : Int32} (C : Cx p s m args meth c own cc nL ret D ((cy, .int) :: tys)) (hap : apt 8 Ad) (hin : ∀ q, AS 8 Ad q → A q) (hP : va_P D vwCl (wM Ad cy σ μ) H) (hS : va_S A H0 H locs) (hi : vp_in i 48) (hdg : decode cc pc = .ok (.iastore, 1)) (kk : ∀ (H1 : Heap) (locs1 : List Loc), va_P D vwCl (wM Ad cy σ (updA μ 6 (upd (μ 6) i.toNatClampNeg x))) H1 → va_S A H0 H1 locs1 → W p l e R s m args below meth c H1 locs1 cells slots Q (F0 m (pc + 1) ls rest)) : W p l e R s m args below meth c H locs cells slots Q (F0 m pc ls (.int x :: .int i :: .ref (Ad 7) :: rest)) := va_iast C.1 C.2.1 C.2.2.2.2.2.2.2.1 hP ((dW rM hap).weaken (fun _ _ _ h => hin _ h)) hS 7 0 rfl rfl hi hdg (fun H1 locs1 hP1 _ hS1 => kk H1 locs1 hP1 hS1)
end KIT
end
