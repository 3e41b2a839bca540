section
-- ===== PART A: goes FIRST, ahead of the names: the tables' words, and 'selects' of the private methods out of them =====
/-- a private method of a class that the tables say can be made, by its rows of tables_1 -/
def lw_okq (q : MethodName × Nat) : Prop := (q.1.cls ≠ "java/lang/invoke/MethodHandle" ∧ q.1.cls ≠ "java/lang/invoke/VarHandle") ∧ Cond.instantiable q.1.cls q.2 ∈ tables_1 ∧ Cond.privateMethod q.1 ∈ tables_1 ∧ Cond.instanceMethod q.1 ∈ tables_1
theorem lw_p0 : lw_okq (⟨"RoleParts", "judgeTyped", "()I"⟩, 9) := ⟨⟨by decide +kernel, by decide +kernel⟩, List.mem_of_getElem? (i := 10) (by decide +kernel), List.mem_of_getElem? (i := 162) (by decide +kernel), List.mem_of_getElem? (i := 163) (by decide +kernel)⟩
theorem lw_p1 : lw_okq (⟨"RoleParts$Grammar", "next", "(C)I"⟩, 2) := ⟨⟨by decide +kernel, by decide +kernel⟩, List.mem_of_getElem? (i := 32) (by decide +kernel), List.mem_of_getElem? (i := 178) (by decide +kernel), List.mem_of_getElem? (i := 179) (by decide +kernel)⟩
theorem lw_p2 : lw_okq (⟨"RoleParts$Grammar", "nextInProtocol", "(C)I"⟩, 2) := ⟨⟨by decide +kernel, by decide +kernel⟩, List.mem_of_getElem? (i := 32) (by decide +kernel), List.mem_of_getElem? (i := 182) (by decide +kernel), List.mem_of_getElem? (i := 183) (by decide +kernel)⟩
theorem lw_p3 : lw_okq (⟨"RoleParts$Grammar", "nextAtBrace", "(C)I"⟩, 2) := ⟨⟨by decide +kernel, by decide +kernel⟩, List.mem_of_getElem? (i := 32) (by decide +kernel), List.mem_of_getElem? (i := 192) (by decide +kernel), List.mem_of_getElem? (i := 193) (by decide +kernel)⟩
theorem lw_p4 : lw_okq (⟨"RoleParts$Grammar", "nextAfterProtocol", "(C)I"⟩, 2) := ⟨⟨by decide +kernel, by decide +kernel⟩, List.mem_of_getElem? (i := 32) (by decide +kernel), List.mem_of_getElem? (i := 199) (by decide +kernel), List.mem_of_getElem? (i := 200) (by decide +kernel)⟩
theorem lw_p5 : lw_okq (⟨"RoleParts$Soundness", "isSoundAt", "(LRoleParts$Text;I)Z"⟩, 4) := ⟨⟨by decide +kernel, by decide +kernel⟩, List.mem_of_getElem? (i := 45) (by decide +kernel), List.mem_of_getElem? (i := 208) (by decide +kernel), List.mem_of_getElem? (i := 209) (by decide +kernel)⟩
theorem lw_p6 : lw_okq (⟨"RoleParts$Soundness", "openLoop", "(C)Z"⟩, 4) := ⟨⟨by decide +kernel, by decide +kernel⟩, List.mem_of_getElem? (i := 45) (by decide +kernel), List.mem_of_getElem? (i := 213) (by decide +kernel), List.mem_of_getElem? (i := 214) (by decide +kernel)⟩
theorem lw_p7 : lw_okq (⟨"RoleParts$Soundness", "openMessage", "()Z"⟩, 4) := ⟨⟨by decide +kernel, by decide +kernel⟩, List.mem_of_getElem? (i := 45) (by decide +kernel), List.mem_of_getElem? (i := 217) (by decide +kernel), List.mem_of_getElem? (i := 218) (by decide +kernel)⟩
theorem lw_p8 : lw_okq (⟨"RoleParts$Soundness", "isInBounds", "()Z"⟩, 4) := ⟨⟨by decide +kernel, by decide +kernel⟩, List.mem_of_getElem? (i := 45) (by decide +kernel), List.mem_of_getElem? (i := 221) (by decide +kernel), List.mem_of_getElem? (i := 222) (by decide +kernel)⟩
theorem lw_p9 : lw_okq (⟨"RoleParts$Soundness", "openBranch", "(C)Z"⟩, 4) := ⟨⟨by decide +kernel, by decide +kernel⟩, List.mem_of_getElem? (i := 45) (by decide +kernel), List.mem_of_getElem? (i := 225) (by decide +kernel), List.mem_of_getElem? (i := 226) (by decide +kernel)⟩
theorem lw_p10 : lw_okq (⟨"RoleParts$Soundness", "isLoopAroundMessage", "(C)Z"⟩, 4) := ⟨⟨by decide +kernel, by decide +kernel⟩, List.mem_of_getElem? (i := 45) (by decide +kernel), List.mem_of_getElem? (i := 230) (by decide +kernel), List.mem_of_getElem? (i := 231) (by decide +kernel)⟩
theorem lw_p11 : lw_okq (⟨"RoleParts", "adoptTyped", "()V"⟩, 9) := ⟨⟨by decide +kernel, by decide +kernel⟩, List.mem_of_getElem? (i := 10) (by decide +kernel), List.mem_of_getElem? (i := 234) (by decide +kernel), List.mem_of_getElem? (i := 235) (by decide +kernel)⟩
theorem lw_p12 : lw_okq (⟨"RoleParts$PartWriter", "writeProtocol", "(I)Z"⟩, 4) := ⟨⟨by decide +kernel, by decide +kernel⟩, List.mem_of_getElem? (i := 87) (by decide +kernel), List.mem_of_getElem? (i := 251) (by decide +kernel), List.mem_of_getElem? (i := 252) (by decide +kernel)⟩
theorem lw_p13 : lw_okq (⟨"RoleParts$PartWriter", "writeLoop", "(I)Z"⟩, 4) := ⟨⟨by decide +kernel, by decide +kernel⟩, List.mem_of_getElem? (i := 87) (by decide +kernel), List.mem_of_getElem? (i := 256) (by decide +kernel), List.mem_of_getElem? (i := 257) (by decide +kernel)⟩
theorem lw_p14 : lw_okq (⟨"RoleParts$PartWriter", "closeLoop", "(IC)Z"⟩, 4) := ⟨⟨by decide +kernel, by decide +kernel⟩, List.mem_of_getElem? (i := 87) (by decide +kernel), List.mem_of_getElem? (i := 261) (by decide +kernel), List.mem_of_getElem? (i := 262) (by decide +kernel)⟩
theorem lw_p15 : lw_okq (⟨"RoleParts$PartWriter", "writeMessage", "(I)Z"⟩, 4) := ⟨⟨by decide +kernel, by decide +kernel⟩, List.mem_of_getElem? (i := 87) (by decide +kernel), List.mem_of_getElem? (i := 272) (by decide +kernel), List.mem_of_getElem? (i := 273) (by decide +kernel)⟩
def lw_privs_1 : List (MethodName × Nat) := [(⟨"RoleParts", "judgeTyped", "()I"⟩, 9), (⟨"RoleParts$Grammar", "next", "(C)I"⟩, 2), (⟨"RoleParts$Grammar", "nextInProtocol", "(C)I"⟩, 2), (⟨"RoleParts$Grammar", "nextAtBrace", "(C)I"⟩, 2), (⟨"RoleParts$Grammar", "nextAfterProtocol", "(C)I"⟩, 2), (⟨"RoleParts$Soundness", "isSoundAt", "(LRoleParts$Text;I)Z"⟩, 4), (⟨"RoleParts$Soundness", "openLoop", "(C)Z"⟩, 4), (⟨"RoleParts$Soundness", "openMessage", "()Z"⟩, 4), (⟨"RoleParts$Soundness", "isInBounds", "()Z"⟩, 4), (⟨"RoleParts$Soundness", "openBranch", "(C)Z"⟩, 4), (⟨"RoleParts$Soundness", "isLoopAroundMessage", "(C)Z"⟩, 4), (⟨"RoleParts", "adoptTyped", "()V"⟩, 9), (⟨"RoleParts$PartWriter", "writeProtocol", "(I)Z"⟩, 4), (⟨"RoleParts$PartWriter", "writeLoop", "(I)Z"⟩, 4), (⟨"RoleParts$PartWriter", "closeLoop", "(IC)Z"⟩, 4), (⟨"RoleParts$PartWriter", "writeMessage", "(I)Z"⟩, 4)]
theorem lw_r1 : ∀ q ∈ lw_privs_1, lw_okq q := List.forall_mem_cons.mpr ⟨lw_p0, List.forall_mem_cons.mpr ⟨lw_p1, List.forall_mem_cons.mpr ⟨lw_p2, List.forall_mem_cons.mpr ⟨lw_p3, List.forall_mem_cons.mpr ⟨lw_p4, List.forall_mem_cons.mpr ⟨lw_p5, List.forall_mem_cons.mpr ⟨lw_p6, List.forall_mem_cons.mpr ⟨lw_p7, List.forall_mem_cons.mpr ⟨lw_p8, List.forall_mem_cons.mpr ⟨lw_p9, List.forall_mem_cons.mpr ⟨lw_p10, List.forall_mem_cons.mpr ⟨lw_p11, List.forall_mem_cons.mpr ⟨lw_p12, List.forall_mem_cons.mpr ⟨lw_p13, List.forall_mem_cons.mpr ⟨lw_p14, List.forall_mem_cons.mpr ⟨lw_p15, fun _ h => absurd h List.not_mem_nil⟩⟩⟩⟩⟩⟩⟩⟩⟩⟩⟩⟩⟩⟩⟩⟩
theorem lw_p16 : lw_okq (⟨"RoleParts$PartWriter", "writeOwnBranches", "(I)Z"⟩, 4) := ⟨⟨by decide +kernel, by decide +kernel⟩, List.mem_of_getElem? (i := 87) (by decide +kernel), List.mem_of_getElem? (i := 276) (by decide +kernel), List.mem_of_getElem? (i := 277) (by decide +kernel)⟩
theorem lw_p17 : lw_okq (⟨"RoleParts$PartWriter", "writeCommonPart", "(I)Z"⟩, 4) := ⟨⟨by decide +kernel, by decide +kernel⟩, List.mem_of_getElem? (i := 87) (by decide +kernel), List.mem_of_getElem? (i := 280) (by decide +kernel), List.mem_of_getElem? (i := 281) (by decide +kernel)⟩
theorem lw_p18 : lw_okq (⟨"RoleParts", "hasPart", "(I)Z"⟩, 9) := ⟨⟨by decide +kernel, by decide +kernel⟩, List.mem_of_getElem? (i := 10) (by decide +kernel), List.mem_of_getElem? (i := 297) (by decide +kernel), List.mem_of_getElem? (i := 298) (by decide +kernel)⟩
theorem lw_p19 : lw_okq (⟨"RoleParts$Player", "goOnAtOnce", "()V"⟩, 3) := ⟨⟨by decide +kernel, by decide +kernel⟩, List.mem_of_getElem? (i := 70) (by decide +kernel), List.mem_of_getElem? (i := 318) (by decide +kernel), List.mem_of_getElem? (i := 319) (by decide +kernel)⟩
theorem lw_p20 : lw_okq (⟨"RoleParts$Player", "bodyOfLoop", "(C)I"⟩, 3) := ⟨⟨by decide +kernel, by decide +kernel⟩, List.mem_of_getElem? (i := 70) (by decide +kernel), List.mem_of_getElem? (i := 324) (by decide +kernel), List.mem_of_getElem? (i := 325) (by decide +kernel)⟩
theorem lw_p21 : lw_okq (⟨"RoleParts", "playing", "(I)LRoleParts$Player;"⟩, 9) := ⟨⟨by decide +kernel, by decide +kernel⟩, List.mem_of_getElem? (i := 10) (by decide +kernel), List.mem_of_getElem? (i := 336) (by decide +kernel), List.mem_of_getElem? (i := 337) (by decide +kernel)⟩
theorem lw_p22 : lw_okq (⟨"RoleParts", "rowBetween", "(II)LRoleParts$Row;"⟩, 9) := ⟨⟨by decide +kernel, by decide +kernel⟩, List.mem_of_getElem? (i := 10) (by decide +kernel), List.mem_of_getElem? (i := 367) (by decide +kernel), List.mem_of_getElem? (i := 368) (by decide +kernel)⟩
theorem lw_p23 : lw_okq (⟨"RoleParts", "canGoOn", "(I)Z"⟩, 9) := ⟨⟨by decide +kernel, by decide +kernel⟩, List.mem_of_getElem? (i := 10) (by decide +kernel), List.mem_of_getElem? (i := 416) (by decide +kernel), List.mem_of_getElem? (i := 417) (by decide +kernel)⟩
theorem lw_p24 : lw_okq (⟨"RoleParts", "allEnded", "()Z"⟩, 9) := ⟨⟨by decide +kernel, by decide +kernel⟩, List.mem_of_getElem? (i := 10) (by decide +kernel), List.mem_of_getElem? (i := 424) (by decide +kernel), List.mem_of_getElem? (i := 425) (by decide +kernel)⟩
theorem lw_p25 : lw_okq (⟨"RoleParts", "nothingOnTheWay", "()Z"⟩, 9) := ⟨⟨by decide +kernel, by decide +kernel⟩, List.mem_of_getElem? (i := 10) (by decide +kernel), List.mem_of_getElem? (i := 428) (by decide +kernel), List.mem_of_getElem? (i := 429) (by decide +kernel)⟩
theorem lw_p26 : lw_okq (⟨"RolePartsModel", "read", "()I"⟩, 19) := ⟨⟨by decide +kernel, by decide +kernel⟩, List.mem_of_getElem? (i := 432) (by decide +kernel), List.mem_of_getElem? (i := 504) (by decide +kernel), List.mem_of_getElem? (i := 505) (by decide +kernel)⟩
theorem lw_p27 : lw_okq (⟨"RolePartsModel", "piece", "(IIIII)I"⟩, 19) := ⟨⟨by decide +kernel, by decide +kernel⟩, List.mem_of_getElem? (i := 432) (by decide +kernel), List.mem_of_getElem? (i := 517) (by decide +kernel), List.mem_of_getElem? (i := 518) (by decide +kernel)⟩
theorem lw_p28 : lw_okq (⟨"RolePartsModel", "ended", "(I)I"⟩, 19) := ⟨⟨by decide +kernel, by decide +kernel⟩, List.mem_of_getElem? (i := 432) (by decide +kernel), List.mem_of_getElem? (i := 521) (by decide +kernel), List.mem_of_getElem? (i := 522) (by decide +kernel)⟩
theorem lw_p29 : lw_okq (⟨"RolePartsModel", "sound", "()Z"⟩, 19) := ⟨⟨by decide +kernel, by decide +kernel⟩, List.mem_of_getElem? (i := 432) (by decide +kernel), List.mem_of_getElem? (i := 528) (by decide +kernel), List.mem_of_getElem? (i := 529) (by decide +kernel)⟩
theorem lw_p30 : lw_okq (⟨"RolePartsModel", "bound", "(I)Z"⟩, 19) := ⟨⟨by decide +kernel, by decide +kernel⟩, List.mem_of_getElem? (i := 432) (by decide +kernel), List.mem_of_getElem? (i := 532) (by decide +kernel), List.mem_of_getElem? (i := 533) (by decide +kernel)⟩
theorem lw_p31 : lw_okq (⟨"RolePartsModel", "single", "(I)Z"⟩, 19) := ⟨⟨by decide +kernel, by decide +kernel⟩, List.mem_of_getElem? (i := 432) (by decide +kernel), List.mem_of_getElem? (i := 536) (by decide +kernel), List.mem_of_getElem? (i := 537) (by decide +kernel)⟩
def lw_privs_2 : List (MethodName × Nat) := [(⟨"RoleParts$PartWriter", "writeOwnBranches", "(I)Z"⟩, 4), (⟨"RoleParts$PartWriter", "writeCommonPart", "(I)Z"⟩, 4), (⟨"RoleParts", "hasPart", "(I)Z"⟩, 9), (⟨"RoleParts$Player", "goOnAtOnce", "()V"⟩, 3), (⟨"RoleParts$Player", "bodyOfLoop", "(C)I"⟩, 3), (⟨"RoleParts", "playing", "(I)LRoleParts$Player;"⟩, 9), (⟨"RoleParts", "rowBetween", "(II)LRoleParts$Row;"⟩, 9), (⟨"RoleParts", "canGoOn", "(I)Z"⟩, 9), (⟨"RoleParts", "allEnded", "()Z"⟩, 9), (⟨"RoleParts", "nothingOnTheWay", "()Z"⟩, 9), (⟨"RolePartsModel", "read", "()I"⟩, 19), (⟨"RolePartsModel", "piece", "(IIIII)I"⟩, 19), (⟨"RolePartsModel", "ended", "(I)I"⟩, 19), (⟨"RolePartsModel", "sound", "()Z"⟩, 19), (⟨"RolePartsModel", "bound", "(I)Z"⟩, 19), (⟨"RolePartsModel", "single", "(I)Z"⟩, 19)]
theorem lw_r2 : ∀ q ∈ lw_privs_2, lw_okq q := List.forall_mem_cons.mpr ⟨lw_p16, List.forall_mem_cons.mpr ⟨lw_p17, List.forall_mem_cons.mpr ⟨lw_p18, List.forall_mem_cons.mpr ⟨lw_p19, List.forall_mem_cons.mpr ⟨lw_p20, List.forall_mem_cons.mpr ⟨lw_p21, List.forall_mem_cons.mpr ⟨lw_p22, List.forall_mem_cons.mpr ⟨lw_p23, List.forall_mem_cons.mpr ⟨lw_p24, List.forall_mem_cons.mpr ⟨lw_p25, List.forall_mem_cons.mpr ⟨lw_p26, List.forall_mem_cons.mpr ⟨lw_p27, List.forall_mem_cons.mpr ⟨lw_p28, List.forall_mem_cons.mpr ⟨lw_p29, List.forall_mem_cons.mpr ⟨lw_p30, List.forall_mem_cons.mpr ⟨lw_p31, fun _ h => absurd h List.not_mem_nil⟩⟩⟩⟩⟩⟩⟩⟩⟩⟩⟩⟩⟩⟩⟩⟩
theorem lw_p32 : lw_okq (⟨"RolePartsModel", "apart", "(I)Z"⟩, 19) := ⟨⟨by decide +kernel, by decide +kernel⟩, List.mem_of_getElem? (i := 432) (by decide +kernel), List.mem_of_getElem? (i := 540) (by decide +kernel), List.mem_of_getElem? (i := 541) (by decide +kernel)⟩
theorem lw_p33 : lw_okq (⟨"RolePartsModel", "project", "()V"⟩, 19) := ⟨⟨by decide +kernel, by decide +kernel⟩, List.mem_of_getElem? (i := 432) (by decide +kernel), List.mem_of_getElem? (i := 544) (by decide +kernel), List.mem_of_getElem? (i := 545) (by decide +kernel)⟩
theorem lw_p34 : lw_okq (⟨"RolePartsModel", "loopPart", "(II)V"⟩, 19) := ⟨⟨by decide +kernel, by decide +kernel⟩, List.mem_of_getElem? (i := 432) (by decide +kernel), List.mem_of_getElem? (i := 548) (by decide +kernel), List.mem_of_getElem? (i := 549) (by decide +kernel)⟩
theorem lw_p35 : lw_okq (⟨"RolePartsModel", "put", "(II)V"⟩, 19) := ⟨⟨by decide +kernel, by decide +kernel⟩, List.mem_of_getElem? (i := 432) (by decide +kernel), List.mem_of_getElem? (i := 552) (by decide +kernel), List.mem_of_getElem? (i := 553) (by decide +kernel)⟩
theorem lw_p36 : lw_okq (⟨"RolePartsModel", "copy", "(II)V"⟩, 19) := ⟨⟨by decide +kernel, by decide +kernel⟩, List.mem_of_getElem? (i := 432) (by decide +kernel), List.mem_of_getElem? (i := 556) (by decide +kernel), List.mem_of_getElem? (i := 557) (by decide +kernel)⟩
theorem lw_p37 : lw_okq (⟨"RolePartsModel", "messagePart", "(II)V"⟩, 19) := ⟨⟨by decide +kernel, by decide +kernel⟩, List.mem_of_getElem? (i := 432) (by decide +kernel), List.mem_of_getElem? (i := 560) (by decide +kernel), List.mem_of_getElem? (i := 561) (by decide +kernel)⟩
theorem lw_p38 : lw_okq (⟨"RolePartsModel", "same", "(II)Z"⟩, 19) := ⟨⟨by decide +kernel, by decide +kernel⟩, List.mem_of_getElem? (i := 432) (by decide +kernel), List.mem_of_getElem? (i := 564) (by decide +kernel), List.mem_of_getElem? (i := 565) (by decide +kernel)⟩
theorem lw_p39 : lw_okq (⟨"RolePartsModel", "settle", "(II)V"⟩, 19) := ⟨⟨by decide +kernel, by decide +kernel⟩, List.mem_of_getElem? (i := 432) (by decide +kernel), List.mem_of_getElem? (i := 587) (by decide +kernel), List.mem_of_getElem? (i := 588) (by decide +kernel)⟩
theorem lw_p40 : lw_okq (⟨"RolePartsModel", "sign", "(II)I"⟩, 19) := ⟨⟨by decide +kernel, by decide +kernel⟩, List.mem_of_getElem? (i := 432) (by decide +kernel), List.mem_of_getElem? (i := 591) (by decide +kernel), List.mem_of_getElem? (i := 592) (by decide +kernel)⟩
theorem lw_p41 : lw_okq (⟨"RolePartsModel", "loopOf", "(III)I"⟩, 19) := ⟨⟨by decide +kernel, by decide +kernel⟩, List.mem_of_getElem? (i := 432) (by decide +kernel), List.mem_of_getElem? (i := 595) (by decide +kernel), List.mem_of_getElem? (i := 596) (by decide +kernel)⟩
theorem lw_p42 : lw_okq (⟨"RolePartsModel", "branchOf", "(II)I"⟩, 19) := ⟨⟨by decide +kernel, by decide +kernel⟩, List.mem_of_getElem? (i := 432) (by decide +kernel), List.mem_of_getElem? (i := 612) (by decide +kernel), List.mem_of_getElem? (i := 613) (by decide +kernel)⟩
theorem lw_p43 : lw_okq (⟨"RolePartsModel", "canGo", "(I)Z"⟩, 19) := ⟨⟨by decide +kernel, by decide +kernel⟩, List.mem_of_getElem? (i := 432) (by decide +kernel), List.mem_of_getElem? (i := 643) (by decide +kernel), List.mem_of_getElem? (i := 644) (by decide +kernel)⟩
def lw_privs_3 : List (MethodName × Nat) := [(⟨"RolePartsModel", "apart", "(I)Z"⟩, 19), (⟨"RolePartsModel", "project", "()V"⟩, 19), (⟨"RolePartsModel", "loopPart", "(II)V"⟩, 19), (⟨"RolePartsModel", "put", "(II)V"⟩, 19), (⟨"RolePartsModel", "copy", "(II)V"⟩, 19), (⟨"RolePartsModel", "messagePart", "(II)V"⟩, 19), (⟨"RolePartsModel", "same", "(II)Z"⟩, 19), (⟨"RolePartsModel", "settle", "(II)V"⟩, 19), (⟨"RolePartsModel", "sign", "(II)I"⟩, 19), (⟨"RolePartsModel", "loopOf", "(III)I"⟩, 19), (⟨"RolePartsModel", "branchOf", "(II)I"⟩, 19), (⟨"RolePartsModel", "canGo", "(I)Z"⟩, 19)]
theorem lw_r3 : ∀ q ∈ lw_privs_3, lw_okq q := List.forall_mem_cons.mpr ⟨lw_p32, List.forall_mem_cons.mpr ⟨lw_p33, List.forall_mem_cons.mpr ⟨lw_p34, List.forall_mem_cons.mpr ⟨lw_p35, List.forall_mem_cons.mpr ⟨lw_p36, List.forall_mem_cons.mpr ⟨lw_p37, List.forall_mem_cons.mpr ⟨lw_p38, List.forall_mem_cons.mpr ⟨lw_p39, List.forall_mem_cons.mpr ⟨lw_p40, List.forall_mem_cons.mpr ⟨lw_p41, List.forall_mem_cons.mpr ⟨lw_p42, List.forall_mem_cons.mpr ⟨lw_p43, fun _ h => absurd h List.not_mem_nil⟩⟩⟩⟩⟩⟩⟩⟩⟩⟩⟩⟩
def lw_privs : List (MethodName × Nat) := lw_privs_1 ++ (lw_privs_2 ++ (lw_privs_3))
def lw_tbl : List Cond := k2_sels lw_privs ++ tables_1
theorem lw_privs_ok : ∀ q ∈ lw_privs, lw_okq q := by
  show ∀ q ∈ lw_privs_1 ++ (lw_privs_2 ++ (lw_privs_3)), lw_okq q
  exact List.forall_mem_append.mpr ⟨lw_r1, List.forall_mem_append.mpr ⟨lw_r2, lw_r3⟩⟩
end
section
def RX0 : String := "RoleParts$Grammar"
def TX0 : u_T := fun k => match k with
  | 0 => ("RoleParts$Grammar", "expected", "I", false)
  | _ => ("RoleParts$Grammar", "openMessages", "I", false)
def tyX0 : Nat → FieldType := fun k => match k with
  | 0 => .int
  | _ => .int
abbrev wsX00 : List Cond := u_ws RX0 TX0 2
theorem nmX0 : ∀ a, a < 2 → ∀ b, b < 2 → a ≠ b → (TX0 a).2.1 ≠ (TX0 b).2.1 := by decide +kernel
theorem tyX0_ok : ∀ k, k < 2 → parseFieldDescriptor (TX0 k).2.2.1 = some (tyX0 k) := by decide +kernel
abbrev cX0_init : ByteArray := prog_2_method_1_code
def yX0_init : MethodName := ⟨RX0, "<init>", "()V"⟩
abbrev cX0_faultOf : ByteArray := prog_2_method_2_code
def yX0_faultOf : MethodName := ⟨RX0, "faultOf", "(LRoleParts$Text;)I"⟩
abbrev cX0_next : ByteArray := prog_2_method_3_code
def yX0_next : MethodName := ⟨RX0, "next", "(C)I"⟩
abbrev cX0_nextInProtocol : ByteArray := prog_2_method_4_code
def yX0_nextInProtocol : MethodName := ⟨RX0, "nextInProtocol", "(C)I"⟩
abbrev cX0_nextAtBrace : ByteArray := prog_2_method_5_code
def yX0_nextAtBrace : MethodName := ⟨RX0, "nextAtBrace", "(C)I"⟩
abbrev cX0_nextAfterProtocol : ByteArray := prog_2_method_6_code
def yX0_nextAfterProtocol : MethodName := ⟨RX0, "nextAfterProtocol", "(C)I"⟩
def RX1 : String := "RoleParts$PartWriter"
def TX1 : u_T := fun k => match k with
  | 0 => ("RoleParts$PartWriter", "protocol", "LRoleParts$Text;", true)
  | 1 => ("RoleParts$PartWriter", "role", "C", true)
  | 2 => ("RoleParts$PartWriter", "part", "LRoleParts$Text;", true)
  | _ => ("RoleParts$PartWriter", "place", "I", false)
def tyX1 : Nat → FieldType := fun k => match k with
  | 0 => .object "RoleParts$Text"
  | 1 => .char
  | 2 => .object "RoleParts$Text"
  | _ => .int
abbrev wsX10 : List Cond := u_ws RX1 TX1 4
theorem nmX1 : ∀ a, a < 4 → ∀ b, b < 4 → a ≠ b → (TX1 a).2.1 ≠ (TX1 b).2.1 := by decide +kernel
theorem tyX1_ok : ∀ k, k < 4 → parseFieldDescriptor (TX1 k).2.2.1 = some (tyX1 k) := by decide +kernel
abbrev cX1_init : ByteArray := prog_3_method_1_code
def yX1_init : MethodName := ⟨RX1, "<init>", "(LRoleParts$Text;CLRoleParts$Text;)V"⟩
abbrev cX1_writePart : ByteArray := prog_3_method_2_code
def yX1_writePart : MethodName := ⟨RX1, "writePart", "()Z"⟩
abbrev cX1_writeProtocol : ByteArray := prog_3_method_3_code
def yX1_writeProtocol : MethodName := ⟨RX1, "writeProtocol", "(I)Z"⟩
abbrev cX1_writeLoop : ByteArray := prog_3_method_4_code
def yX1_writeLoop : MethodName := ⟨RX1, "writeLoop", "(I)Z"⟩
abbrev cX1_closeLoop : ByteArray := prog_3_method_5_code
def yX1_closeLoop : MethodName := ⟨RX1, "closeLoop", "(IC)Z"⟩
abbrev cX1_writeMessage : ByteArray := prog_3_method_6_code
def yX1_writeMessage : MethodName := ⟨RX1, "writeMessage", "(I)Z"⟩
abbrev cX1_writeOwnBranches : ByteArray := prog_3_method_7_code
def yX1_writeOwnBranches : MethodName := ⟨RX1, "writeOwnBranches", "(I)Z"⟩
abbrev cX1_writeCommonPart : ByteArray := prog_3_method_8_code
def yX1_writeCommonPart : MethodName := ⟨RX1, "writeCommonPart", "(I)Z"⟩
def RX2 : String := "RoleParts$Player"
def TX2 : u_T := fun k => match k with
  | 0 => ("RoleParts$Player", "part", "LRoleParts$Text;", true)
  | 1 => ("RoleParts$Player", "partExists", "Z", false)
  | _ => ("RoleParts$Player", "place", "I", false)
def tyX2 : Nat → FieldType := fun k => match k with
  | 0 => .object "RoleParts$Text"
  | 1 => .boolean
  | _ => .int
abbrev wsX20 : List Cond := u_ws RX2 TX2 3
theorem nmX2 : ∀ a, a < 3 → ∀ b, b < 3 → a ≠ b → (TX2 a).2.1 ≠ (TX2 b).2.1 := by decide +kernel
theorem tyX2_ok : ∀ k, k < 3 → parseFieldDescriptor (TX2 k).2.2.1 = some (tyX2 k) := by decide +kernel
abbrev cX2_init : ByteArray := prog_4_method_1_code
def yX2_init : MethodName := ⟨RX2, "<init>", "(LRoleParts$Text;)V"⟩
abbrev cX2_toBeginning : ByteArray := prog_4_method_2_code
def yX2_toBeginning : MethodName := ⟨RX2, "toBeginning", "()V"⟩
abbrev cX2_action : ByteArray := prog_4_method_3_code
def yX2_action : MethodName := ⟨RX2, "action", "()I"⟩
abbrev cX2_otherRole : ByteArray := prog_4_method_4_code
def yX2_otherRole : MethodName := ⟨RX2, "otherRole", "()I"⟩
abbrev cX2_behindLabel : ByteArray := prog_4_method_5_code
def yX2_behindLabel : MethodName := ⟨RX2, "behindLabel", "(I)I"⟩
abbrev cX2_follow : ByteArray := prog_4_method_6_code
def yX2_follow : MethodName := ⟨RX2, "follow", "(I)Z"⟩
abbrev cX2_goOnAtOnce : ByteArray := prog_4_method_7_code
def yX2_goOnAtOnce : MethodName := ⟨RX2, "goOnAtOnce", "()V"⟩
abbrev cX2_bodyOfLoop : ByteArray := prog_4_method_8_code
def yX2_bodyOfLoop : MethodName := ⟨RX2, "bodyOfLoop", "(C)I"⟩
def RX3 : String := "RoleParts$Row"
def TX3 : u_T := fun k => match k with
  | 0 => ("RoleParts$Row", "labels", "[I", true)
  | _ => ("RoleParts$Row", "size", "I", false)
def tyX3 : Nat → FieldType := fun k => match k with
  | 0 => .array .int
  | _ => .int
abbrev wsX30 : List Cond := u_ws RX3 TX3 2
theorem nmX3 : ∀ a, a < 2 → ∀ b, b < 2 → a ≠ b → (TX3 a).2.1 ≠ (TX3 b).2.1 := by decide +kernel
theorem tyX3_ok : ∀ k, k < 2 → parseFieldDescriptor (TX3 k).2.2.1 = some (tyX3 k) := by decide +kernel
abbrev cX3_init : ByteArray := prog_5_method_1_code
def yX3_init : MethodName := ⟨RX3, "<init>", "()V"⟩
abbrev cX3_size : ByteArray := prog_5_method_2_code
def yX3_size : MethodName := ⟨RX3, "size", "()I"⟩
abbrev cX3_isFull : ByteArray := prog_5_method_3_code
def yX3_isFull : MethodName := ⟨RX3, "isFull", "()Z"⟩
abbrev cX3_get : ByteArray := prog_5_method_4_code
def yX3_get : MethodName := ⟨RX3, "get", "(I)I"⟩
abbrev cX3_clear : ByteArray := prog_5_method_5_code
def yX3_clear : MethodName := ⟨RX3, "clear", "()V"⟩
abbrev cX3_append : ByteArray := prog_5_method_6_code
def yX3_append : MethodName := ⟨RX3, "append", "(I)V"⟩
abbrev cX3_removeFirst : ByteArray := prog_5_method_7_code
def yX3_removeFirst : MethodName := ⟨RX3, "removeFirst", "()V"⟩
def RX4 : String := "RoleParts$Soundness"
def TX4 : u_T := fun k => match k with
  | 0 => ("RoleParts$Soundness", "loopsAround", "[I", true)
  | 1 => ("RoleParts$Soundness", "labelsUsed", "[I", true)
  | 2 => ("RoleParts$Soundness", "openMessages", "I", false)
  | _ => ("RoleParts$Soundness", "openLoops", "I", false)
def tyX4 : Nat → FieldType := fun k => match k with
  | 0 => .array .int
  | 1 => .array .int
  | 2 => .int
  | _ => .int
abbrev wsX40 : List Cond := u_ws RX4 TX4 4
theorem nmX4 : ∀ a, a < 4 → ∀ b, b < 4 → a ≠ b → (TX4 a).2.1 ≠ (TX4 b).2.1 := by decide +kernel
theorem tyX4_ok : ∀ k, k < 4 → parseFieldDescriptor (TX4 k).2.2.1 = some (tyX4 k) := by decide +kernel
abbrev cX4_init : ByteArray := prog_6_method_1_code
def yX4_init : MethodName := ⟨RX4, "<init>", "()V"⟩
abbrev cX4_holdsFor : ByteArray := prog_6_method_2_code
def yX4_holdsFor : MethodName := ⟨RX4, "holdsFor", "(LRoleParts$Text;)Z"⟩
abbrev cX4_isSoundAt : ByteArray := prog_6_method_3_code
def yX4_isSoundAt : MethodName := ⟨RX4, "isSoundAt", "(LRoleParts$Text;I)Z"⟩
abbrev cX4_openLoop : ByteArray := prog_6_method_4_code
def yX4_openLoop : MethodName := ⟨RX4, "openLoop", "(C)Z"⟩
abbrev cX4_openMessage : ByteArray := prog_6_method_5_code
def yX4_openMessage : MethodName := ⟨RX4, "openMessage", "()Z"⟩
abbrev cX4_openBranch : ByteArray := prog_6_method_6_code
def yX4_openBranch : MethodName := ⟨RX4, "openBranch", "(C)Z"⟩
abbrev cX4_isLoopAroundMessage : ByteArray := prog_6_method_7_code
def yX4_isLoopAroundMessage : MethodName := ⟨RX4, "isLoopAroundMessage", "(C)Z"⟩
abbrev cX4_isInBounds : ByteArray := prog_6_method_8_code
def yX4_isInBounds : MethodName := ⟨RX4, "isInBounds", "()Z"⟩
def RX5 : String := "RoleParts$Text"
def TX5 : u_T := fun k => match k with
  | 0 => ("RoleParts$Text", "chars", "[C", true)
  | _ => ("RoleParts$Text", "size", "I", false)
def tyX5 : Nat → FieldType := fun k => match k with
  | 0 => .array .char
  | _ => .int
abbrev wsX50 : List Cond := u_ws RX5 TX5 2
theorem nmX5 : ∀ a, a < 2 → ∀ b, b < 2 → a ≠ b → (TX5 a).2.1 ≠ (TX5 b).2.1 := by decide +kernel
theorem tyX5_ok : ∀ k, k < 2 → parseFieldDescriptor (TX5 k).2.2.1 = some (tyX5 k) := by decide +kernel
abbrev cX5_init : ByteArray := prog_7_method_1_code
def yX5_init : MethodName := ⟨RX5, "<init>", "()V"⟩
abbrev cX5_size : ByteArray := prog_7_method_2_code
def yX5_size : MethodName := ⟨RX5, "size", "()I"⟩
abbrev cX5_get : ByteArray := prog_7_method_3_code
def yX5_get : MethodName := ⟨RX5, "get", "(I)C"⟩
abbrev cX5_append : ByteArray := prog_7_method_4_code
def yX5_append : MethodName := ⟨RX5, "append", "(C)Z"⟩
abbrev cX5_insert : ByteArray := prog_7_method_5_code
def yX5_insert : MethodName := ⟨RX5, "insert", "(IC)Z"⟩
abbrev cX5_shorten : ByteArray := prog_7_method_6_code
def yX5_shorten : MethodName := ⟨RX5, "shorten", "(I)V"⟩
abbrev cX5_countOf : ByteArray := prog_7_method_7_code
def yX5_countOf : MethodName := ⟨RX5, "countOf", "(C)I"⟩
abbrev cX5_hasFrom : ByteArray := prog_7_method_8_code
def yX5_hasFrom : MethodName := ⟨RX5, "hasFrom", "(IC)Z"⟩
abbrev cX5_isTwice : ByteArray := prog_7_method_9_code
def yX5_isTwice : MethodName := ⟨RX5, "isTwice", "(II)Z"⟩
def RX6 : String := "RoleParts"
def TX6 : u_T := fun k => match k with
  | 0 => ("RoleParts", "typed", "LRoleParts$Text;", true)
  | 1 => ("RoleParts", "grammar", "LRoleParts$Grammar;", true)
  | 2 => ("RoleParts", "soundness", "LRoleParts$Soundness;", true)
  | 3 => ("RoleParts", "players", "[LRoleParts$Player;", true)
  | 4 => ("RoleParts", "writers", "[LRoleParts$PartWriter;", true)
  | 5 => ("RoleParts", "rows", "[LRoleParts$Row;", true)
  | 6 => ("RoleParts", "messageCount", "I", false)
  | 7 => ("RoleParts", "hasRun", "Z", false)
  | _ => ("RoleParts", "moveCount", "I", false)
def tyX6 : Nat → FieldType := fun k => match k with
  | 0 => .object "RoleParts$Text"
  | 1 => .object "RoleParts$Grammar"
  | 2 => .object "RoleParts$Soundness"
  | 3 => .array (.object "RoleParts$Player")
  | 4 => .array (.object "RoleParts$PartWriter")
  | 5 => .array (.object "RoleParts$Row")
  | 6 => .int
  | 7 => .boolean
  | _ => .int
abbrev wsX60 : List Cond := u_ws RX6 TX6 9
theorem nmX6 : ∀ a, a < 9 → ∀ b, b < 9 → a ≠ b → (TX6 a).2.1 ≠ (TX6 b).2.1 := by decide +kernel
theorem tyX6_ok : ∀ k, k < 9 → parseFieldDescriptor (TX6 k).2.2.1 = some (tyX6 k) := by decide +kernel
abbrev cX6_init : ByteArray := prog_1_method_1_code
def yX6_init : MethodName := ⟨RX6, "<init>", "()V"⟩
abbrev cX6_type : ByteArray := prog_1_method_2_code
def yX6_type : MethodName := ⟨RX6, "type", "(C)Z"⟩
abbrev cX6_define : ByteArray := prog_1_method_3_code
def yX6_define : MethodName := ⟨RX6, "define", "()I"⟩
abbrev cX6_messages : ByteArray := prog_1_method_4_code
def yX6_messages : MethodName := ⟨RX6, "messages", "()I"⟩
abbrev cX6_length : ByteArray := prog_1_method_5_code
def yX6_length : MethodName := ⟨RX6, "length", "(I)I"⟩
abbrev cX6_charAt : ByteArray := prog_1_method_6_code
def yX6_charAt : MethodName := ⟨RX6, "charAt", "(II)I"⟩
abbrev cX6_begin : ByteArray := prog_1_method_7_code
def yX6_begin : MethodName := ⟨RX6, "begin", "()Z"⟩
abbrev cX6_act : ByteArray := prog_1_method_8_code
def yX6_act : MethodName := ⟨RX6, "act", "(I)I"⟩
abbrev cX6_partner : ByteArray := prog_1_method_9_code
def yX6_partner : MethodName := ⟨RX6, "partner", "(I)I"⟩
abbrev cX6_offers : ByteArray := prog_1_method_10_code
def yX6_offers : MethodName := ⟨RX6, "offers", "(II)Z"⟩
abbrev cX6_send : ByteArray := prog_1_method_11_code
def yX6_send : MethodName := ⟨RX6, "send", "(II)Z"⟩
abbrev cX6_receive : ByteArray := prog_1_method_12_code
def yX6_receive : MethodName := ⟨RX6, "receive", "(I)I"⟩
abbrev cX6_onTheWay : ByteArray := prog_1_method_13_code
def yX6_onTheWay : MethodName := ⟨RX6, "onTheWay", "(II)I"⟩
abbrev cX6_labelAt : ByteArray := prog_1_method_14_code
def yX6_labelAt : MethodName := ⟨RX6, "labelAt", "(III)I"⟩
abbrev cX6_moves : ByteArray := prog_1_method_15_code
def yX6_moves : MethodName := ⟨RX6, "moves", "()I"⟩
abbrev cX6_ready : ByteArray := prog_1_method_16_code
def yX6_ready : MethodName := ⟨RX6, "ready", "()I"⟩
abbrev cX6_over : ByteArray := prog_1_method_17_code
def yX6_over : MethodName := ⟨RX6, "over", "()Z"⟩
abbrev cX6_judgeTyped : ByteArray := prog_1_method_18_code
def yX6_judgeTyped : MethodName := ⟨RX6, "judgeTyped", "()I"⟩
abbrev cX6_adoptTyped : ByteArray := prog_1_method_19_code
def yX6_adoptTyped : MethodName := ⟨RX6, "adoptTyped", "()V"⟩
abbrev cX6_hasPart : ByteArray := prog_1_method_20_code
def yX6_hasPart : MethodName := ⟨RX6, "hasPart", "(I)Z"⟩
abbrev cX6_playing : ByteArray := prog_1_method_21_code
def yX6_playing : MethodName := ⟨RX6, "playing", "(I)LRoleParts$Player;"⟩
abbrev cX6_rowBetween : ByteArray := prog_1_method_22_code
def yX6_rowBetween : MethodName := ⟨RX6, "rowBetween", "(II)LRoleParts$Row;"⟩
abbrev cX6_canGoOn : ByteArray := prog_1_method_23_code
def yX6_canGoOn : MethodName := ⟨RX6, "canGoOn", "(I)Z"⟩
abbrev cX6_allEnded : ByteArray := prog_1_method_24_code
def yX6_allEnded : MethodName := ⟨RX6, "allEnded", "()Z"⟩
abbrev cX6_nothingOnTheWay : ByteArray := prog_1_method_25_code
def yX6_nothingOnTheWay : MethodName := ⟨RX6, "nothingOnTheWay", "()Z"⟩
abbrev cX6_isRoleNumber : ByteArray := prog_1_method_26_code
def yX6_isRoleNumber : MethodName := ⟨RX6, "isRoleNumber", "(I)Z"⟩
abbrev cX6_isRole : ByteArray := prog_1_method_27_code
def yX6_isRole : MethodName := ⟨RX6, "isRole", "(C)Z"⟩
abbrev cX6_isLabel : ByteArray := prog_1_method_28_code
def yX6_isLabel : MethodName := ⟨RX6, "isLabel", "(C)Z"⟩
abbrev cX6_isVariable : ByteArray := prog_1_method_29_code
def yX6_isVariable : MethodName := ⟨RX6, "isVariable", "(C)Z"⟩
def RX7 : String := "RolePartsModel"
def TX7 : u_T := fun k => match k with
  | 0 => ("RolePartsModel", "length", "I", false)
  | 1 => ("RolePartsModel", "text", "[C", true)
  | 2 => ("RolePartsModel", "pieces", "I", false)
  | 3 => ("RolePartsModel", "what", "[I", true)
  | 4 => ("RolePartsModel", "first", "[I", true)
  | 5 => ("RolePartsModel", "second", "[I", true)
  | 6 => ("RolePartsModel", "around", "[I", true)
  | 7 => ("RolePartsModel", "label", "[I", true)
  | 8 => ("RolePartsModel", "parts", "[C", true)
  | 9 => ("RolePartsModel", "size", "[I", true)
  | 10 => ("RolePartsModel", "there", "Z", false)
  | 11 => ("RolePartsModel", "messages", "I", false)
  | 12 => ("RolePartsModel", "part", "[C", true)
  | 13 => ("RolePartsModel", "long1", "[I", true)
  | 14 => ("RolePartsModel", "runs", "Z", false)
  | 15 => ("RolePartsModel", "at", "[I", true)
  | 16 => ("RolePartsModel", "way", "[I", true)
  | 17 => ("RolePartsModel", "many", "[I", true)
  | _ => ("RolePartsModel", "moved", "I", false)
def tyX7 : Nat → FieldType := fun k => match k with
  | 0 => .int
  | 1 => .array .char
  | 2 => .int
  | 3 => .array .int
  | 4 => .array .int
  | 5 => .array .int
  | 6 => .array .int
  | 7 => .array .int
  | 8 => .array .char
  | 9 => .array .int
  | 10 => .boolean
  | 11 => .int
  | 12 => .array .char
  | 13 => .array .int
  | 14 => .boolean
  | 15 => .array .int
  | 16 => .array .int
  | 17 => .array .int
  | _ => .int
abbrev wsX70 : List Cond := u_ws RX7 TX7 19
theorem nmX7 : ∀ a, a < 19 → ∀ b, b < 19 → a ≠ b → (TX7 a).2.1 ≠ (TX7 b).2.1 := by decide +kernel
theorem tyX7_ok : ∀ k, k < 19 → parseFieldDescriptor (TX7 k).2.2.1 = some (tyX7 k) := by decide +kernel
abbrev cX7_init : ByteArray := prog_9_method_1_code
def yX7_init : MethodName := ⟨RX7, "<init>", "()V"⟩
abbrev cX7_type : ByteArray := prog_9_method_2_code
def yX7_type : MethodName := ⟨RX7, "type", "(C)Z"⟩
abbrev cX7_isVariable : ByteArray := prog_9_method_3_code
def yX7_isVariable : MethodName := ⟨RX7, "isVariable", "(I)Z"⟩
abbrev cX7_isRole : ByteArray := prog_9_method_4_code
def yX7_isRole : MethodName := ⟨RX7, "isRole", "(I)Z"⟩
abbrev cX7_isLabel : ByteArray := prog_9_method_5_code
def yX7_isLabel : MethodName := ⟨RX7, "isLabel", "(I)Z"⟩
abbrev cX7_piece : ByteArray := prog_9_method_6_code
def yX7_piece : MethodName := ⟨RX7, "piece", "(IIIII)I"⟩
abbrev cX7_ended : ByteArray := prog_9_method_7_code
def yX7_ended : MethodName := ⟨RX7, "ended", "(I)I"⟩
abbrev cX7_afterStart : ByteArray := prog_9_method_8_code
def yX7_afterStart : MethodName := ⟨RX7, "afterStart", "(I)I"⟩
abbrev cX7_read : ByteArray := prog_9_method_9_code
def yX7_read : MethodName := ⟨RX7, "read", "()I"⟩
abbrev cX7_bound : ByteArray := prog_9_method_10_code
def yX7_bound : MethodName := ⟨RX7, "bound", "(I)Z"⟩
abbrev cX7_single : ByteArray := prog_9_method_11_code
def yX7_single : MethodName := ⟨RX7, "single", "(I)Z"⟩
abbrev cX7_apart : ByteArray := prog_9_method_12_code
def yX7_apart : MethodName := ⟨RX7, "apart", "(I)Z"⟩
abbrev cX7_sound : ByteArray := prog_9_method_13_code
def yX7_sound : MethodName := ⟨RX7, "sound", "()Z"⟩
abbrev cX7_put : ByteArray := prog_9_method_14_code
def yX7_put : MethodName := ⟨RX7, "put", "(II)V"⟩
abbrev cX7_copy : ByteArray := prog_9_method_15_code
def yX7_copy : MethodName := ⟨RX7, "copy", "(II)V"⟩
abbrev cX7_same : ByteArray := prog_9_method_16_code
def yX7_same : MethodName := ⟨RX7, "same", "(II)Z"⟩
abbrev cX7_loopPart : ByteArray := prog_9_method_17_code
def yX7_loopPart : MethodName := ⟨RX7, "loopPart", "(II)V"⟩
abbrev cX7_messagePart : ByteArray := prog_9_method_18_code
def yX7_messagePart : MethodName := ⟨RX7, "messagePart", "(II)V"⟩
abbrev cX7_project : ByteArray := prog_9_method_19_code
def yX7_project : MethodName := ⟨RX7, "project", "()V"⟩
abbrev cX7_define : ByteArray := prog_9_method_20_code
def yX7_define : MethodName := ⟨RX7, "define", "()I"⟩
abbrev cX7_isNumber : ByteArray := prog_9_method_21_code
def yX7_isNumber : MethodName := ⟨RX7, "isNumber", "(I)Z"⟩
abbrev cX7_messages : ByteArray := prog_9_method_22_code
def yX7_messages : MethodName := ⟨RX7, "messages", "()I"⟩
abbrev cX7_length : ByteArray := prog_9_method_23_code
def yX7_length : MethodName := ⟨RX7, "length", "(I)I"⟩
abbrev cX7_charAt : ByteArray := prog_9_method_24_code
def yX7_charAt : MethodName := ⟨RX7, "charAt", "(II)I"⟩
abbrev cX7_sign : ByteArray := prog_9_method_25_code
def yX7_sign : MethodName := ⟨RX7, "sign", "(II)I"⟩
abbrev cX7_loopOf : ByteArray := prog_9_method_26_code
def yX7_loopOf : MethodName := ⟨RX7, "loopOf", "(III)I"⟩
abbrev cX7_settle : ByteArray := prog_9_method_27_code
def yX7_settle : MethodName := ⟨RX7, "settle", "(II)V"⟩
abbrev cX7_begin : ByteArray := prog_9_method_28_code
def yX7_begin : MethodName := ⟨RX7, "begin", "()Z"⟩
abbrev cX7_act : ByteArray := prog_9_method_29_code
def yX7_act : MethodName := ⟨RX7, "act", "(I)I"⟩
abbrev cX7_partner : ByteArray := prog_9_method_30_code
def yX7_partner : MethodName := ⟨RX7, "partner", "(I)I"⟩
abbrev cX7_branchOf : ByteArray := prog_9_method_31_code
def yX7_branchOf : MethodName := ⟨RX7, "branchOf", "(II)I"⟩
abbrev cX7_offers : ByteArray := prog_9_method_32_code
def yX7_offers : MethodName := ⟨RX7, "offers", "(II)Z"⟩
abbrev cX7_send : ByteArray := prog_9_method_33_code
def yX7_send : MethodName := ⟨RX7, "send", "(II)Z"⟩
abbrev cX7_receive : ByteArray := prog_9_method_34_code
def yX7_receive : MethodName := ⟨RX7, "receive", "(I)I"⟩
abbrev cX7_onTheWay : ByteArray := prog_9_method_35_code
def yX7_onTheWay : MethodName := ⟨RX7, "onTheWay", "(II)I"⟩
abbrev cX7_labelAt : ByteArray := prog_9_method_36_code
def yX7_labelAt : MethodName := ⟨RX7, "labelAt", "(III)I"⟩
abbrev cX7_moves : ByteArray := prog_9_method_37_code
def yX7_moves : MethodName := ⟨RX7, "moves", "()I"⟩
abbrev cX7_canGo : ByteArray := prog_9_method_38_code
def yX7_canGo : MethodName := ⟨RX7, "canGo", "(I)Z"⟩
abbrev cX7_ready : ByteArray := prog_9_method_39_code
def yX7_ready : MethodName := ⟨RX7, "ready", "()I"⟩
abbrev cX7_over : ByteArray := prog_9_method_40_code
def yX7_over : MethodName := ⟨RX7, "over", "()Z"⟩
def RL : String := "RolePartsLaw"
abbrev cL_law : ByteArray := code
def yL_law : MethodName := ⟨RL, "law", "([I)Z"⟩
abbrev vwCl : List vw_C := [(RX0, TX0, 2), (RX1, TX1, 4), (RX2, TX2, 3), (RX3, TX3, 2), (RX4, TX4, 4), (RX5, TX5, 2), (RX6, TX6, 9), (RX7, TX7, 19)]
end
section
theorem dX0_init_0 : decode cX0_init 0 = .ok (.aload_n 0, 1) := by decide +kernel
theorem dX0_init_1 : decode cX0_init 1 = .ok (.invokespecial 3, 3) := by decide +kernel
theorem dX0_init_4 : decode cX0_init 4 = .ok (.aload_n 0, 1) := by decide +kernel
theorem dX0_init_5 : decode cX0_init 5 = .ok (.iconst 0, 1) := by decide +kernel
theorem dX0_init_6 : decode cX0_init 6 = .ok (.putfield 11, 3) := by decide +kernel
theorem dX0_init_9 : decode cX0_init 9 = .ok (.aload_n 0, 1) := by decide +kernel
theorem dX0_init_10 : decode cX0_init 10 = .ok (.iconst 0, 1) := by decide +kernel
theorem dX0_init_11 : decode cX0_init 11 = .ok (.putfield 15, 3) := by decide +kernel
theorem dX0_init_14 : decode cX0_init 14 = .ok (.return_, 1) := by decide +kernel
theorem dX0_faultOf_0 : decode cX0_faultOf 0 = .ok (.aload_n 0, 1) := by decide +kernel
theorem dX0_faultOf_1 : decode cX0_faultOf 1 = .ok (.iconst 0, 1) := by decide +kernel
theorem dX0_faultOf_2 : decode cX0_faultOf 2 = .ok (.putfield 11, 3) := by decide +kernel
theorem dX0_faultOf_5 : decode cX0_faultOf 5 = .ok (.aload_n 0, 1) := by decide +kernel
theorem dX0_faultOf_6 : decode cX0_faultOf 6 = .ok (.iconst 0, 1) := by decide +kernel
theorem dX0_faultOf_7 : decode cX0_faultOf 7 = .ok (.putfield 15, 3) := by decide +kernel
theorem dX0_faultOf_10 : decode cX0_faultOf 10 = .ok (.iconst 0, 1) := by decide +kernel
theorem dX0_faultOf_11 : decode cX0_faultOf 11 = .ok (.istore_n 2, 1) := by decide +kernel
theorem dX0_faultOf_12 : decode cX0_faultOf 12 = .ok (.iload_n 2, 1) := by decide +kernel
theorem dX0_faultOf_13 : decode cX0_faultOf 13 = .ok (.aload_n 1, 1) := by decide +kernel
theorem dX0_faultOf_14 : decode cX0_faultOf 14 = .ok (.invokevirtual 18, 3) := by decide +kernel
theorem dX0_faultOf_17 : decode cX0_faultOf 17 = .ok (.if_icmp .ge 33, 3) := by decide +kernel
theorem dX0_faultOf_20 : decode cX0_faultOf 20 = .ok (.aload_n 0, 1) := by decide +kernel
theorem dX0_faultOf_21 : decode cX0_faultOf 21 = .ok (.aload_n 0, 1) := by decide +kernel
theorem dX0_faultOf_22 : decode cX0_faultOf 22 = .ok (.aload_n 1, 1) := by decide +kernel
theorem dX0_faultOf_23 : decode cX0_faultOf 23 = .ok (.iload_n 2, 1) := by decide +kernel
theorem dX0_faultOf_24 : decode cX0_faultOf 24 = .ok (.invokevirtual 24, 3) := by decide +kernel
theorem dX0_faultOf_27 : decode cX0_faultOf 27 = .ok (.invokevirtual 28, 3) := by decide +kernel
theorem dX0_faultOf_30 : decode cX0_faultOf 30 = .ok (.putfield 11, 3) := by decide +kernel
theorem dX0_faultOf_33 : decode cX0_faultOf 33 = .ok (.aload_n 0, 1) := by decide +kernel
theorem dX0_faultOf_34 : decode cX0_faultOf 34 = .ok (.getfield 11, 3) := by decide +kernel
theorem dX0_faultOf_37 : decode cX0_faultOf 37 = .ok (.bipush 7, 2) := by decide +kernel
theorem dX0_faultOf_39 : decode cX0_faultOf 39 = .ok (.if_icmp .ne 5, 3) := by decide +kernel
theorem dX0_faultOf_42 : decode cX0_faultOf 42 = .ok (.iload_n 2, 1) := by decide +kernel
theorem dX0_faultOf_43 : decode cX0_faultOf 43 = .ok (.ireturn, 1) := by decide +kernel
theorem dX0_faultOf_44 : decode cX0_faultOf 44 = .ok (.iinc 2 1, 3) := by decide +kernel
theorem dX0_faultOf_47 : decode cX0_faultOf 47 = .ok (.goto (-35), 3) := by decide +kernel
theorem dX0_faultOf_50 : decode cX0_faultOf 50 = .ok (.aload_n 0, 1) := by decide +kernel
theorem dX0_faultOf_51 : decode cX0_faultOf 51 = .ok (.getfield 11, 3) := by decide +kernel
theorem dX0_faultOf_54 : decode cX0_faultOf 54 = .ok (.bipush 6, 2) := by decide +kernel
theorem dX0_faultOf_56 : decode cX0_faultOf 56 = .ok (.if_icmp .ne 14, 3) := by decide +kernel
theorem dX0_faultOf_59 : decode cX0_faultOf 59 = .ok (.aload_n 0, 1) := by decide +kernel
theorem dX0_faultOf_60 : decode cX0_faultOf 60 = .ok (.getfield 15, 3) := by decide +kernel
theorem dX0_faultOf_63 : decode cX0_faultOf 63 = .ok (.ifCond .ne 7, 3) := by decide +kernel
theorem dX0_faultOf_66 : decode cX0_faultOf 66 = .ok (.iconst (-1), 1) := by decide +kernel
theorem dX0_faultOf_67 : decode cX0_faultOf 67 = .ok (.goto 7, 3) := by decide +kernel
theorem dX0_faultOf_70 : decode cX0_faultOf 70 = .ok (.aload_n 1, 1) := by decide +kernel
theorem dX0_faultOf_71 : decode cX0_faultOf 71 = .ok (.invokevirtual 18, 3) := by decide +kernel
theorem dX0_faultOf_74 : decode cX0_faultOf 74 = .ok (.ireturn, 1) := by decide +kernel
theorem dX0_next_0 : decode cX0_next 0 = .ok (.aload_n 0, 1) := by decide +kernel
theorem dX0_next_1 : decode cX0_next 1 = .ok (.getfield 11, 3) := by decide +kernel
theorem dX0_next_4 : decode cX0_next 4 = .ok (.tableswitch 107 0 5 #[40, 46, 60, 74, 80, 94], 40) := by decide +kernel
theorem dX0_next_44 : decode cX0_next 44 = .ok (.aload_n 0, 1) := by decide +kernel
theorem dX0_next_45 : decode cX0_next 45 = .ok (.iload_n 1, 1) := by decide +kernel
theorem dX0_next_46 : decode cX0_next 46 = .ok (.invokevirtual 32, 3) := by decide +kernel
theorem dX0_next_49 : decode cX0_next 49 = .ok (.ireturn, 1) := by decide +kernel
theorem dX0_next_50 : decode cX0_next 50 = .ok (.iload_n 1, 1) := by decide +kernel
theorem dX0_next_51 : decode cX0_next 51 = .ok (.invokestatic 35, 3) := by decide +kernel
theorem dX0_next_54 : decode cX0_next 54 = .ok (.ifCond .eq 7, 3) := by decide +kernel
theorem dX0_next_57 : decode cX0_next 57 = .ok (.iconst 5, 1) := by decide +kernel
theorem dX0_next_58 : decode cX0_next 58 = .ok (.goto 5, 3) := by decide +kernel
theorem dX0_next_61 : decode cX0_next 61 = .ok (.bipush 7, 2) := by decide +kernel
theorem dX0_next_63 : decode cX0_next 63 = .ok (.ireturn, 1) := by decide +kernel
theorem dX0_next_64 : decode cX0_next 64 = .ok (.iload_n 1, 1) := by decide +kernel
theorem dX0_next_65 : decode cX0_next 65 = .ok (.invokestatic 39, 3) := by decide +kernel
theorem dX0_next_68 : decode cX0_next 68 = .ok (.ifCond .eq 7, 3) := by decide +kernel
theorem dX0_next_71 : decode cX0_next 71 = .ok (.iconst 3, 1) := by decide +kernel
theorem dX0_next_72 : decode cX0_next 72 = .ok (.goto 5, 3) := by decide +kernel
theorem dX0_next_75 : decode cX0_next 75 = .ok (.bipush 7, 2) := by decide +kernel
theorem dX0_next_77 : decode cX0_next 77 = .ok (.ireturn, 1) := by decide +kernel
theorem dX0_next_78 : decode cX0_next 78 = .ok (.aload_n 0, 1) := by decide +kernel
theorem dX0_next_79 : decode cX0_next 79 = .ok (.iload_n 1, 1) := by decide +kernel
theorem dX0_next_80 : decode cX0_next 80 = .ok (.invokevirtual 42, 3) := by decide +kernel
theorem dX0_next_83 : decode cX0_next 83 = .ok (.ireturn, 1) := by decide +kernel
theorem dX0_next_84 : decode cX0_next 84 = .ok (.iload_n 1, 1) := by decide +kernel
theorem dX0_next_85 : decode cX0_next 85 = .ok (.invokestatic 45, 3) := by decide +kernel
theorem dX0_next_88 : decode cX0_next 88 = .ok (.ifCond .eq 7, 3) := by decide +kernel
theorem dX0_next_91 : decode cX0_next 91 = .ok (.iconst 5, 1) := by decide +kernel
theorem dX0_next_92 : decode cX0_next 92 = .ok (.goto 5, 3) := by decide +kernel
theorem dX0_next_95 : decode cX0_next 95 = .ok (.bipush 7, 2) := by decide +kernel
theorem dX0_next_97 : decode cX0_next 97 = .ok (.ireturn, 1) := by decide +kernel
theorem dX0_next_98 : decode cX0_next 98 = .ok (.iload_n 1, 1) := by decide +kernel
theorem dX0_next_99 : decode cX0_next 99 = .ok (.bipush 46, 2) := by decide +kernel
theorem dX0_next_101 : decode cX0_next 101 = .ok (.if_icmp .ne 7, 3) := by decide +kernel
theorem dX0_next_104 : decode cX0_next 104 = .ok (.iconst 0, 1) := by decide +kernel
theorem dX0_next_105 : decode cX0_next 105 = .ok (.goto 5, 3) := by decide +kernel
theorem dX0_next_108 : decode cX0_next 108 = .ok (.bipush 7, 2) := by decide +kernel
theorem dX0_next_110 : decode cX0_next 110 = .ok (.ireturn, 1) := by decide +kernel
theorem dX0_next_111 : decode cX0_next 111 = .ok (.aload_n 0, 1) := by decide +kernel
theorem dX0_next_112 : decode cX0_next 112 = .ok (.iload_n 1, 1) := by decide +kernel
theorem dX0_next_113 : decode cX0_next 113 = .ok (.invokevirtual 48, 3) := by decide +kernel
theorem dX0_next_116 : decode cX0_next 116 = .ok (.ireturn, 1) := by decide +kernel
theorem dX0_nextInProtocol_0 : decode cX0_nextInProtocol 0 = .ok (.iload_n 1, 1) := by decide +kernel
theorem dX0_nextInProtocol_1 : decode cX0_nextInProtocol 1 = .ok (.bipush 101, 2) := by decide +kernel
theorem dX0_nextInProtocol_3 : decode cX0_nextInProtocol 3 = .ok (.if_icmp .eq 10, 3) := by decide +kernel
theorem dX0_nextInProtocol_6 : decode cX0_nextInProtocol 6 = .ok (.iload_n 1, 1) := by decide +kernel
theorem dX0_nextInProtocol_7 : decode cX0_nextInProtocol 7 = .ok (.invokestatic 35, 3) := by decide +kernel
theorem dX0_nextInProtocol_10 : decode cX0_nextInProtocol 10 = .ok (.ifCond .eq 6, 3) := by decide +kernel
theorem dX0_nextInProtocol_13 : decode cX0_nextInProtocol 13 = .ok (.bipush 6, 2) := by decide +kernel
theorem dX0_nextInProtocol_15 : decode cX0_nextInProtocol 15 = .ok (.ireturn, 1) := by decide +kernel
theorem dX0_nextInProtocol_16 : decode cX0_nextInProtocol 16 = .ok (.iload_n 1, 1) := by decide +kernel
theorem dX0_nextInProtocol_17 : decode cX0_nextInProtocol 17 = .ok (.bipush 109, 2) := by decide +kernel
theorem dX0_nextInProtocol_19 : decode cX0_nextInProtocol 19 = .ok (.if_icmp .ne 5, 3) := by decide +kernel
theorem dX0_nextInProtocol_22 : decode cX0_nextInProtocol 22 = .ok (.iconst 1, 1) := by decide +kernel
theorem dX0_nextInProtocol_23 : decode cX0_nextInProtocol 23 = .ok (.ireturn, 1) := by decide +kernel
theorem dX0_nextInProtocol_24 : decode cX0_nextInProtocol 24 = .ok (.iload_n 1, 1) := by decide +kernel
theorem dX0_nextInProtocol_25 : decode cX0_nextInProtocol 25 = .ok (.invokestatic 39, 3) := by decide +kernel
theorem dX0_nextInProtocol_28 : decode cX0_nextInProtocol 28 = .ok (.ifCond .eq 7, 3) := by decide +kernel
theorem dX0_nextInProtocol_31 : decode cX0_nextInProtocol 31 = .ok (.iconst 2, 1) := by decide +kernel
theorem dX0_nextInProtocol_32 : decode cX0_nextInProtocol 32 = .ok (.goto 5, 3) := by decide +kernel
theorem dX0_nextInProtocol_35 : decode cX0_nextInProtocol 35 = .ok (.bipush 7, 2) := by decide +kernel
theorem dX0_nextInProtocol_37 : decode cX0_nextInProtocol 37 = .ok (.ireturn, 1) := by decide +kernel
theorem dX0_nextAtBrace_0 : decode cX0_nextAtBrace 0 = .ok (.iload_n 1, 1) := by decide +kernel
theorem dX0_nextAtBrace_1 : decode cX0_nextAtBrace 1 = .ok (.bipush 123, 2) := by decide +kernel
theorem dX0_nextAtBrace_3 : decode cX0_nextAtBrace 3 = .ok (.if_icmp .eq 6, 3) := by decide +kernel
theorem dX0_nextAtBrace_6 : decode cX0_nextAtBrace 6 = .ok (.bipush 7, 2) := by decide +kernel
theorem dX0_nextAtBrace_8 : decode cX0_nextAtBrace 8 = .ok (.ireturn, 1) := by decide +kernel
theorem dX0_nextAtBrace_9 : decode cX0_nextAtBrace 9 = .ok (.aload_n 0, 1) := by decide +kernel
theorem dX0_nextAtBrace_10 : decode cX0_nextAtBrace 10 = .ok (.dup, 1) := by decide +kernel
theorem dX0_nextAtBrace_11 : decode cX0_nextAtBrace 11 = .ok (.getfield 15, 3) := by decide +kernel
theorem dX0_nextAtBrace_14 : decode cX0_nextAtBrace 14 = .ok (.iconst 1, 1) := by decide +kernel
theorem dX0_nextAtBrace_15 : decode cX0_nextAtBrace 15 = .ok (.iadd, 1) := by decide +kernel
theorem dX0_nextAtBrace_16 : decode cX0_nextAtBrace 16 = .ok (.putfield 15, 3) := by decide +kernel
theorem dX0_nextAtBrace_19 : decode cX0_nextAtBrace 19 = .ok (.iconst 4, 1) := by decide +kernel
theorem dX0_nextAtBrace_20 : decode cX0_nextAtBrace 20 = .ok (.ireturn, 1) := by decide +kernel
theorem dX0_nextAfterProtocol_0 : decode cX0_nextAfterProtocol 0 = .ok (.aload_n 0, 1) := by decide +kernel
theorem dX0_nextAfterProtocol_1 : decode cX0_nextAfterProtocol 1 = .ok (.getfield 15, 3) := by decide +kernel
theorem dX0_nextAfterProtocol_4 : decode cX0_nextAfterProtocol 4 = .ok (.ifCond .ne 6, 3) := by decide +kernel
theorem dX0_nextAfterProtocol_7 : decode cX0_nextAfterProtocol 7 = .ok (.bipush 7, 2) := by decide +kernel
theorem dX0_nextAfterProtocol_9 : decode cX0_nextAfterProtocol 9 = .ok (.ireturn, 1) := by decide +kernel
theorem dX0_nextAfterProtocol_10 : decode cX0_nextAfterProtocol 10 = .ok (.iload_n 1, 1) := by decide +kernel
theorem dX0_nextAfterProtocol_11 : decode cX0_nextAfterProtocol 11 = .ok (.bipush 44, 2) := by decide +kernel
theorem dX0_nextAfterProtocol_13 : decode cX0_nextAfterProtocol 13 = .ok (.if_icmp .ne 5, 3) := by decide +kernel
theorem dX0_nextAfterProtocol_16 : decode cX0_nextAfterProtocol 16 = .ok (.iconst 4, 1) := by decide +kernel
theorem dX0_nextAfterProtocol_17 : decode cX0_nextAfterProtocol 17 = .ok (.ireturn, 1) := by decide +kernel
theorem dX0_nextAfterProtocol_18 : decode cX0_nextAfterProtocol 18 = .ok (.iload_n 1, 1) := by decide +kernel
theorem dX0_nextAfterProtocol_19 : decode cX0_nextAfterProtocol 19 = .ok (.bipush 125, 2) := by decide +kernel
theorem dX0_nextAfterProtocol_21 : decode cX0_nextAfterProtocol 21 = .ok (.if_icmp .eq 6, 3) := by decide +kernel
theorem dX0_nextAfterProtocol_24 : decode cX0_nextAfterProtocol 24 = .ok (.bipush 7, 2) := by decide +kernel
theorem dX0_nextAfterProtocol_26 : decode cX0_nextAfterProtocol 26 = .ok (.ireturn, 1) := by decide +kernel
theorem dX0_nextAfterProtocol_27 : decode cX0_nextAfterProtocol 27 = .ok (.aload_n 0, 1) := by decide +kernel
theorem dX0_nextAfterProtocol_28 : decode cX0_nextAfterProtocol 28 = .ok (.dup, 1) := by decide +kernel
theorem dX0_nextAfterProtocol_29 : decode cX0_nextAfterProtocol 29 = .ok (.getfield 15, 3) := by decide +kernel
theorem dX0_nextAfterProtocol_32 : decode cX0_nextAfterProtocol 32 = .ok (.iconst 1, 1) := by decide +kernel
theorem dX0_nextAfterProtocol_33 : decode cX0_nextAfterProtocol 33 = .ok (.isub, 1) := by decide +kernel
theorem dX0_nextAfterProtocol_34 : decode cX0_nextAfterProtocol 34 = .ok (.putfield 15, 3) := by decide +kernel
theorem dX0_nextAfterProtocol_37 : decode cX0_nextAfterProtocol 37 = .ok (.bipush 6, 2) := by decide +kernel
theorem dX0_nextAfterProtocol_39 : decode cX0_nextAfterProtocol 39 = .ok (.ireturn, 1) := by decide +kernel
theorem dX1_init_0 : decode cX1_init 0 = .ok (.aload_n 0, 1) := by decide +kernel
theorem dX1_init_1 : decode cX1_init 1 = .ok (.invokespecial 3, 3) := by decide +kernel
theorem dX1_init_4 : decode cX1_init 4 = .ok (.aload_n 0, 1) := by decide +kernel
theorem dX1_init_5 : decode cX1_init 5 = .ok (.iconst 0, 1) := by decide +kernel
theorem dX1_init_6 : decode cX1_init 6 = .ok (.putfield 9, 3) := by decide +kernel
theorem dX1_init_9 : decode cX1_init 9 = .ok (.aload_n 0, 1) := by decide +kernel
theorem dX1_init_10 : decode cX1_init 10 = .ok (.aload_n 1, 1) := by decide +kernel
theorem dX1_init_11 : decode cX1_init 11 = .ok (.putfield 15, 3) := by decide +kernel
theorem dX1_init_14 : decode cX1_init 14 = .ok (.aload_n 0, 1) := by decide +kernel
theorem dX1_init_15 : decode cX1_init 15 = .ok (.iload_n 2, 1) := by decide +kernel
theorem dX1_init_16 : decode cX1_init 16 = .ok (.putfield 19, 3) := by decide +kernel
theorem dX1_init_19 : decode cX1_init 19 = .ok (.aload_n 0, 1) := by decide +kernel
theorem dX1_init_20 : decode cX1_init 20 = .ok (.aload_n 3, 1) := by decide +kernel
theorem dX1_init_21 : decode cX1_init 21 = .ok (.putfield 23, 3) := by decide +kernel
theorem dX1_init_24 : decode cX1_init 24 = .ok (.return_, 1) := by decide +kernel
theorem dX1_writePart_0 : decode cX1_writePart 0 = .ok (.aload_n 0, 1) := by decide +kernel
theorem dX1_writePart_1 : decode cX1_writePart 1 = .ok (.iconst 0, 1) := by decide +kernel
theorem dX1_writePart_2 : decode cX1_writePart 2 = .ok (.putfield 9, 3) := by decide +kernel
theorem dX1_writePart_5 : decode cX1_writePart 5 = .ok (.aload_n 0, 1) := by decide +kernel
theorem dX1_writePart_6 : decode cX1_writePart 6 = .ok (.getfield 23, 3) := by decide +kernel
theorem dX1_writePart_9 : decode cX1_writePart 9 = .ok (.iconst 0, 1) := by decide +kernel
theorem dX1_writePart_10 : decode cX1_writePart 10 = .ok (.invokevirtual 26, 3) := by decide +kernel
theorem dX1_writePart_13 : decode cX1_writePart 13 = .ok (.aload_n 0, 1) := by decide +kernel
theorem dX1_writePart_14 : decode cX1_writePart 14 = .ok (.iconst 0, 1) := by decide +kernel
theorem dX1_writePart_15 : decode cX1_writePart 15 = .ok (.invokevirtual 32, 3) := by decide +kernel
theorem dX1_writePart_18 : decode cX1_writePart 18 = .ok (.ireturn, 1) := by decide +kernel
theorem dX1_writeProtocol_0 : decode cX1_writeProtocol 0 = .ok (.iload_n 1, 1) := by decide +kernel
theorem dX1_writeProtocol_1 : decode cX1_writeProtocol 1 = .ok (.bipush 40, 2) := by decide +kernel
theorem dX1_writeProtocol_3 : decode cX1_writeProtocol 3 = .ok (.if_icmp .le 5, 3) := by decide +kernel
theorem dX1_writeProtocol_6 : decode cX1_writeProtocol 6 = .ok (.iconst 0, 1) := by decide +kernel
theorem dX1_writeProtocol_7 : decode cX1_writeProtocol 7 = .ok (.ireturn, 1) := by decide +kernel
theorem dX1_writeProtocol_8 : decode cX1_writeProtocol 8 = .ok (.aload_n 0, 1) := by decide +kernel
theorem dX1_writeProtocol_9 : decode cX1_writeProtocol 9 = .ok (.getfield 15, 3) := by decide +kernel
theorem dX1_writeProtocol_12 : decode cX1_writeProtocol 12 = .ok (.aload_n 0, 1) := by decide +kernel
theorem dX1_writeProtocol_13 : decode cX1_writeProtocol 13 = .ok (.getfield 9, 3) := by decide +kernel
theorem dX1_writeProtocol_16 : decode cX1_writeProtocol 16 = .ok (.invokevirtual 36, 3) := by decide +kernel
theorem dX1_writeProtocol_19 : decode cX1_writeProtocol 19 = .ok (.istore_n 2, 1) := by decide +kernel
theorem dX1_writeProtocol_20 : decode cX1_writeProtocol 20 = .ok (.iload_n 2, 1) := by decide +kernel
theorem dX1_writeProtocol_21 : decode cX1_writeProtocol 21 = .ok (.bipush 109, 2) := by decide +kernel
theorem dX1_writeProtocol_23 : decode cX1_writeProtocol 23 = .ok (.if_icmp .ne 9, 3) := by decide +kernel
theorem dX1_writeProtocol_26 : decode cX1_writeProtocol 26 = .ok (.aload_n 0, 1) := by decide +kernel
theorem dX1_writeProtocol_27 : decode cX1_writeProtocol 27 = .ok (.iload_n 1, 1) := by decide +kernel
theorem dX1_writeProtocol_28 : decode cX1_writeProtocol 28 = .ok (.invokevirtual 40, 3) := by decide +kernel
theorem dX1_writeProtocol_31 : decode cX1_writeProtocol 31 = .ok (.ireturn, 1) := by decide +kernel
theorem dX1_writeProtocol_32 : decode cX1_writeProtocol 32 = .ok (.iload_n 2, 1) := by decide +kernel
theorem dX1_writeProtocol_33 : decode cX1_writeProtocol 33 = .ok (.invokestatic 43, 3) := by decide +kernel
theorem dX1_writeProtocol_36 : decode cX1_writeProtocol 36 = .ok (.ifCond .eq 9, 3) := by decide +kernel
theorem dX1_writeProtocol_39 : decode cX1_writeProtocol 39 = .ok (.aload_n 0, 1) := by decide +kernel
theorem dX1_writeProtocol_40 : decode cX1_writeProtocol 40 = .ok (.iload_n 1, 1) := by decide +kernel
theorem dX1_writeProtocol_41 : decode cX1_writeProtocol 41 = .ok (.invokevirtual 47, 3) := by decide +kernel
theorem dX1_writeProtocol_44 : decode cX1_writeProtocol 44 = .ok (.ireturn, 1) := by decide +kernel
theorem dX1_writeProtocol_45 : decode cX1_writeProtocol 45 = .ok (.aload_n 0, 1) := by decide +kernel
theorem dX1_writeProtocol_46 : decode cX1_writeProtocol 46 = .ok (.dup, 1) := by decide +kernel
theorem dX1_writeProtocol_47 : decode cX1_writeProtocol 47 = .ok (.getfield 9, 3) := by decide +kernel
theorem dX1_writeProtocol_50 : decode cX1_writeProtocol 50 = .ok (.iconst 1, 1) := by decide +kernel
theorem dX1_writeProtocol_51 : decode cX1_writeProtocol 51 = .ok (.iadd, 1) := by decide +kernel
theorem dX1_writeProtocol_52 : decode cX1_writeProtocol 52 = .ok (.putfield 9, 3) := by decide +kernel
theorem dX1_writeProtocol_55 : decode cX1_writeProtocol 55 = .ok (.aload_n 0, 1) := by decide +kernel
theorem dX1_writeProtocol_56 : decode cX1_writeProtocol 56 = .ok (.getfield 23, 3) := by decide +kernel
theorem dX1_writeProtocol_59 : decode cX1_writeProtocol 59 = .ok (.iload_n 2, 1) := by decide +kernel
theorem dX1_writeProtocol_60 : decode cX1_writeProtocol 60 = .ok (.invokevirtual 50, 3) := by decide +kernel
theorem dX1_writeProtocol_63 : decode cX1_writeProtocol 63 = .ok (.ireturn, 1) := by decide +kernel
theorem dX1_writeLoop_0 : decode cX1_writeLoop 0 = .ok (.aload_n 0, 1) := by decide +kernel
theorem dX1_writeLoop_1 : decode cX1_writeLoop 1 = .ok (.getfield 15, 3) := by decide +kernel
theorem dX1_writeLoop_4 : decode cX1_writeLoop 4 = .ok (.aload_n 0, 1) := by decide +kernel
theorem dX1_writeLoop_5 : decode cX1_writeLoop 5 = .ok (.getfield 9, 3) := by decide +kernel
theorem dX1_writeLoop_8 : decode cX1_writeLoop 8 = .ok (.iconst 1, 1) := by decide +kernel
theorem dX1_writeLoop_9 : decode cX1_writeLoop 9 = .ok (.iadd, 1) := by decide +kernel
theorem dX1_writeLoop_10 : decode cX1_writeLoop 10 = .ok (.invokevirtual 36, 3) := by decide +kernel
theorem dX1_writeLoop_13 : decode cX1_writeLoop 13 = .ok (.istore_n 2, 1) := by decide +kernel
theorem dX1_writeLoop_14 : decode cX1_writeLoop 14 = .ok (.aload_n 0, 1) := by decide +kernel
theorem dX1_writeLoop_15 : decode cX1_writeLoop 15 = .ok (.getfield 23, 3) := by decide +kernel
theorem dX1_writeLoop_18 : decode cX1_writeLoop 18 = .ok (.invokevirtual 53, 3) := by decide +kernel
theorem dX1_writeLoop_21 : decode cX1_writeLoop 21 = .ok (.istore_n 3, 1) := by decide +kernel
theorem dX1_writeLoop_22 : decode cX1_writeLoop 22 = .ok (.aload_n 0, 1) := by decide +kernel
theorem dX1_writeLoop_23 : decode cX1_writeLoop 23 = .ok (.dup, 1) := by decide +kernel
theorem dX1_writeLoop_24 : decode cX1_writeLoop 24 = .ok (.getfield 9, 3) := by decide +kernel
theorem dX1_writeLoop_27 : decode cX1_writeLoop 27 = .ok (.iconst 3, 1) := by decide +kernel
theorem dX1_writeLoop_28 : decode cX1_writeLoop 28 = .ok (.iadd, 1) := by decide +kernel
theorem dX1_writeLoop_29 : decode cX1_writeLoop 29 = .ok (.putfield 9, 3) := by decide +kernel
theorem dX1_writeLoop_32 : decode cX1_writeLoop 32 = .ok (.aload_n 0, 1) := by decide +kernel
theorem dX1_writeLoop_33 : decode cX1_writeLoop 33 = .ok (.iload_n 1, 1) := by decide +kernel
theorem dX1_writeLoop_34 : decode cX1_writeLoop 34 = .ok (.iconst 1, 1) := by decide +kernel
theorem dX1_writeLoop_35 : decode cX1_writeLoop 35 = .ok (.iadd, 1) := by decide +kernel
theorem dX1_writeLoop_36 : decode cX1_writeLoop 36 = .ok (.invokevirtual 32, 3) := by decide +kernel
theorem dX1_writeLoop_39 : decode cX1_writeLoop 39 = .ok (.ifCond .eq 16, 3) := by decide +kernel
theorem dX1_writeLoop_42 : decode cX1_writeLoop 42 = .ok (.aload_n 0, 1) := by decide +kernel
theorem dX1_writeLoop_43 : decode cX1_writeLoop 43 = .ok (.iload_n 3, 1) := by decide +kernel
theorem dX1_writeLoop_44 : decode cX1_writeLoop 44 = .ok (.iload_n 2, 1) := by decide +kernel
theorem dX1_writeLoop_45 : decode cX1_writeLoop 45 = .ok (.invokevirtual 57, 3) := by decide +kernel
theorem dX1_writeLoop_48 : decode cX1_writeLoop 48 = .ok (.ifCond .eq 7, 3) := by decide +kernel
theorem dX1_writeLoop_51 : decode cX1_writeLoop 51 = .ok (.iconst 1, 1) := by decide +kernel
theorem dX1_writeLoop_52 : decode cX1_writeLoop 52 = .ok (.goto 4, 3) := by decide +kernel
theorem dX1_writeLoop_55 : decode cX1_writeLoop 55 = .ok (.iconst 0, 1) := by decide +kernel
theorem dX1_writeLoop_56 : decode cX1_writeLoop 56 = .ok (.ireturn, 1) := by decide +kernel
theorem dX1_closeLoop_0 : decode cX1_closeLoop 0 = .ok (.aload_n 0, 1) := by decide +kernel
theorem dX1_closeLoop_1 : decode cX1_closeLoop 1 = .ok (.getfield 23, 3) := by decide +kernel
theorem dX1_closeLoop_4 : decode cX1_closeLoop 4 = .ok (.invokevirtual 53, 3) := by decide +kernel
theorem dX1_closeLoop_7 : decode cX1_closeLoop 7 = .ok (.iload_n 1, 1) := by decide +kernel
theorem dX1_closeLoop_8 : decode cX1_closeLoop 8 = .ok (.iconst 1, 1) := by decide +kernel
theorem dX1_closeLoop_9 : decode cX1_closeLoop 9 = .ok (.iadd, 1) := by decide +kernel
theorem dX1_closeLoop_10 : decode cX1_closeLoop 10 = .ok (.if_icmp .ne 33, 3) := by decide +kernel
theorem dX1_closeLoop_13 : decode cX1_closeLoop 13 = .ok (.aload_n 0, 1) := by decide +kernel
theorem dX1_closeLoop_14 : decode cX1_closeLoop 14 = .ok (.getfield 23, 3) := by decide +kernel
theorem dX1_closeLoop_17 : decode cX1_closeLoop 17 = .ok (.iload_n 1, 1) := by decide +kernel
theorem dX1_closeLoop_18 : decode cX1_closeLoop 18 = .ok (.invokevirtual 36, 3) := by decide +kernel
theorem dX1_closeLoop_21 : decode cX1_closeLoop 21 = .ok (.iload_n 2, 1) := by decide +kernel
theorem dX1_closeLoop_22 : decode cX1_closeLoop 22 = .ok (.if_icmp .ne 21, 3) := by decide +kernel
theorem dX1_closeLoop_25 : decode cX1_closeLoop 25 = .ok (.aload_n 0, 1) := by decide +kernel
theorem dX1_closeLoop_26 : decode cX1_closeLoop 26 = .ok (.getfield 23, 3) := by decide +kernel
theorem dX1_closeLoop_29 : decode cX1_closeLoop 29 = .ok (.iload_n 1, 1) := by decide +kernel
theorem dX1_closeLoop_30 : decode cX1_closeLoop 30 = .ok (.invokevirtual 26, 3) := by decide +kernel
theorem dX1_closeLoop_33 : decode cX1_closeLoop 33 = .ok (.aload_n 0, 1) := by decide +kernel
theorem dX1_closeLoop_34 : decode cX1_closeLoop 34 = .ok (.getfield 23, 3) := by decide +kernel
theorem dX1_closeLoop_37 : decode cX1_closeLoop 37 = .ok (.bipush 101, 2) := by decide +kernel
theorem dX1_closeLoop_39 : decode cX1_closeLoop 39 = .ok (.invokevirtual 50, 3) := by decide +kernel
theorem dX1_closeLoop_42 : decode cX1_closeLoop 42 = .ok (.ireturn, 1) := by decide +kernel
theorem dX1_closeLoop_43 : decode cX1_closeLoop 43 = .ok (.aload_n 0, 1) := by decide +kernel
theorem dX1_closeLoop_44 : decode cX1_closeLoop 44 = .ok (.getfield 23, 3) := by decide +kernel
theorem dX1_closeLoop_47 : decode cX1_closeLoop 47 = .ok (.iload_n 1, 1) := by decide +kernel
theorem dX1_closeLoop_48 : decode cX1_closeLoop 48 = .ok (.iload_n 2, 1) := by decide +kernel
theorem dX1_closeLoop_49 : decode cX1_closeLoop 49 = .ok (.invokevirtual 61, 3) := by decide +kernel
theorem dX1_closeLoop_52 : decode cX1_closeLoop 52 = .ok (.ifCond .ne 5, 3) := by decide +kernel
theorem dX1_closeLoop_55 : decode cX1_closeLoop 55 = .ok (.iconst 1, 1) := by decide +kernel
theorem dX1_closeLoop_56 : decode cX1_closeLoop 56 = .ok (.ireturn, 1) := by decide +kernel
theorem dX1_closeLoop_57 : decode cX1_closeLoop 57 = .ok (.aload_n 0, 1) := by decide +kernel
theorem dX1_closeLoop_58 : decode cX1_closeLoop 58 = .ok (.getfield 23, 3) := by decide +kernel
theorem dX1_closeLoop_61 : decode cX1_closeLoop 61 = .ok (.iload_n 1, 1) := by decide +kernel
theorem dX1_closeLoop_62 : decode cX1_closeLoop 62 = .ok (.bipush 46, 2) := by decide +kernel
theorem dX1_closeLoop_64 : decode cX1_closeLoop 64 = .ok (.invokevirtual 64, 3) := by decide +kernel
theorem dX1_closeLoop_67 : decode cX1_closeLoop 67 = .ok (.ifCond .eq 32, 3) := by decide +kernel
theorem dX1_closeLoop_70 : decode cX1_closeLoop 70 = .ok (.aload_n 0, 1) := by decide +kernel
theorem dX1_closeLoop_71 : decode cX1_closeLoop 71 = .ok (.getfield 23, 3) := by decide +kernel
theorem dX1_closeLoop_74 : decode cX1_closeLoop 74 = .ok (.iload_n 1, 1) := by decide +kernel
theorem dX1_closeLoop_75 : decode cX1_closeLoop 75 = .ok (.iload_n 2, 1) := by decide +kernel
theorem dX1_closeLoop_76 : decode cX1_closeLoop 76 = .ok (.invokevirtual 64, 3) := by decide +kernel
theorem dX1_closeLoop_79 : decode cX1_closeLoop 79 = .ok (.ifCond .eq 20, 3) := by decide +kernel
theorem dX1_closeLoop_82 : decode cX1_closeLoop 82 = .ok (.aload_n 0, 1) := by decide +kernel
theorem dX1_closeLoop_83 : decode cX1_closeLoop 83 = .ok (.getfield 23, 3) := by decide +kernel
theorem dX1_closeLoop_86 : decode cX1_closeLoop 86 = .ok (.iload_n 1, 1) := by decide +kernel
theorem dX1_closeLoop_87 : decode cX1_closeLoop 87 = .ok (.bipush 109, 2) := by decide +kernel
theorem dX1_closeLoop_89 : decode cX1_closeLoop 89 = .ok (.invokevirtual 64, 3) := by decide +kernel
theorem dX1_closeLoop_92 : decode cX1_closeLoop 92 = .ok (.ifCond .eq 7, 3) := by decide +kernel
theorem dX1_closeLoop_95 : decode cX1_closeLoop 95 = .ok (.iconst 1, 1) := by decide +kernel
theorem dX1_closeLoop_96 : decode cX1_closeLoop 96 = .ok (.goto 4, 3) := by decide +kernel
theorem dX1_closeLoop_99 : decode cX1_closeLoop 99 = .ok (.iconst 0, 1) := by decide +kernel
theorem dX1_closeLoop_100 : decode cX1_closeLoop 100 = .ok (.ireturn, 1) := by decide +kernel
theorem dX1_writeMessage_0 : decode cX1_writeMessage 0 = .ok (.aload_n 0, 1) := by decide +kernel
theorem dX1_writeMessage_1 : decode cX1_writeMessage 1 = .ok (.getfield 15, 3) := by decide +kernel
theorem dX1_writeMessage_4 : decode cX1_writeMessage 4 = .ok (.aload_n 0, 1) := by decide +kernel
theorem dX1_writeMessage_5 : decode cX1_writeMessage 5 = .ok (.getfield 9, 3) := by decide +kernel
theorem dX1_writeMessage_8 : decode cX1_writeMessage 8 = .ok (.invokevirtual 36, 3) := by decide +kernel
theorem dX1_writeMessage_11 : decode cX1_writeMessage 11 = .ok (.istore_n 2, 1) := by decide +kernel
theorem dX1_writeMessage_12 : decode cX1_writeMessage 12 = .ok (.aload_n 0, 1) := by decide +kernel
theorem dX1_writeMessage_13 : decode cX1_writeMessage 13 = .ok (.getfield 15, 3) := by decide +kernel
theorem dX1_writeMessage_16 : decode cX1_writeMessage 16 = .ok (.aload_n 0, 1) := by decide +kernel
theorem dX1_writeMessage_17 : decode cX1_writeMessage 17 = .ok (.getfield 9, 3) := by decide +kernel
theorem dX1_writeMessage_20 : decode cX1_writeMessage 20 = .ok (.iconst 1, 1) := by decide +kernel
theorem dX1_writeMessage_21 : decode cX1_writeMessage 21 = .ok (.iadd, 1) := by decide +kernel
theorem dX1_writeMessage_22 : decode cX1_writeMessage 22 = .ok (.invokevirtual 36, 3) := by decide +kernel
theorem dX1_writeMessage_25 : decode cX1_writeMessage 25 = .ok (.istore_n 3, 1) := by decide +kernel
theorem dX1_writeMessage_26 : decode cX1_writeMessage 26 = .ok (.aload_n 0, 1) := by decide +kernel
theorem dX1_writeMessage_27 : decode cX1_writeMessage 27 = .ok (.dup, 1) := by decide +kernel
theorem dX1_writeMessage_28 : decode cX1_writeMessage 28 = .ok (.getfield 9, 3) := by decide +kernel
theorem dX1_writeMessage_31 : decode cX1_writeMessage 31 = .ok (.iconst 2, 1) := by decide +kernel
theorem dX1_writeMessage_32 : decode cX1_writeMessage 32 = .ok (.iadd, 1) := by decide +kernel
theorem dX1_writeMessage_33 : decode cX1_writeMessage 33 = .ok (.putfield 9, 3) := by decide +kernel
theorem dX1_writeMessage_36 : decode cX1_writeMessage 36 = .ok (.aload_n 0, 1) := by decide +kernel
theorem dX1_writeMessage_37 : decode cX1_writeMessage 37 = .ok (.getfield 19, 3) := by decide +kernel
theorem dX1_writeMessage_40 : decode cX1_writeMessage 40 = .ok (.iload_n 2, 1) := by decide +kernel
theorem dX1_writeMessage_41 : decode cX1_writeMessage 41 = .ok (.if_icmp .ne 40, 3) := by decide +kernel
theorem dX1_writeMessage_44 : decode cX1_writeMessage 44 = .ok (.aload_n 0, 1) := by decide +kernel
theorem dX1_writeMessage_45 : decode cX1_writeMessage 45 = .ok (.getfield 23, 3) := by decide +kernel
theorem dX1_writeMessage_48 : decode cX1_writeMessage 48 = .ok (.iload_n 3, 1) := by decide +kernel
theorem dX1_writeMessage_49 : decode cX1_writeMessage 49 = .ok (.invokevirtual 50, 3) := by decide +kernel
theorem dX1_writeMessage_52 : decode cX1_writeMessage 52 = .ok (.ifCond .eq 27, 3) := by decide +kernel
theorem dX1_writeMessage_55 : decode cX1_writeMessage 55 = .ok (.aload_n 0, 1) := by decide +kernel
theorem dX1_writeMessage_56 : decode cX1_writeMessage 56 = .ok (.getfield 23, 3) := by decide +kernel
theorem dX1_writeMessage_59 : decode cX1_writeMessage 59 = .ok (.bipush 33, 2) := by decide +kernel
theorem dX1_writeMessage_61 : decode cX1_writeMessage 61 = .ok (.invokevirtual 50, 3) := by decide +kernel
theorem dX1_writeMessage_64 : decode cX1_writeMessage 64 = .ok (.ifCond .eq 15, 3) := by decide +kernel
theorem dX1_writeMessage_67 : decode cX1_writeMessage 67 = .ok (.aload_n 0, 1) := by decide +kernel
theorem dX1_writeMessage_68 : decode cX1_writeMessage 68 = .ok (.iload_n 1, 1) := by decide +kernel
theorem dX1_writeMessage_69 : decode cX1_writeMessage 69 = .ok (.invokevirtual 67, 3) := by decide +kernel
theorem dX1_writeMessage_72 : decode cX1_writeMessage 72 = .ok (.ifCond .eq 7, 3) := by decide +kernel
theorem dX1_writeMessage_75 : decode cX1_writeMessage 75 = .ok (.iconst 1, 1) := by decide +kernel
theorem dX1_writeMessage_76 : decode cX1_writeMessage 76 = .ok (.goto 4, 3) := by decide +kernel
theorem dX1_writeMessage_79 : decode cX1_writeMessage 79 = .ok (.iconst 0, 1) := by decide +kernel
theorem dX1_writeMessage_80 : decode cX1_writeMessage 80 = .ok (.ireturn, 1) := by decide +kernel
theorem dX1_writeMessage_81 : decode cX1_writeMessage 81 = .ok (.aload_n 0, 1) := by decide +kernel
theorem dX1_writeMessage_82 : decode cX1_writeMessage 82 = .ok (.getfield 19, 3) := by decide +kernel
theorem dX1_writeMessage_85 : decode cX1_writeMessage 85 = .ok (.iload_n 3, 1) := by decide +kernel
theorem dX1_writeMessage_86 : decode cX1_writeMessage 86 = .ok (.if_icmp .ne 40, 3) := by decide +kernel
theorem dX1_writeMessage_89 : decode cX1_writeMessage 89 = .ok (.aload_n 0, 1) := by decide +kernel
theorem dX1_writeMessage_90 : decode cX1_writeMessage 90 = .ok (.getfield 23, 3) := by decide +kernel
theorem dX1_writeMessage_93 : decode cX1_writeMessage 93 = .ok (.iload_n 2, 1) := by decide +kernel
theorem dX1_writeMessage_94 : decode cX1_writeMessage 94 = .ok (.invokevirtual 50, 3) := by decide +kernel
theorem dX1_writeMessage_97 : decode cX1_writeMessage 97 = .ok (.ifCond .eq 27, 3) := by decide +kernel
theorem dX1_writeMessage_100 : decode cX1_writeMessage 100 = .ok (.aload_n 0, 1) := by decide +kernel
theorem dX1_writeMessage_101 : decode cX1_writeMessage 101 = .ok (.getfield 23, 3) := by decide +kernel
theorem dX1_writeMessage_104 : decode cX1_writeMessage 104 = .ok (.bipush 63, 2) := by decide +kernel
theorem dX1_writeMessage_106 : decode cX1_writeMessage 106 = .ok (.invokevirtual 50, 3) := by decide +kernel
theorem dX1_writeMessage_109 : decode cX1_writeMessage 109 = .ok (.ifCond .eq 15, 3) := by decide +kernel
theorem dX1_writeMessage_112 : decode cX1_writeMessage 112 = .ok (.aload_n 0, 1) := by decide +kernel
theorem dX1_writeMessage_113 : decode cX1_writeMessage 113 = .ok (.iload_n 1, 1) := by decide +kernel
theorem dX1_writeMessage_114 : decode cX1_writeMessage 114 = .ok (.invokevirtual 67, 3) := by decide +kernel
theorem dX1_writeMessage_117 : decode cX1_writeMessage 117 = .ok (.ifCond .eq 7, 3) := by decide +kernel
theorem dX1_writeMessage_120 : decode cX1_writeMessage 120 = .ok (.iconst 1, 1) := by decide +kernel
theorem dX1_writeMessage_121 : decode cX1_writeMessage 121 = .ok (.goto 4, 3) := by decide +kernel
theorem dX1_writeMessage_124 : decode cX1_writeMessage 124 = .ok (.iconst 0, 1) := by decide +kernel
theorem dX1_writeMessage_125 : decode cX1_writeMessage 125 = .ok (.ireturn, 1) := by decide +kernel
theorem dX1_writeMessage_126 : decode cX1_writeMessage 126 = .ok (.aload_n 0, 1) := by decide +kernel
theorem dX1_writeMessage_127 : decode cX1_writeMessage 127 = .ok (.iload_n 1, 1) := by decide +kernel
theorem dX1_writeMessage_128 : decode cX1_writeMessage 128 = .ok (.invokevirtual 70, 3) := by decide +kernel
theorem dX1_writeMessage_131 : decode cX1_writeMessage 131 = .ok (.ireturn, 1) := by decide +kernel
theorem dX1_writeOwnBranches_0 : decode cX1_writeOwnBranches 0 = .ok (.iconst 0, 1) := by decide +kernel
theorem dX1_writeOwnBranches_1 : decode cX1_writeOwnBranches 1 = .ok (.istore_n 2, 1) := by decide +kernel
theorem dX1_writeOwnBranches_2 : decode cX1_writeOwnBranches 2 = .ok (.iload_n 2, 1) := by decide +kernel
theorem dX1_writeOwnBranches_3 : decode cX1_writeOwnBranches 3 = .ok (.bipush 60, 2) := by decide +kernel
theorem dX1_writeOwnBranches_5 : decode cX1_writeOwnBranches 5 = .ok (.if_icmp .ge 81, 3) := by decide +kernel
theorem dX1_writeOwnBranches_8 : decode cX1_writeOwnBranches 8 = .ok (.aload_n 0, 1) := by decide +kernel
theorem dX1_writeOwnBranches_9 : decode cX1_writeOwnBranches 9 = .ok (.getfield 15, 3) := by decide +kernel
theorem dX1_writeOwnBranches_12 : decode cX1_writeOwnBranches 12 = .ok (.aload_n 0, 1) := by decide +kernel
theorem dX1_writeOwnBranches_13 : decode cX1_writeOwnBranches 13 = .ok (.getfield 9, 3) := by decide +kernel
theorem dX1_writeOwnBranches_16 : decode cX1_writeOwnBranches 16 = .ok (.invokevirtual 36, 3) := by decide +kernel
theorem dX1_writeOwnBranches_19 : decode cX1_writeOwnBranches 19 = .ok (.bipush 125, 2) := by decide +kernel
theorem dX1_writeOwnBranches_21 : decode cX1_writeOwnBranches 21 = .ok (.if_icmp .eq 65, 3) := by decide +kernel
theorem dX1_writeOwnBranches_24 : decode cX1_writeOwnBranches 24 = .ok (.iconst 0, 1) := by decide +kernel
theorem dX1_writeOwnBranches_25 : decode cX1_writeOwnBranches 25 = .ok (.istore_n 3, 1) := by decide +kernel
theorem dX1_writeOwnBranches_26 : decode cX1_writeOwnBranches 26 = .ok (.iload_n 3, 1) := by decide +kernel
theorem dX1_writeOwnBranches_27 : decode cX1_writeOwnBranches 27 = .ok (.iconst 3, 1) := by decide +kernel
theorem dX1_writeOwnBranches_28 : decode cX1_writeOwnBranches 28 = .ok (.if_icmp .ge 30, 3) := by decide +kernel
theorem dX1_writeOwnBranches_31 : decode cX1_writeOwnBranches 31 = .ok (.aload_n 0, 1) := by decide +kernel
theorem dX1_writeOwnBranches_32 : decode cX1_writeOwnBranches 32 = .ok (.getfield 23, 3) := by decide +kernel
theorem dX1_writeOwnBranches_35 : decode cX1_writeOwnBranches 35 = .ok (.aload_n 0, 1) := by decide +kernel
theorem dX1_writeOwnBranches_36 : decode cX1_writeOwnBranches 36 = .ok (.getfield 15, 3) := by decide +kernel
theorem dX1_writeOwnBranches_39 : decode cX1_writeOwnBranches 39 = .ok (.aload_n 0, 1) := by decide +kernel
theorem dX1_writeOwnBranches_40 : decode cX1_writeOwnBranches 40 = .ok (.getfield 9, 3) := by decide +kernel
theorem dX1_writeOwnBranches_43 : decode cX1_writeOwnBranches 43 = .ok (.iload_n 3, 1) := by decide +kernel
theorem dX1_writeOwnBranches_44 : decode cX1_writeOwnBranches 44 = .ok (.iadd, 1) := by decide +kernel
theorem dX1_writeOwnBranches_45 : decode cX1_writeOwnBranches 45 = .ok (.invokevirtual 36, 3) := by decide +kernel
theorem dX1_writeOwnBranches_48 : decode cX1_writeOwnBranches 48 = .ok (.invokevirtual 50, 3) := by decide +kernel
theorem dX1_writeOwnBranches_51 : decode cX1_writeOwnBranches 51 = .ok (.pop, 1) := by decide +kernel
theorem dX1_writeOwnBranches_52 : decode cX1_writeOwnBranches 52 = .ok (.iinc 3 1, 3) := by decide +kernel
theorem dX1_writeOwnBranches_55 : decode cX1_writeOwnBranches 55 = .ok (.goto (-29), 3) := by decide +kernel
theorem dX1_writeOwnBranches_58 : decode cX1_writeOwnBranches 58 = .ok (.aload_n 0, 1) := by decide +kernel
theorem dX1_writeOwnBranches_59 : decode cX1_writeOwnBranches 59 = .ok (.dup, 1) := by decide +kernel
theorem dX1_writeOwnBranches_60 : decode cX1_writeOwnBranches 60 = .ok (.getfield 9, 3) := by decide +kernel
theorem dX1_writeOwnBranches_63 : decode cX1_writeOwnBranches 63 = .ok (.iconst 3, 1) := by decide +kernel
theorem dX1_writeOwnBranches_64 : decode cX1_writeOwnBranches 64 = .ok (.iadd, 1) := by decide +kernel
theorem dX1_writeOwnBranches_65 : decode cX1_writeOwnBranches 65 = .ok (.putfield 9, 3) := by decide +kernel
theorem dX1_writeOwnBranches_68 : decode cX1_writeOwnBranches 68 = .ok (.aload_n 0, 1) := by decide +kernel
theorem dX1_writeOwnBranches_69 : decode cX1_writeOwnBranches 69 = .ok (.iload_n 1, 1) := by decide +kernel
theorem dX1_writeOwnBranches_70 : decode cX1_writeOwnBranches 70 = .ok (.iconst 1, 1) := by decide +kernel
theorem dX1_writeOwnBranches_71 : decode cX1_writeOwnBranches 71 = .ok (.iadd, 1) := by decide +kernel
theorem dX1_writeOwnBranches_72 : decode cX1_writeOwnBranches 72 = .ok (.invokevirtual 32, 3) := by decide +kernel
theorem dX1_writeOwnBranches_75 : decode cX1_writeOwnBranches 75 = .ok (.ifCond .ne 5, 3) := by decide +kernel
theorem dX1_writeOwnBranches_78 : decode cX1_writeOwnBranches 78 = .ok (.iconst 0, 1) := by decide +kernel
theorem dX1_writeOwnBranches_79 : decode cX1_writeOwnBranches 79 = .ok (.ireturn, 1) := by decide +kernel
theorem dX1_writeOwnBranches_80 : decode cX1_writeOwnBranches 80 = .ok (.iinc 2 1, 3) := by decide +kernel
theorem dX1_writeOwnBranches_83 : decode cX1_writeOwnBranches 83 = .ok (.goto (-81), 3) := by decide +kernel
theorem dX1_writeOwnBranches_86 : decode cX1_writeOwnBranches 86 = .ok (.aload_n 0, 1) := by decide +kernel
theorem dX1_writeOwnBranches_87 : decode cX1_writeOwnBranches 87 = .ok (.dup, 1) := by decide +kernel
theorem dX1_writeOwnBranches_88 : decode cX1_writeOwnBranches 88 = .ok (.getfield 9, 3) := by decide +kernel
theorem dX1_writeOwnBranches_91 : decode cX1_writeOwnBranches 91 = .ok (.iconst 1, 1) := by decide +kernel
theorem dX1_writeOwnBranches_92 : decode cX1_writeOwnBranches 92 = .ok (.iadd, 1) := by decide +kernel
theorem dX1_writeOwnBranches_93 : decode cX1_writeOwnBranches 93 = .ok (.putfield 9, 3) := by decide +kernel
theorem dX1_writeOwnBranches_96 : decode cX1_writeOwnBranches 96 = .ok (.aload_n 0, 1) := by decide +kernel
theorem dX1_writeOwnBranches_97 : decode cX1_writeOwnBranches 97 = .ok (.getfield 23, 3) := by decide +kernel
theorem dX1_writeOwnBranches_100 : decode cX1_writeOwnBranches 100 = .ok (.bipush 125, 2) := by decide +kernel
theorem dX1_writeOwnBranches_102 : decode cX1_writeOwnBranches 102 = .ok (.invokevirtual 50, 3) := by decide +kernel
theorem dX1_writeOwnBranches_105 : decode cX1_writeOwnBranches 105 = .ok (.ireturn, 1) := by decide +kernel
theorem dX1_writeCommonPart_0 : decode cX1_writeCommonPart 0 = .ok (.aload_n 0, 1) := by decide +kernel
theorem dX1_writeCommonPart_1 : decode cX1_writeCommonPart 1 = .ok (.getfield 23, 3) := by decide +kernel
theorem dX1_writeCommonPart_4 : decode cX1_writeCommonPart 4 = .ok (.invokevirtual 53, 3) := by decide +kernel
theorem dX1_writeCommonPart_7 : decode cX1_writeCommonPart 7 = .ok (.istore_n 2, 1) := by decide +kernel
theorem dX1_writeCommonPart_8 : decode cX1_writeCommonPart 8 = .ok (.iload_n 2, 1) := by decide +kernel
theorem dX1_writeCommonPart_9 : decode cX1_writeCommonPart 9 = .ok (.istore_n 3, 1) := by decide +kernel
theorem dX1_writeCommonPart_10 : decode cX1_writeCommonPart 10 = .ok (.iconst 0, 1) := by decide +kernel
theorem dX1_writeCommonPart_11 : decode cX1_writeCommonPart 11 = .ok (.istore 4, 2) := by decide +kernel
theorem dX1_writeCommonPart_13 : decode cX1_writeCommonPart 13 = .ok (.iload 4, 2) := by decide +kernel
theorem dX1_writeCommonPart_15 : decode cX1_writeCommonPart 15 = .ok (.bipush 60, 2) := by decide +kernel
theorem dX1_writeCommonPart_17 : decode cX1_writeCommonPart 17 = .ok (.if_icmp .ge 85, 3) := by decide +kernel
theorem dX1_writeCommonPart_20 : decode cX1_writeCommonPart 20 = .ok (.aload_n 0, 1) := by decide +kernel
theorem dX1_writeCommonPart_21 : decode cX1_writeCommonPart 21 = .ok (.getfield 15, 3) := by decide +kernel
theorem dX1_writeCommonPart_24 : decode cX1_writeCommonPart 24 = .ok (.aload_n 0, 1) := by decide +kernel
theorem dX1_writeCommonPart_25 : decode cX1_writeCommonPart 25 = .ok (.getfield 9, 3) := by decide +kernel
theorem dX1_writeCommonPart_28 : decode cX1_writeCommonPart 28 = .ok (.invokevirtual 36, 3) := by decide +kernel
theorem dX1_writeCommonPart_31 : decode cX1_writeCommonPart 31 = .ok (.bipush 125, 2) := by decide +kernel
theorem dX1_writeCommonPart_33 : decode cX1_writeCommonPart 33 = .ok (.if_icmp .eq 69, 3) := by decide +kernel
theorem dX1_writeCommonPart_36 : decode cX1_writeCommonPart 36 = .ok (.aload_n 0, 1) := by decide +kernel
theorem dX1_writeCommonPart_37 : decode cX1_writeCommonPart 37 = .ok (.dup, 1) := by decide +kernel
theorem dX1_writeCommonPart_38 : decode cX1_writeCommonPart 38 = .ok (.getfield 9, 3) := by decide +kernel
theorem dX1_writeCommonPart_41 : decode cX1_writeCommonPart 41 = .ok (.iconst 3, 1) := by decide +kernel
theorem dX1_writeCommonPart_42 : decode cX1_writeCommonPart 42 = .ok (.iadd, 1) := by decide +kernel
theorem dX1_writeCommonPart_43 : decode cX1_writeCommonPart 43 = .ok (.putfield 9, 3) := by decide +kernel
theorem dX1_writeCommonPart_46 : decode cX1_writeCommonPart 46 = .ok (.aload_n 0, 1) := by decide +kernel
theorem dX1_writeCommonPart_47 : decode cX1_writeCommonPart 47 = .ok (.iload_n 1, 1) := by decide +kernel
theorem dX1_writeCommonPart_48 : decode cX1_writeCommonPart 48 = .ok (.iconst 1, 1) := by decide +kernel
theorem dX1_writeCommonPart_49 : decode cX1_writeCommonPart 49 = .ok (.iadd, 1) := by decide +kernel
theorem dX1_writeCommonPart_50 : decode cX1_writeCommonPart 50 = .ok (.invokevirtual 32, 3) := by decide +kernel
theorem dX1_writeCommonPart_53 : decode cX1_writeCommonPart 53 = .ok (.ifCond .ne 5, 3) := by decide +kernel
theorem dX1_writeCommonPart_56 : decode cX1_writeCommonPart 56 = .ok (.iconst 0, 1) := by decide +kernel
theorem dX1_writeCommonPart_57 : decode cX1_writeCommonPart 57 = .ok (.ireturn, 1) := by decide +kernel
theorem dX1_writeCommonPart_58 : decode cX1_writeCommonPart 58 = .ok (.iload 4, 2) := by decide +kernel
theorem dX1_writeCommonPart_60 : decode cX1_writeCommonPart 60 = .ok (.ifCond .ne 14, 3) := by decide +kernel
theorem dX1_writeCommonPart_63 : decode cX1_writeCommonPart 63 = .ok (.aload_n 0, 1) := by decide +kernel
theorem dX1_writeCommonPart_64 : decode cX1_writeCommonPart 64 = .ok (.getfield 23, 3) := by decide +kernel
theorem dX1_writeCommonPart_67 : decode cX1_writeCommonPart 67 = .ok (.invokevirtual 53, 3) := by decide +kernel
theorem dX1_writeCommonPart_70 : decode cX1_writeCommonPart 70 = .ok (.istore_n 3, 1) := by decide +kernel
theorem dX1_writeCommonPart_71 : decode cX1_writeCommonPart 71 = .ok (.goto 17, 3) := by decide +kernel
theorem dX1_writeCommonPart_74 : decode cX1_writeCommonPart 74 = .ok (.aload_n 0, 1) := by decide +kernel
theorem dX1_writeCommonPart_75 : decode cX1_writeCommonPart 75 = .ok (.getfield 23, 3) := by decide +kernel
theorem dX1_writeCommonPart_78 : decode cX1_writeCommonPart 78 = .ok (.iload_n 2, 1) := by decide +kernel
theorem dX1_writeCommonPart_79 : decode cX1_writeCommonPart 79 = .ok (.iload_n 3, 1) := by decide +kernel
theorem dX1_writeCommonPart_80 : decode cX1_writeCommonPart 80 = .ok (.invokevirtual 73, 3) := by decide +kernel
theorem dX1_writeCommonPart_83 : decode cX1_writeCommonPart 83 = .ok (.ifCond .ne 5, 3) := by decide +kernel
theorem dX1_writeCommonPart_86 : decode cX1_writeCommonPart 86 = .ok (.iconst 0, 1) := by decide +kernel
theorem dX1_writeCommonPart_87 : decode cX1_writeCommonPart 87 = .ok (.ireturn, 1) := by decide +kernel
theorem dX1_writeCommonPart_88 : decode cX1_writeCommonPart 88 = .ok (.aload_n 0, 1) := by decide +kernel
theorem dX1_writeCommonPart_89 : decode cX1_writeCommonPart 89 = .ok (.getfield 23, 3) := by decide +kernel
theorem dX1_writeCommonPart_92 : decode cX1_writeCommonPart 92 = .ok (.iload_n 3, 1) := by decide +kernel
theorem dX1_writeCommonPart_93 : decode cX1_writeCommonPart 93 = .ok (.invokevirtual 26, 3) := by decide +kernel
theorem dX1_writeCommonPart_96 : decode cX1_writeCommonPart 96 = .ok (.iinc 4 1, 3) := by decide +kernel
theorem dX1_writeCommonPart_99 : decode cX1_writeCommonPart 99 = .ok (.goto (-86), 3) := by decide +kernel
theorem dX1_writeCommonPart_102 : decode cX1_writeCommonPart 102 = .ok (.aload_n 0, 1) := by decide +kernel
theorem dX1_writeCommonPart_103 : decode cX1_writeCommonPart 103 = .ok (.dup, 1) := by decide +kernel
theorem dX1_writeCommonPart_104 : decode cX1_writeCommonPart 104 = .ok (.getfield 9, 3) := by decide +kernel
theorem dX1_writeCommonPart_107 : decode cX1_writeCommonPart 107 = .ok (.iconst 1, 1) := by decide +kernel
theorem dX1_writeCommonPart_108 : decode cX1_writeCommonPart 108 = .ok (.iadd, 1) := by decide +kernel
theorem dX1_writeCommonPart_109 : decode cX1_writeCommonPart 109 = .ok (.putfield 9, 3) := by decide +kernel
theorem dX1_writeCommonPart_112 : decode cX1_writeCommonPart 112 = .ok (.iconst 1, 1) := by decide +kernel
theorem dX1_writeCommonPart_113 : decode cX1_writeCommonPart 113 = .ok (.ireturn, 1) := by decide +kernel
theorem dX2_init_0 : decode cX2_init 0 = .ok (.aload_n 0, 1) := by decide +kernel
theorem dX2_init_1 : decode cX2_init 1 = .ok (.invokespecial 3, 3) := by decide +kernel
theorem dX2_init_4 : decode cX2_init 4 = .ok (.aload_n 0, 1) := by decide +kernel
theorem dX2_init_5 : decode cX2_init 5 = .ok (.iconst 0, 1) := by decide +kernel
theorem dX2_init_6 : decode cX2_init 6 = .ok (.putfield 9, 3) := by decide +kernel
theorem dX2_init_9 : decode cX2_init 9 = .ok (.aload_n 0, 1) := by decide +kernel
theorem dX2_init_10 : decode cX2_init 10 = .ok (.iconst 0, 1) := by decide +kernel
theorem dX2_init_11 : decode cX2_init 11 = .ok (.putfield 15, 3) := by decide +kernel
theorem dX2_init_14 : decode cX2_init 14 = .ok (.aload_n 0, 1) := by decide +kernel
theorem dX2_init_15 : decode cX2_init 15 = .ok (.aload_n 1, 1) := by decide +kernel
theorem dX2_init_16 : decode cX2_init 16 = .ok (.putfield 19, 3) := by decide +kernel
theorem dX2_init_19 : decode cX2_init 19 = .ok (.return_, 1) := by decide +kernel
theorem dX2_toBeginning_0 : decode cX2_toBeginning 0 = .ok (.aload_n 0, 1) := by decide +kernel
theorem dX2_toBeginning_1 : decode cX2_toBeginning 1 = .ok (.iconst 0, 1) := by decide +kernel
theorem dX2_toBeginning_2 : decode cX2_toBeginning 2 = .ok (.putfield 15, 3) := by decide +kernel
theorem dX2_toBeginning_5 : decode cX2_toBeginning 5 = .ok (.aload_n 0, 1) := by decide +kernel
theorem dX2_toBeginning_6 : decode cX2_toBeginning 6 = .ok (.invokevirtual 23, 3) := by decide +kernel
theorem dX2_toBeginning_9 : decode cX2_toBeginning 9 = .ok (.return_, 1) := by decide +kernel
theorem dX2_action_0 : decode cX2_action 0 = .ok (.aload_n 0, 1) := by decide +kernel
theorem dX2_action_1 : decode cX2_action 1 = .ok (.getfield 19, 3) := by decide +kernel
theorem dX2_action_4 : decode cX2_action 4 = .ok (.aload_n 0, 1) := by decide +kernel
theorem dX2_action_5 : decode cX2_action 5 = .ok (.getfield 15, 3) := by decide +kernel
theorem dX2_action_8 : decode cX2_action 8 = .ok (.invokevirtual 26, 3) := by decide +kernel
theorem dX2_action_11 : decode cX2_action 11 = .ok (.invokestatic 32, 3) := by decide +kernel
theorem dX2_action_14 : decode cX2_action 14 = .ok (.ifCond .ne 5, 3) := by decide +kernel
theorem dX2_action_17 : decode cX2_action 17 = .ok (.iconst 0, 1) := by decide +kernel
theorem dX2_action_18 : decode cX2_action 18 = .ok (.ireturn, 1) := by decide +kernel
theorem dX2_action_19 : decode cX2_action 19 = .ok (.aload_n 0, 1) := by decide +kernel
theorem dX2_action_20 : decode cX2_action 20 = .ok (.getfield 19, 3) := by decide +kernel
theorem dX2_action_23 : decode cX2_action 23 = .ok (.aload_n 0, 1) := by decide +kernel
theorem dX2_action_24 : decode cX2_action 24 = .ok (.getfield 15, 3) := by decide +kernel
theorem dX2_action_27 : decode cX2_action 27 = .ok (.iconst 1, 1) := by decide +kernel
theorem dX2_action_28 : decode cX2_action 28 = .ok (.iadd, 1) := by decide +kernel
theorem dX2_action_29 : decode cX2_action 29 = .ok (.invokevirtual 26, 3) := by decide +kernel
theorem dX2_action_32 : decode cX2_action 32 = .ok (.bipush 33, 2) := by decide +kernel
theorem dX2_action_34 : decode cX2_action 34 = .ok (.if_icmp .ne 7, 3) := by decide +kernel
theorem dX2_action_37 : decode cX2_action 37 = .ok (.iconst 1, 1) := by decide +kernel
theorem dX2_action_38 : decode cX2_action 38 = .ok (.goto 4, 3) := by decide +kernel
theorem dX2_action_41 : decode cX2_action 41 = .ok (.iconst 2, 1) := by decide +kernel
theorem dX2_action_42 : decode cX2_action 42 = .ok (.ireturn, 1) := by decide +kernel
theorem dX2_otherRole_0 : decode cX2_otherRole 0 = .ok (.aload_n 0, 1) := by decide +kernel
theorem dX2_otherRole_1 : decode cX2_otherRole 1 = .ok (.getfield 19, 3) := by decide +kernel
theorem dX2_otherRole_4 : decode cX2_otherRole 4 = .ok (.aload_n 0, 1) := by decide +kernel
theorem dX2_otherRole_5 : decode cX2_otherRole 5 = .ok (.getfield 15, 3) := by decide +kernel
theorem dX2_otherRole_8 : decode cX2_otherRole 8 = .ok (.invokevirtual 26, 3) := by decide +kernel
theorem dX2_otherRole_11 : decode cX2_otherRole 11 = .ok (.istore_n 1, 1) := by decide +kernel
theorem dX2_otherRole_12 : decode cX2_otherRole 12 = .ok (.iload_n 1, 1) := by decide +kernel
theorem dX2_otherRole_13 : decode cX2_otherRole 13 = .ok (.invokestatic 32, 3) := by decide +kernel
theorem dX2_otherRole_16 : decode cX2_otherRole 16 = .ok (.ifCond .eq 10, 3) := by decide +kernel
theorem dX2_otherRole_19 : decode cX2_otherRole 19 = .ok (.iload_n 1, 1) := by decide +kernel
theorem dX2_otherRole_20 : decode cX2_otherRole 20 = .ok (.bipush 65, 2) := by decide +kernel
theorem dX2_otherRole_22 : decode cX2_otherRole 22 = .ok (.isub, 1) := by decide +kernel
theorem dX2_otherRole_23 : decode cX2_otherRole 23 = .ok (.goto 4, 3) := by decide +kernel
theorem dX2_otherRole_26 : decode cX2_otherRole 26 = .ok (.iconst (-1), 1) := by decide +kernel
theorem dX2_otherRole_27 : decode cX2_otherRole 27 = .ok (.ireturn, 1) := by decide +kernel
theorem dX2_behindLabel_0 : decode cX2_behindLabel 0 = .ok (.iload_n 1, 1) := by decide +kernel
theorem dX2_behindLabel_1 : decode cX2_behindLabel 1 = .ok (.ifCond .lt 16, 3) := by decide +kernel
theorem dX2_behindLabel_4 : decode cX2_behindLabel 4 = .ok (.iload_n 1, 1) := by decide +kernel
theorem dX2_behindLabel_5 : decode cX2_behindLabel 5 = .ok (.bipush 6, 2) := by decide +kernel
theorem dX2_behindLabel_7 : decode cX2_behindLabel 7 = .ok (.if_icmp .ge 10, 3) := by decide +kernel
theorem dX2_behindLabel_10 : decode cX2_behindLabel 10 = .ok (.aload_n 0, 1) := by decide +kernel
theorem dX2_behindLabel_11 : decode cX2_behindLabel 11 = .ok (.invokevirtual 36, 3) := by decide +kernel
theorem dX2_behindLabel_14 : decode cX2_behindLabel 14 = .ok (.ifCond .ne 5, 3) := by decide +kernel
theorem dX2_behindLabel_17 : decode cX2_behindLabel 17 = .ok (.iconst (-1), 1) := by decide +kernel
theorem dX2_behindLabel_18 : decode cX2_behindLabel 18 = .ok (.ireturn, 1) := by decide +kernel
theorem dX2_behindLabel_19 : decode cX2_behindLabel 19 = .ok (.iconst 0, 1) := by decide +kernel
theorem dX2_behindLabel_20 : decode cX2_behindLabel 20 = .ok (.istore_n 2, 1) := by decide +kernel
theorem dX2_behindLabel_21 : decode cX2_behindLabel 21 = .ok (.aload_n 0, 1) := by decide +kernel
theorem dX2_behindLabel_22 : decode cX2_behindLabel 22 = .ok (.getfield 15, 3) := by decide +kernel
theorem dX2_behindLabel_25 : decode cX2_behindLabel 25 = .ok (.iconst 2, 1) := by decide +kernel
theorem dX2_behindLabel_26 : decode cX2_behindLabel 26 = .ok (.iadd, 1) := by decide +kernel
theorem dX2_behindLabel_27 : decode cX2_behindLabel 27 = .ok (.istore_n 3, 1) := by decide +kernel
theorem dX2_behindLabel_28 : decode cX2_behindLabel 28 = .ok (.iload_n 3, 1) := by decide +kernel
theorem dX2_behindLabel_29 : decode cX2_behindLabel 29 = .ok (.aload_n 0, 1) := by decide +kernel
theorem dX2_behindLabel_30 : decode cX2_behindLabel 30 = .ok (.getfield 19, 3) := by decide +kernel
theorem dX2_behindLabel_33 : decode cX2_behindLabel 33 = .ok (.invokevirtual 40, 3) := by decide +kernel
theorem dX2_behindLabel_36 : decode cX2_behindLabel 36 = .ok (.if_icmp .ge 85, 3) := by decide +kernel
theorem dX2_behindLabel_39 : decode cX2_behindLabel 39 = .ok (.aload_n 0, 1) := by decide +kernel
theorem dX2_behindLabel_40 : decode cX2_behindLabel 40 = .ok (.getfield 19, 3) := by decide +kernel
theorem dX2_behindLabel_43 : decode cX2_behindLabel 43 = .ok (.iload_n 3, 1) := by decide +kernel
theorem dX2_behindLabel_44 : decode cX2_behindLabel 44 = .ok (.invokevirtual 26, 3) := by decide +kernel
theorem dX2_behindLabel_47 : decode cX2_behindLabel 47 = .ok (.istore 4, 2) := by decide +kernel
theorem dX2_behindLabel_49 : decode cX2_behindLabel 49 = .ok (.iload 4, 2) := by decide +kernel
theorem dX2_behindLabel_51 : decode cX2_behindLabel 51 = .ok (.bipush 123, 2) := by decide +kernel
theorem dX2_behindLabel_53 : decode cX2_behindLabel 53 = .ok (.if_icmp .ne 6, 3) := by decide +kernel
theorem dX2_behindLabel_56 : decode cX2_behindLabel 56 = .ok (.iinc 2 1, 3) := by decide +kernel
theorem dX2_behindLabel_59 : decode cX2_behindLabel 59 = .ok (.iload_n 2, 1) := by decide +kernel
theorem dX2_behindLabel_60 : decode cX2_behindLabel 60 = .ok (.iconst 1, 1) := by decide +kernel
theorem dX2_behindLabel_61 : decode cX2_behindLabel 61 = .ok (.if_icmp .ne 38, 3) := by decide +kernel
theorem dX2_behindLabel_64 : decode cX2_behindLabel 64 = .ok (.iload 4, 2) := by decide +kernel
theorem dX2_behindLabel_66 : decode cX2_behindLabel 66 = .ok (.bipush 123, 2) := by decide +kernel
theorem dX2_behindLabel_68 : decode cX2_behindLabel 68 = .ok (.if_icmp .eq 10, 3) := by decide +kernel
theorem dX2_behindLabel_71 : decode cX2_behindLabel 71 = .ok (.iload 4, 2) := by decide +kernel
theorem dX2_behindLabel_73 : decode cX2_behindLabel 73 = .ok (.bipush 44, 2) := by decide +kernel
theorem dX2_behindLabel_75 : decode cX2_behindLabel 75 = .ok (.if_icmp .ne 24, 3) := by decide +kernel
theorem dX2_behindLabel_78 : decode cX2_behindLabel 78 = .ok (.aload_n 0, 1) := by decide +kernel
theorem dX2_behindLabel_79 : decode cX2_behindLabel 79 = .ok (.getfield 19, 3) := by decide +kernel
theorem dX2_behindLabel_82 : decode cX2_behindLabel 82 = .ok (.iload_n 3, 1) := by decide +kernel
theorem dX2_behindLabel_83 : decode cX2_behindLabel 83 = .ok (.iconst 1, 1) := by decide +kernel
theorem dX2_behindLabel_84 : decode cX2_behindLabel 84 = .ok (.iadd, 1) := by decide +kernel
theorem dX2_behindLabel_85 : decode cX2_behindLabel 85 = .ok (.invokevirtual 26, 3) := by decide +kernel
theorem dX2_behindLabel_88 : decode cX2_behindLabel 88 = .ok (.bipush 112, 2) := by decide +kernel
theorem dX2_behindLabel_90 : decode cX2_behindLabel 90 = .ok (.iload_n 1, 1) := by decide +kernel
theorem dX2_behindLabel_91 : decode cX2_behindLabel 91 = .ok (.iadd, 1) := by decide +kernel
theorem dX2_behindLabel_92 : decode cX2_behindLabel 92 = .ok (.if_icmp .ne 7, 3) := by decide +kernel
theorem dX2_behindLabel_95 : decode cX2_behindLabel 95 = .ok (.iload_n 3, 1) := by decide +kernel
theorem dX2_behindLabel_96 : decode cX2_behindLabel 96 = .ok (.iconst 3, 1) := by decide +kernel
theorem dX2_behindLabel_97 : decode cX2_behindLabel 97 = .ok (.iadd, 1) := by decide +kernel
theorem dX2_behindLabel_98 : decode cX2_behindLabel 98 = .ok (.ireturn, 1) := by decide +kernel
theorem dX2_behindLabel_99 : decode cX2_behindLabel 99 = .ok (.iload 4, 2) := by decide +kernel
theorem dX2_behindLabel_101 : decode cX2_behindLabel 101 = .ok (.bipush 125, 2) := by decide +kernel
theorem dX2_behindLabel_103 : decode cX2_behindLabel 103 = .ok (.if_icmp .ne 6, 3) := by decide +kernel
theorem dX2_behindLabel_106 : decode cX2_behindLabel 106 = .ok (.iinc 2 (-1), 3) := by decide +kernel
theorem dX2_behindLabel_109 : decode cX2_behindLabel 109 = .ok (.iload_n 2, 1) := by decide +kernel
theorem dX2_behindLabel_110 : decode cX2_behindLabel 110 = .ok (.ifCond .ne 5, 3) := by decide +kernel
theorem dX2_behindLabel_113 : decode cX2_behindLabel 113 = .ok (.iconst (-1), 1) := by decide +kernel
theorem dX2_behindLabel_114 : decode cX2_behindLabel 114 = .ok (.ireturn, 1) := by decide +kernel
theorem dX2_behindLabel_115 : decode cX2_behindLabel 115 = .ok (.iinc 3 1, 3) := by decide +kernel
theorem dX2_behindLabel_118 : decode cX2_behindLabel 118 = .ok (.goto (-90), 3) := by decide +kernel
theorem dX2_behindLabel_121 : decode cX2_behindLabel 121 = .ok (.iconst (-1), 1) := by decide +kernel
theorem dX2_behindLabel_122 : decode cX2_behindLabel 122 = .ok (.ireturn, 1) := by decide +kernel
theorem dX2_follow_0 : decode cX2_follow 0 = .ok (.aload_n 0, 1) := by decide +kernel
theorem dX2_follow_1 : decode cX2_follow 1 = .ok (.iload_n 1, 1) := by decide +kernel
theorem dX2_follow_2 : decode cX2_follow 2 = .ok (.invokevirtual 43, 3) := by decide +kernel
theorem dX2_follow_5 : decode cX2_follow 5 = .ok (.istore_n 2, 1) := by decide +kernel
theorem dX2_follow_6 : decode cX2_follow 6 = .ok (.iload_n 2, 1) := by decide +kernel
theorem dX2_follow_7 : decode cX2_follow 7 = .ok (.iconst (-1), 1) := by decide +kernel
theorem dX2_follow_8 : decode cX2_follow 8 = .ok (.if_icmp .ne 5, 3) := by decide +kernel
theorem dX2_follow_11 : decode cX2_follow 11 = .ok (.iconst 0, 1) := by decide +kernel
theorem dX2_follow_12 : decode cX2_follow 12 = .ok (.ireturn, 1) := by decide +kernel
theorem dX2_follow_13 : decode cX2_follow 13 = .ok (.aload_n 0, 1) := by decide +kernel
theorem dX2_follow_14 : decode cX2_follow 14 = .ok (.iload_n 2, 1) := by decide +kernel
theorem dX2_follow_15 : decode cX2_follow 15 = .ok (.putfield 15, 3) := by decide +kernel
theorem dX2_follow_18 : decode cX2_follow 18 = .ok (.aload_n 0, 1) := by decide +kernel
theorem dX2_follow_19 : decode cX2_follow 19 = .ok (.invokevirtual 23, 3) := by decide +kernel
theorem dX2_follow_22 : decode cX2_follow 22 = .ok (.iconst 1, 1) := by decide +kernel
theorem dX2_follow_23 : decode cX2_follow 23 = .ok (.ireturn, 1) := by decide +kernel
theorem dX2_goOnAtOnce_0 : decode cX2_goOnAtOnce 0 = .ok (.iconst 0, 1) := by decide +kernel
theorem dX2_goOnAtOnce_1 : decode cX2_goOnAtOnce 1 = .ok (.istore_n 1, 1) := by decide +kernel
theorem dX2_goOnAtOnce_2 : decode cX2_goOnAtOnce 2 = .ok (.iload_n 1, 1) := by decide +kernel
theorem dX2_goOnAtOnce_3 : decode cX2_goOnAtOnce 3 = .ok (.bipush 60, 2) := by decide +kernel
theorem dX2_goOnAtOnce_5 : decode cX2_goOnAtOnce 5 = .ok (.if_icmp .ge 60, 3) := by decide +kernel
theorem dX2_goOnAtOnce_8 : decode cX2_goOnAtOnce 8 = .ok (.aload_n 0, 1) := by decide +kernel
theorem dX2_goOnAtOnce_9 : decode cX2_goOnAtOnce 9 = .ok (.getfield 19, 3) := by decide +kernel
theorem dX2_goOnAtOnce_12 : decode cX2_goOnAtOnce 12 = .ok (.aload_n 0, 1) := by decide +kernel
theorem dX2_goOnAtOnce_13 : decode cX2_goOnAtOnce 13 = .ok (.getfield 15, 3) := by decide +kernel
theorem dX2_goOnAtOnce_16 : decode cX2_goOnAtOnce 16 = .ok (.invokevirtual 26, 3) := by decide +kernel
theorem dX2_goOnAtOnce_19 : decode cX2_goOnAtOnce 19 = .ok (.istore_n 2, 1) := by decide +kernel
theorem dX2_goOnAtOnce_20 : decode cX2_goOnAtOnce 20 = .ok (.iload_n 2, 1) := by decide +kernel
theorem dX2_goOnAtOnce_21 : decode cX2_goOnAtOnce 21 = .ok (.bipush 109, 2) := by decide +kernel
theorem dX2_goOnAtOnce_23 : decode cX2_goOnAtOnce 23 = .ok (.if_icmp .ne 16, 3) := by decide +kernel
theorem dX2_goOnAtOnce_26 : decode cX2_goOnAtOnce 26 = .ok (.aload_n 0, 1) := by decide +kernel
theorem dX2_goOnAtOnce_27 : decode cX2_goOnAtOnce 27 = .ok (.dup, 1) := by decide +kernel
theorem dX2_goOnAtOnce_28 : decode cX2_goOnAtOnce 28 = .ok (.getfield 15, 3) := by decide +kernel
theorem dX2_goOnAtOnce_31 : decode cX2_goOnAtOnce 31 = .ok (.iconst 3, 1) := by decide +kernel
theorem dX2_goOnAtOnce_32 : decode cX2_goOnAtOnce 32 = .ok (.iadd, 1) := by decide +kernel
theorem dX2_goOnAtOnce_33 : decode cX2_goOnAtOnce 33 = .ok (.putfield 15, 3) := by decide +kernel
theorem dX2_goOnAtOnce_36 : decode cX2_goOnAtOnce 36 = .ok (.goto 23, 3) := by decide +kernel
theorem dX2_goOnAtOnce_39 : decode cX2_goOnAtOnce 39 = .ok (.iload_n 2, 1) := by decide +kernel
theorem dX2_goOnAtOnce_40 : decode cX2_goOnAtOnce 40 = .ok (.invokestatic 47, 3) := by decide +kernel
theorem dX2_goOnAtOnce_43 : decode cX2_goOnAtOnce 43 = .ok (.ifCond .eq 15, 3) := by decide +kernel
theorem dX2_goOnAtOnce_46 : decode cX2_goOnAtOnce 46 = .ok (.aload_n 0, 1) := by decide +kernel
theorem dX2_goOnAtOnce_47 : decode cX2_goOnAtOnce 47 = .ok (.aload_n 0, 1) := by decide +kernel
theorem dX2_goOnAtOnce_48 : decode cX2_goOnAtOnce 48 = .ok (.iload_n 2, 1) := by decide +kernel
theorem dX2_goOnAtOnce_49 : decode cX2_goOnAtOnce 49 = .ok (.invokevirtual 50, 3) := by decide +kernel
theorem dX2_goOnAtOnce_52 : decode cX2_goOnAtOnce 52 = .ok (.putfield 15, 3) := by decide +kernel
theorem dX2_goOnAtOnce_55 : decode cX2_goOnAtOnce 55 = .ok (.goto 4, 3) := by decide +kernel
theorem dX2_goOnAtOnce_58 : decode cX2_goOnAtOnce 58 = .ok (.return_, 1) := by decide +kernel
theorem dX2_goOnAtOnce_59 : decode cX2_goOnAtOnce 59 = .ok (.iinc 1 1, 3) := by decide +kernel
theorem dX2_goOnAtOnce_62 : decode cX2_goOnAtOnce 62 = .ok (.goto (-60), 3) := by decide +kernel
theorem dX2_goOnAtOnce_65 : decode cX2_goOnAtOnce 65 = .ok (.return_, 1) := by decide +kernel
theorem dX2_bodyOfLoop_0 : decode cX2_bodyOfLoop 0 = .ok (.aload_n 0, 1) := by decide +kernel
theorem dX2_bodyOfLoop_1 : decode cX2_bodyOfLoop 1 = .ok (.getfield 15, 3) := by decide +kernel
theorem dX2_bodyOfLoop_4 : decode cX2_bodyOfLoop 4 = .ok (.iconst 1, 1) := by decide +kernel
theorem dX2_bodyOfLoop_5 : decode cX2_bodyOfLoop 5 = .ok (.isub, 1) := by decide +kernel
theorem dX2_bodyOfLoop_6 : decode cX2_bodyOfLoop 6 = .ok (.istore_n 2, 1) := by decide +kernel
theorem dX2_bodyOfLoop_7 : decode cX2_bodyOfLoop 7 = .ok (.iload_n 2, 1) := by decide +kernel
theorem dX2_bodyOfLoop_8 : decode cX2_bodyOfLoop 8 = .ok (.ifCond .lt 40, 3) := by decide +kernel
theorem dX2_bodyOfLoop_11 : decode cX2_bodyOfLoop 11 = .ok (.aload_n 0, 1) := by decide +kernel
theorem dX2_bodyOfLoop_12 : decode cX2_bodyOfLoop 12 = .ok (.getfield 19, 3) := by decide +kernel
theorem dX2_bodyOfLoop_15 : decode cX2_bodyOfLoop 15 = .ok (.iload_n 2, 1) := by decide +kernel
theorem dX2_bodyOfLoop_16 : decode cX2_bodyOfLoop 16 = .ok (.invokevirtual 26, 3) := by decide +kernel
theorem dX2_bodyOfLoop_19 : decode cX2_bodyOfLoop 19 = .ok (.bipush 109, 2) := by decide +kernel
theorem dX2_bodyOfLoop_21 : decode cX2_bodyOfLoop 21 = .ok (.if_icmp .ne 21, 3) := by decide +kernel
theorem dX2_bodyOfLoop_24 : decode cX2_bodyOfLoop 24 = .ok (.aload_n 0, 1) := by decide +kernel
theorem dX2_bodyOfLoop_25 : decode cX2_bodyOfLoop 25 = .ok (.getfield 19, 3) := by decide +kernel
theorem dX2_bodyOfLoop_28 : decode cX2_bodyOfLoop 28 = .ok (.iload_n 2, 1) := by decide +kernel
theorem dX2_bodyOfLoop_29 : decode cX2_bodyOfLoop 29 = .ok (.iconst 1, 1) := by decide +kernel
theorem dX2_bodyOfLoop_30 : decode cX2_bodyOfLoop 30 = .ok (.iadd, 1) := by decide +kernel
theorem dX2_bodyOfLoop_31 : decode cX2_bodyOfLoop 31 = .ok (.invokevirtual 26, 3) := by decide +kernel
theorem dX2_bodyOfLoop_34 : decode cX2_bodyOfLoop 34 = .ok (.iload_n 1, 1) := by decide +kernel
theorem dX2_bodyOfLoop_35 : decode cX2_bodyOfLoop 35 = .ok (.if_icmp .ne 7, 3) := by decide +kernel
theorem dX2_bodyOfLoop_38 : decode cX2_bodyOfLoop 38 = .ok (.iload_n 2, 1) := by decide +kernel
theorem dX2_bodyOfLoop_39 : decode cX2_bodyOfLoop 39 = .ok (.iconst 3, 1) := by decide +kernel
theorem dX2_bodyOfLoop_40 : decode cX2_bodyOfLoop 40 = .ok (.iadd, 1) := by decide +kernel
theorem dX2_bodyOfLoop_41 : decode cX2_bodyOfLoop 41 = .ok (.ireturn, 1) := by decide +kernel
theorem dX2_bodyOfLoop_42 : decode cX2_bodyOfLoop 42 = .ok (.iinc 2 (-1), 3) := by decide +kernel
theorem dX2_bodyOfLoop_45 : decode cX2_bodyOfLoop 45 = .ok (.goto (-38), 3) := by decide +kernel
theorem dX2_bodyOfLoop_48 : decode cX2_bodyOfLoop 48 = .ok (.aload_n 0, 1) := by decide +kernel
theorem dX2_bodyOfLoop_49 : decode cX2_bodyOfLoop 49 = .ok (.getfield 15, 3) := by decide +kernel
theorem dX2_bodyOfLoop_52 : decode cX2_bodyOfLoop 52 = .ok (.ireturn, 1) := by decide +kernel
theorem dX3_init_0 : decode cX3_init 0 = .ok (.aload_n 0, 1) := by decide +kernel
theorem dX3_init_1 : decode cX3_init 1 = .ok (.invokespecial 3, 3) := by decide +kernel
theorem dX3_init_4 : decode cX3_init 4 = .ok (.aload_n 0, 1) := by decide +kernel
theorem dX3_init_5 : decode cX3_init 5 = .ok (.iconst 3, 1) := by decide +kernel
theorem dX3_init_6 : decode cX3_init 6 = .ok (.newarray .int, 2) := by decide +kernel
theorem dX3_init_8 : decode cX3_init 8 = .ok (.putfield 9, 3) := by decide +kernel
theorem dX3_init_11 : decode cX3_init 11 = .ok (.aload_n 0, 1) := by decide +kernel
theorem dX3_init_12 : decode cX3_init 12 = .ok (.iconst 0, 1) := by decide +kernel
theorem dX3_init_13 : decode cX3_init 13 = .ok (.putfield 15, 3) := by decide +kernel
theorem dX3_init_16 : decode cX3_init 16 = .ok (.return_, 1) := by decide +kernel
theorem dX3_size_0 : decode cX3_size 0 = .ok (.aload_n 0, 1) := by decide +kernel
theorem dX3_size_1 : decode cX3_size 1 = .ok (.getfield 15, 3) := by decide +kernel
theorem dX3_size_4 : decode cX3_size 4 = .ok (.ireturn, 1) := by decide +kernel
theorem dX3_isFull_0 : decode cX3_isFull 0 = .ok (.aload_n 0, 1) := by decide +kernel
theorem dX3_isFull_1 : decode cX3_isFull 1 = .ok (.getfield 15, 3) := by decide +kernel
theorem dX3_isFull_4 : decode cX3_isFull 4 = .ok (.iconst 3, 1) := by decide +kernel
theorem dX3_isFull_5 : decode cX3_isFull 5 = .ok (.if_icmp .lt 7, 3) := by decide +kernel
theorem dX3_isFull_8 : decode cX3_isFull 8 = .ok (.iconst 1, 1) := by decide +kernel
theorem dX3_isFull_9 : decode cX3_isFull 9 = .ok (.goto 4, 3) := by decide +kernel
theorem dX3_isFull_12 : decode cX3_isFull 12 = .ok (.iconst 0, 1) := by decide +kernel
theorem dX3_isFull_13 : decode cX3_isFull 13 = .ok (.ireturn, 1) := by decide +kernel
theorem dX3_get_0 : decode cX3_get 0 = .ok (.iload_n 1, 1) := by decide +kernel
theorem dX3_get_1 : decode cX3_get 1 = .ok (.ifCond .lt 20, 3) := by decide +kernel
theorem dX3_get_4 : decode cX3_get 4 = .ok (.iload_n 1, 1) := by decide +kernel
theorem dX3_get_5 : decode cX3_get 5 = .ok (.aload_n 0, 1) := by decide +kernel
theorem dX3_get_6 : decode cX3_get 6 = .ok (.getfield 15, 3) := by decide +kernel
theorem dX3_get_9 : decode cX3_get 9 = .ok (.if_icmp .ge 12, 3) := by decide +kernel
theorem dX3_get_12 : decode cX3_get 12 = .ok (.aload_n 0, 1) := by decide +kernel
theorem dX3_get_13 : decode cX3_get 13 = .ok (.getfield 9, 3) := by decide +kernel
theorem dX3_get_16 : decode cX3_get 16 = .ok (.iload_n 1, 1) := by decide +kernel
theorem dX3_get_17 : decode cX3_get 17 = .ok (.iaload, 1) := by decide +kernel
theorem dX3_get_18 : decode cX3_get 18 = .ok (.goto 4, 3) := by decide +kernel
theorem dX3_get_21 : decode cX3_get 21 = .ok (.iconst (-1), 1) := by decide +kernel
theorem dX3_get_22 : decode cX3_get 22 = .ok (.ireturn, 1) := by decide +kernel
theorem dX3_clear_0 : decode cX3_clear 0 = .ok (.aload_n 0, 1) := by decide +kernel
theorem dX3_clear_1 : decode cX3_clear 1 = .ok (.iconst 0, 1) := by decide +kernel
theorem dX3_clear_2 : decode cX3_clear 2 = .ok (.putfield 15, 3) := by decide +kernel
theorem dX3_clear_5 : decode cX3_clear 5 = .ok (.return_, 1) := by decide +kernel
theorem dX3_append_0 : decode cX3_append 0 = .ok (.aload_n 0, 1) := by decide +kernel
theorem dX3_append_1 : decode cX3_append 1 = .ok (.getfield 15, 3) := by decide +kernel
theorem dX3_append_4 : decode cX3_append 4 = .ok (.iconst 3, 1) := by decide +kernel
theorem dX3_append_5 : decode cX3_append 5 = .ok (.if_icmp .ge 23, 3) := by decide +kernel
theorem dX3_append_8 : decode cX3_append 8 = .ok (.aload_n 0, 1) := by decide +kernel
theorem dX3_append_9 : decode cX3_append 9 = .ok (.getfield 9, 3) := by decide +kernel
theorem dX3_append_12 : decode cX3_append 12 = .ok (.aload_n 0, 1) := by decide +kernel
theorem dX3_append_13 : decode cX3_append 13 = .ok (.getfield 15, 3) := by decide +kernel
theorem dX3_append_16 : decode cX3_append 16 = .ok (.iload_n 1, 1) := by decide +kernel
theorem dX3_append_17 : decode cX3_append 17 = .ok (.iastore, 1) := by decide +kernel
theorem dX3_append_18 : decode cX3_append 18 = .ok (.aload_n 0, 1) := by decide +kernel
theorem dX3_append_19 : decode cX3_append 19 = .ok (.dup, 1) := by decide +kernel
theorem dX3_append_20 : decode cX3_append 20 = .ok (.getfield 15, 3) := by decide +kernel
theorem dX3_append_23 : decode cX3_append 23 = .ok (.iconst 1, 1) := by decide +kernel
theorem dX3_append_24 : decode cX3_append 24 = .ok (.iadd, 1) := by decide +kernel
theorem dX3_append_25 : decode cX3_append 25 = .ok (.putfield 15, 3) := by decide +kernel
theorem dX3_append_28 : decode cX3_append 28 = .ok (.return_, 1) := by decide +kernel
theorem dX3_removeFirst_0 : decode cX3_removeFirst 0 = .ok (.iconst 1, 1) := by decide +kernel
theorem dX3_removeFirst_1 : decode cX3_removeFirst 1 = .ok (.istore_n 1, 1) := by decide +kernel
theorem dX3_removeFirst_2 : decode cX3_removeFirst 2 = .ok (.iload_n 1, 1) := by decide +kernel
theorem dX3_removeFirst_3 : decode cX3_removeFirst 3 = .ok (.aload_n 0, 1) := by decide +kernel
theorem dX3_removeFirst_4 : decode cX3_removeFirst 4 = .ok (.getfield 15, 3) := by decide +kernel
theorem dX3_removeFirst_7 : decode cX3_removeFirst 7 = .ok (.if_icmp .ge 23, 3) := by decide +kernel
theorem dX3_removeFirst_10 : decode cX3_removeFirst 10 = .ok (.aload_n 0, 1) := by decide +kernel
theorem dX3_removeFirst_11 : decode cX3_removeFirst 11 = .ok (.getfield 9, 3) := by decide +kernel
theorem dX3_removeFirst_14 : decode cX3_removeFirst 14 = .ok (.iload_n 1, 1) := by decide +kernel
theorem dX3_removeFirst_15 : decode cX3_removeFirst 15 = .ok (.iconst 1, 1) := by decide +kernel
theorem dX3_removeFirst_16 : decode cX3_removeFirst 16 = .ok (.isub, 1) := by decide +kernel
theorem dX3_removeFirst_17 : decode cX3_removeFirst 17 = .ok (.aload_n 0, 1) := by decide +kernel
theorem dX3_removeFirst_18 : decode cX3_removeFirst 18 = .ok (.getfield 9, 3) := by decide +kernel
theorem dX3_removeFirst_21 : decode cX3_removeFirst 21 = .ok (.iload_n 1, 1) := by decide +kernel
theorem dX3_removeFirst_22 : decode cX3_removeFirst 22 = .ok (.iaload, 1) := by decide +kernel
theorem dX3_removeFirst_23 : decode cX3_removeFirst 23 = .ok (.iastore, 1) := by decide +kernel
theorem dX3_removeFirst_24 : decode cX3_removeFirst 24 = .ok (.iinc 1 1, 3) := by decide +kernel
theorem dX3_removeFirst_27 : decode cX3_removeFirst 27 = .ok (.goto (-25), 3) := by decide +kernel
theorem dX3_removeFirst_30 : decode cX3_removeFirst 30 = .ok (.aload_n 0, 1) := by decide +kernel
theorem dX3_removeFirst_31 : decode cX3_removeFirst 31 = .ok (.getfield 15, 3) := by decide +kernel
theorem dX3_removeFirst_34 : decode cX3_removeFirst 34 = .ok (.ifCond .le 13, 3) := by decide +kernel
theorem dX3_removeFirst_37 : decode cX3_removeFirst 37 = .ok (.aload_n 0, 1) := by decide +kernel
theorem dX3_removeFirst_38 : decode cX3_removeFirst 38 = .ok (.dup, 1) := by decide +kernel
theorem dX3_removeFirst_39 : decode cX3_removeFirst 39 = .ok (.getfield 15, 3) := by decide +kernel
theorem dX3_removeFirst_42 : decode cX3_removeFirst 42 = .ok (.iconst 1, 1) := by decide +kernel
theorem dX3_removeFirst_43 : decode cX3_removeFirst 43 = .ok (.isub, 1) := by decide +kernel
theorem dX3_removeFirst_44 : decode cX3_removeFirst 44 = .ok (.putfield 15, 3) := by decide +kernel
theorem dX3_removeFirst_47 : decode cX3_removeFirst 47 = .ok (.return_, 1) := by decide +kernel
theorem dX4_init_0 : decode cX4_init 0 = .ok (.aload_n 0, 1) := by decide +kernel
theorem dX4_init_1 : decode cX4_init 1 = .ok (.invokespecial 3, 3) := by decide +kernel
theorem dX4_init_4 : decode cX4_init 4 = .ok (.aload_n 0, 1) := by decide +kernel
theorem dX4_init_5 : decode cX4_init 5 = .ok (.bipush 60, 2) := by decide +kernel
theorem dX4_init_7 : decode cX4_init 7 = .ok (.newarray .int, 2) := by decide +kernel
theorem dX4_init_9 : decode cX4_init 9 = .ok (.putfield 9, 3) := by decide +kernel
theorem dX4_init_12 : decode cX4_init 12 = .ok (.aload_n 0, 1) := by decide +kernel
theorem dX4_init_13 : decode cX4_init 13 = .ok (.bipush 60, 2) := by decide +kernel
theorem dX4_init_15 : decode cX4_init 15 = .ok (.newarray .int, 2) := by decide +kernel
theorem dX4_init_17 : decode cX4_init 17 = .ok (.putfield 15, 3) := by decide +kernel
theorem dX4_init_20 : decode cX4_init 20 = .ok (.aload_n 0, 1) := by decide +kernel
theorem dX4_init_21 : decode cX4_init 21 = .ok (.iconst 0, 1) := by decide +kernel
theorem dX4_init_22 : decode cX4_init 22 = .ok (.putfield 18, 3) := by decide +kernel
theorem dX4_init_25 : decode cX4_init 25 = .ok (.aload_n 0, 1) := by decide +kernel
theorem dX4_init_26 : decode cX4_init 26 = .ok (.iconst 0, 1) := by decide +kernel
theorem dX4_init_27 : decode cX4_init 27 = .ok (.putfield 22, 3) := by decide +kernel
theorem dX4_init_30 : decode cX4_init 30 = .ok (.return_, 1) := by decide +kernel
theorem dX4_holdsFor_0 : decode cX4_holdsFor 0 = .ok (.aload_n 0, 1) := by decide +kernel
theorem dX4_holdsFor_1 : decode cX4_holdsFor 1 = .ok (.iconst 0, 1) := by decide +kernel
theorem dX4_holdsFor_2 : decode cX4_holdsFor 2 = .ok (.putfield 18, 3) := by decide +kernel
theorem dX4_holdsFor_5 : decode cX4_holdsFor 5 = .ok (.aload_n 0, 1) := by decide +kernel
theorem dX4_holdsFor_6 : decode cX4_holdsFor 6 = .ok (.iconst 0, 1) := by decide +kernel
theorem dX4_holdsFor_7 : decode cX4_holdsFor 7 = .ok (.putfield 22, 3) := by decide +kernel
theorem dX4_holdsFor_10 : decode cX4_holdsFor 10 = .ok (.aload_n 0, 1) := by decide +kernel
theorem dX4_holdsFor_11 : decode cX4_holdsFor 11 = .ok (.getfield 9, 3) := by decide +kernel
theorem dX4_holdsFor_14 : decode cX4_holdsFor 14 = .ok (.iconst 0, 1) := by decide +kernel
theorem dX4_holdsFor_15 : decode cX4_holdsFor 15 = .ok (.iconst 0, 1) := by decide +kernel
theorem dX4_holdsFor_16 : decode cX4_holdsFor 16 = .ok (.iastore, 1) := by decide +kernel
theorem dX4_holdsFor_17 : decode cX4_holdsFor 17 = .ok (.iconst 0, 1) := by decide +kernel
theorem dX4_holdsFor_18 : decode cX4_holdsFor 18 = .ok (.istore_n 2, 1) := by decide +kernel
theorem dX4_holdsFor_19 : decode cX4_holdsFor 19 = .ok (.iload_n 2, 1) := by decide +kernel
theorem dX4_holdsFor_20 : decode cX4_holdsFor 20 = .ok (.aload_n 1, 1) := by decide +kernel
theorem dX4_holdsFor_21 : decode cX4_holdsFor 21 = .ok (.invokevirtual 25, 3) := by decide +kernel
theorem dX4_holdsFor_24 : decode cX4_holdsFor 24 = .ok (.if_icmp .ge 20, 3) := by decide +kernel
theorem dX4_holdsFor_27 : decode cX4_holdsFor 27 = .ok (.aload_n 0, 1) := by decide +kernel
theorem dX4_holdsFor_28 : decode cX4_holdsFor 28 = .ok (.aload_n 1, 1) := by decide +kernel
theorem dX4_holdsFor_29 : decode cX4_holdsFor 29 = .ok (.iload_n 2, 1) := by decide +kernel
theorem dX4_holdsFor_30 : decode cX4_holdsFor 30 = .ok (.invokevirtual 31, 3) := by decide +kernel
theorem dX4_holdsFor_33 : decode cX4_holdsFor 33 = .ok (.ifCond .ne 5, 3) := by decide +kernel
theorem dX4_holdsFor_36 : decode cX4_holdsFor 36 = .ok (.iconst 0, 1) := by decide +kernel
theorem dX4_holdsFor_37 : decode cX4_holdsFor 37 = .ok (.ireturn, 1) := by decide +kernel
theorem dX4_holdsFor_38 : decode cX4_holdsFor 38 = .ok (.iinc 2 1, 3) := by decide +kernel
theorem dX4_holdsFor_41 : decode cX4_holdsFor 41 = .ok (.goto (-22), 3) := by decide +kernel
theorem dX4_holdsFor_44 : decode cX4_holdsFor 44 = .ok (.iconst 1, 1) := by decide +kernel
theorem dX4_holdsFor_45 : decode cX4_holdsFor 45 = .ok (.ireturn, 1) := by decide +kernel
theorem dX4_isSoundAt_0 : decode cX4_isSoundAt 0 = .ok (.aload_n 1, 1) := by decide +kernel
theorem dX4_isSoundAt_1 : decode cX4_isSoundAt 1 = .ok (.iload_n 2, 1) := by decide +kernel
theorem dX4_isSoundAt_2 : decode cX4_isSoundAt 2 = .ok (.invokevirtual 35, 3) := by decide +kernel
theorem dX4_isSoundAt_5 : decode cX4_isSoundAt 5 = .ok (.istore_n 3, 1) := by decide +kernel
theorem dX4_isSoundAt_6 : decode cX4_isSoundAt 6 = .ok (.iload_n 3, 1) := by decide +kernel
theorem dX4_isSoundAt_7 : decode cX4_isSoundAt 7 = .ok (.lookupswitch 124 #[(44, 97), (109, 41), (123, 53), (125, 109)], 41) := by decide +kernel
theorem dX4_isSoundAt_48 : decode cX4_isSoundAt 48 = .ok (.aload_n 0, 1) := by decide +kernel
theorem dX4_isSoundAt_49 : decode cX4_isSoundAt 49 = .ok (.aload_n 1, 1) := by decide +kernel
theorem dX4_isSoundAt_50 : decode cX4_isSoundAt 50 = .ok (.iload_n 2, 1) := by decide +kernel
theorem dX4_isSoundAt_51 : decode cX4_isSoundAt 51 = .ok (.iconst 1, 1) := by decide +kernel
theorem dX4_isSoundAt_52 : decode cX4_isSoundAt 52 = .ok (.iadd, 1) := by decide +kernel
theorem dX4_isSoundAt_53 : decode cX4_isSoundAt 53 = .ok (.invokevirtual 35, 3) := by decide +kernel
theorem dX4_isSoundAt_56 : decode cX4_isSoundAt 56 = .ok (.invokevirtual 39, 3) := by decide +kernel
theorem dX4_isSoundAt_59 : decode cX4_isSoundAt 59 = .ok (.ireturn, 1) := by decide +kernel
theorem dX4_isSoundAt_60 : decode cX4_isSoundAt 60 = .ok (.aload_n 1, 1) := by decide +kernel
theorem dX4_isSoundAt_61 : decode cX4_isSoundAt 61 = .ok (.iload_n 2, 1) := by decide +kernel
theorem dX4_isSoundAt_62 : decode cX4_isSoundAt 62 = .ok (.iconst 2, 1) := by decide +kernel
theorem dX4_isSoundAt_63 : decode cX4_isSoundAt 63 = .ok (.isub, 1) := by decide +kernel
theorem dX4_isSoundAt_64 : decode cX4_isSoundAt 64 = .ok (.invokevirtual 35, 3) := by decide +kernel
theorem dX4_isSoundAt_67 : decode cX4_isSoundAt 67 = .ok (.aload_n 1, 1) := by decide +kernel
theorem dX4_isSoundAt_68 : decode cX4_isSoundAt 68 = .ok (.iload_n 2, 1) := by decide +kernel
theorem dX4_isSoundAt_69 : decode cX4_isSoundAt 69 = .ok (.iconst 1, 1) := by decide +kernel
theorem dX4_isSoundAt_70 : decode cX4_isSoundAt 70 = .ok (.isub, 1) := by decide +kernel
theorem dX4_isSoundAt_71 : decode cX4_isSoundAt 71 = .ok (.invokevirtual 35, 3) := by decide +kernel
theorem dX4_isSoundAt_74 : decode cX4_isSoundAt 74 = .ok (.if_icmp .eq 28, 3) := by decide +kernel
theorem dX4_isSoundAt_77 : decode cX4_isSoundAt 77 = .ok (.aload_n 0, 1) := by decide +kernel
theorem dX4_isSoundAt_78 : decode cX4_isSoundAt 78 = .ok (.invokevirtual 43, 3) := by decide +kernel
theorem dX4_isSoundAt_81 : decode cX4_isSoundAt 81 = .ok (.ifCond .eq 21, 3) := by decide +kernel
theorem dX4_isSoundAt_84 : decode cX4_isSoundAt 84 = .ok (.aload_n 0, 1) := by decide +kernel
theorem dX4_isSoundAt_85 : decode cX4_isSoundAt 85 = .ok (.aload_n 1, 1) := by decide +kernel
theorem dX4_isSoundAt_86 : decode cX4_isSoundAt 86 = .ok (.iload_n 2, 1) := by decide +kernel
theorem dX4_isSoundAt_87 : decode cX4_isSoundAt 87 = .ok (.iconst 1, 1) := by decide +kernel
theorem dX4_isSoundAt_88 : decode cX4_isSoundAt 88 = .ok (.iadd, 1) := by decide +kernel
theorem dX4_isSoundAt_89 : decode cX4_isSoundAt 89 = .ok (.invokevirtual 35, 3) := by decide +kernel
theorem dX4_isSoundAt_92 : decode cX4_isSoundAt 92 = .ok (.invokevirtual 47, 3) := by decide +kernel
theorem dX4_isSoundAt_95 : decode cX4_isSoundAt 95 = .ok (.ifCond .eq 7, 3) := by decide +kernel
theorem dX4_isSoundAt_98 : decode cX4_isSoundAt 98 = .ok (.iconst 1, 1) := by decide +kernel
theorem dX4_isSoundAt_99 : decode cX4_isSoundAt 99 = .ok (.goto 4, 3) := by decide +kernel
theorem dX4_isSoundAt_102 : decode cX4_isSoundAt 102 = .ok (.iconst 0, 1) := by decide +kernel
theorem dX4_isSoundAt_103 : decode cX4_isSoundAt 103 = .ok (.ireturn, 1) := by decide +kernel
theorem dX4_isSoundAt_104 : decode cX4_isSoundAt 104 = .ok (.aload_n 0, 1) := by decide +kernel
theorem dX4_isSoundAt_105 : decode cX4_isSoundAt 105 = .ok (.aload_n 1, 1) := by decide +kernel
theorem dX4_isSoundAt_106 : decode cX4_isSoundAt 106 = .ok (.iload_n 2, 1) := by decide +kernel
theorem dX4_isSoundAt_107 : decode cX4_isSoundAt 107 = .ok (.iconst 1, 1) := by decide +kernel
theorem dX4_isSoundAt_108 : decode cX4_isSoundAt 108 = .ok (.iadd, 1) := by decide +kernel
theorem dX4_isSoundAt_109 : decode cX4_isSoundAt 109 = .ok (.invokevirtual 35, 3) := by decide +kernel
theorem dX4_isSoundAt_112 : decode cX4_isSoundAt 112 = .ok (.invokevirtual 47, 3) := by decide +kernel
theorem dX4_isSoundAt_115 : decode cX4_isSoundAt 115 = .ok (.ireturn, 1) := by decide +kernel
theorem dX4_isSoundAt_116 : decode cX4_isSoundAt 116 = .ok (.aload_n 0, 1) := by decide +kernel
theorem dX4_isSoundAt_117 : decode cX4_isSoundAt 117 = .ok (.dup, 1) := by decide +kernel
theorem dX4_isSoundAt_118 : decode cX4_isSoundAt 118 = .ok (.getfield 18, 3) := by decide +kernel
theorem dX4_isSoundAt_121 : decode cX4_isSoundAt 121 = .ok (.iconst 1, 1) := by decide +kernel
theorem dX4_isSoundAt_122 : decode cX4_isSoundAt 122 = .ok (.isub, 1) := by decide +kernel
theorem dX4_isSoundAt_123 : decode cX4_isSoundAt 123 = .ok (.putfield 18, 3) := by decide +kernel
theorem dX4_isSoundAt_126 : decode cX4_isSoundAt 126 = .ok (.aload_n 0, 1) := by decide +kernel
theorem dX4_isSoundAt_127 : decode cX4_isSoundAt 127 = .ok (.invokevirtual 50, 3) := by decide +kernel
theorem dX4_isSoundAt_130 : decode cX4_isSoundAt 130 = .ok (.ireturn, 1) := by decide +kernel
theorem dX4_isSoundAt_131 : decode cX4_isSoundAt 131 = .ok (.iload_n 3, 1) := by decide +kernel
theorem dX4_isSoundAt_132 : decode cX4_isSoundAt 132 = .ok (.invokestatic 53, 3) := by decide +kernel
theorem dX4_isSoundAt_135 : decode cX4_isSoundAt 135 = .ok (.ifCond .eq 19, 3) := by decide +kernel
theorem dX4_isSoundAt_138 : decode cX4_isSoundAt 138 = .ok (.aload_n 1, 1) := by decide +kernel
theorem dX4_isSoundAt_139 : decode cX4_isSoundAt 139 = .ok (.iload_n 2, 1) := by decide +kernel
theorem dX4_isSoundAt_140 : decode cX4_isSoundAt 140 = .ok (.iconst 1, 1) := by decide +kernel
theorem dX4_isSoundAt_141 : decode cX4_isSoundAt 141 = .ok (.isub, 1) := by decide +kernel
theorem dX4_isSoundAt_142 : decode cX4_isSoundAt 142 = .ok (.invokevirtual 35, 3) := by decide +kernel
theorem dX4_isSoundAt_145 : decode cX4_isSoundAt 145 = .ok (.bipush 109, 2) := by decide +kernel
theorem dX4_isSoundAt_147 : decode cX4_isSoundAt 147 = .ok (.if_icmp .eq 7, 3) := by decide +kernel
theorem dX4_isSoundAt_150 : decode cX4_isSoundAt 150 = .ok (.iconst 1, 1) := by decide +kernel
theorem dX4_isSoundAt_151 : decode cX4_isSoundAt 151 = .ok (.goto 4, 3) := by decide +kernel
theorem dX4_isSoundAt_154 : decode cX4_isSoundAt 154 = .ok (.iconst 0, 1) := by decide +kernel
theorem dX4_isSoundAt_155 : decode cX4_isSoundAt 155 = .ok (.istore 4, 2) := by decide +kernel
theorem dX4_isSoundAt_157 : decode cX4_isSoundAt 157 = .ok (.iload 4, 2) := by decide +kernel
theorem dX4_isSoundAt_159 : decode cX4_isSoundAt 159 = .ok (.ifCond .eq 11, 3) := by decide +kernel
theorem dX4_isSoundAt_162 : decode cX4_isSoundAt 162 = .ok (.aload_n 0, 1) := by decide +kernel
theorem dX4_isSoundAt_163 : decode cX4_isSoundAt 163 = .ok (.iload_n 3, 1) := by decide +kernel
theorem dX4_isSoundAt_164 : decode cX4_isSoundAt 164 = .ok (.invokevirtual 56, 3) := by decide +kernel
theorem dX4_isSoundAt_167 : decode cX4_isSoundAt 167 = .ok (.ifCond .eq 7, 3) := by decide +kernel
theorem dX4_isSoundAt_170 : decode cX4_isSoundAt 170 = .ok (.iconst 1, 1) := by decide +kernel
theorem dX4_isSoundAt_171 : decode cX4_isSoundAt 171 = .ok (.goto 4, 3) := by decide +kernel
theorem dX4_isSoundAt_174 : decode cX4_isSoundAt 174 = .ok (.iconst 0, 1) := by decide +kernel
theorem dX4_isSoundAt_175 : decode cX4_isSoundAt 175 = .ok (.ireturn, 1) := by decide +kernel
theorem dX4_openLoop_0 : decode cX4_openLoop 0 = .ok (.iconst 1, 1) := by decide +kernel
theorem dX4_openLoop_1 : decode cX4_openLoop 1 = .ok (.iload_n 1, 1) := by decide +kernel
theorem dX4_openLoop_2 : decode cX4_openLoop 2 = .ok (.bipush 88, 2) := by decide +kernel
theorem dX4_openLoop_4 : decode cX4_openLoop 4 = .ok (.isub, 1) := by decide +kernel
theorem dX4_openLoop_5 : decode cX4_openLoop 5 = .ok (.ishl, 1) := by decide +kernel
theorem dX4_openLoop_6 : decode cX4_openLoop 6 = .ok (.istore_n 2, 1) := by decide +kernel
theorem dX4_openLoop_7 : decode cX4_openLoop 7 = .ok (.aload_n 0, 1) := by decide +kernel
theorem dX4_openLoop_8 : decode cX4_openLoop 8 = .ok (.getfield 22, 3) := by decide +kernel
theorem dX4_openLoop_11 : decode cX4_openLoop 11 = .ok (.iload_n 2, 1) := by decide +kernel
theorem dX4_openLoop_12 : decode cX4_openLoop 12 = .ok (.iand, 1) := by decide +kernel
theorem dX4_openLoop_13 : decode cX4_openLoop 13 = .ok (.ifCond .eq 5, 3) := by decide +kernel
theorem dX4_openLoop_16 : decode cX4_openLoop 16 = .ok (.iconst 0, 1) := by decide +kernel
theorem dX4_openLoop_17 : decode cX4_openLoop 17 = .ok (.ireturn, 1) := by decide +kernel
theorem dX4_openLoop_18 : decode cX4_openLoop 18 = .ok (.aload_n 0, 1) := by decide +kernel
theorem dX4_openLoop_19 : decode cX4_openLoop 19 = .ok (.dup, 1) := by decide +kernel
theorem dX4_openLoop_20 : decode cX4_openLoop 20 = .ok (.getfield 22, 3) := by decide +kernel
theorem dX4_openLoop_23 : decode cX4_openLoop 23 = .ok (.iload_n 2, 1) := by decide +kernel
theorem dX4_openLoop_24 : decode cX4_openLoop 24 = .ok (.ior, 1) := by decide +kernel
theorem dX4_openLoop_25 : decode cX4_openLoop 25 = .ok (.putfield 22, 3) := by decide +kernel
theorem dX4_openLoop_28 : decode cX4_openLoop 28 = .ok (.iconst 1, 1) := by decide +kernel
theorem dX4_openLoop_29 : decode cX4_openLoop 29 = .ok (.ireturn, 1) := by decide +kernel
theorem dX4_openMessage_0 : decode cX4_openMessage 0 = .ok (.aload_n 0, 1) := by decide +kernel
theorem dX4_openMessage_1 : decode cX4_openMessage 1 = .ok (.dup, 1) := by decide +kernel
theorem dX4_openMessage_2 : decode cX4_openMessage 2 = .ok (.getfield 18, 3) := by decide +kernel
theorem dX4_openMessage_5 : decode cX4_openMessage 5 = .ok (.iconst 1, 1) := by decide +kernel
theorem dX4_openMessage_6 : decode cX4_openMessage 6 = .ok (.iadd, 1) := by decide +kernel
theorem dX4_openMessage_7 : decode cX4_openMessage 7 = .ok (.putfield 18, 3) := by decide +kernel
theorem dX4_openMessage_10 : decode cX4_openMessage 10 = .ok (.aload_n 0, 1) := by decide +kernel
theorem dX4_openMessage_11 : decode cX4_openMessage 11 = .ok (.invokevirtual 50, 3) := by decide +kernel
theorem dX4_openMessage_14 : decode cX4_openMessage 14 = .ok (.ifCond .ne 5, 3) := by decide +kernel
theorem dX4_openMessage_17 : decode cX4_openMessage 17 = .ok (.iconst 0, 1) := by decide +kernel
theorem dX4_openMessage_18 : decode cX4_openMessage 18 = .ok (.ireturn, 1) := by decide +kernel
theorem dX4_openMessage_19 : decode cX4_openMessage 19 = .ok (.aload_n 0, 1) := by decide +kernel
theorem dX4_openMessage_20 : decode cX4_openMessage 20 = .ok (.getfield 9, 3) := by decide +kernel
theorem dX4_openMessage_23 : decode cX4_openMessage 23 = .ok (.aload_n 0, 1) := by decide +kernel
theorem dX4_openMessage_24 : decode cX4_openMessage 24 = .ok (.getfield 18, 3) := by decide +kernel
theorem dX4_openMessage_27 : decode cX4_openMessage 27 = .ok (.aload_n 0, 1) := by decide +kernel
theorem dX4_openMessage_28 : decode cX4_openMessage 28 = .ok (.getfield 22, 3) := by decide +kernel
theorem dX4_openMessage_31 : decode cX4_openMessage 31 = .ok (.iastore, 1) := by decide +kernel
theorem dX4_openMessage_32 : decode cX4_openMessage 32 = .ok (.aload_n 0, 1) := by decide +kernel
theorem dX4_openMessage_33 : decode cX4_openMessage 33 = .ok (.getfield 15, 3) := by decide +kernel
theorem dX4_openMessage_36 : decode cX4_openMessage 36 = .ok (.aload_n 0, 1) := by decide +kernel
theorem dX4_openMessage_37 : decode cX4_openMessage 37 = .ok (.getfield 18, 3) := by decide +kernel
theorem dX4_openMessage_40 : decode cX4_openMessage 40 = .ok (.iconst 0, 1) := by decide +kernel
theorem dX4_openMessage_41 : decode cX4_openMessage 41 = .ok (.iastore, 1) := by decide +kernel
theorem dX4_openMessage_42 : decode cX4_openMessage 42 = .ok (.iconst 1, 1) := by decide +kernel
theorem dX4_openMessage_43 : decode cX4_openMessage 43 = .ok (.ireturn, 1) := by decide +kernel
theorem dX4_openBranch_0 : decode cX4_openBranch 0 = .ok (.iconst 1, 1) := by decide +kernel
theorem dX4_openBranch_1 : decode cX4_openBranch 1 = .ok (.iload_n 1, 1) := by decide +kernel
theorem dX4_openBranch_2 : decode cX4_openBranch 2 = .ok (.bipush 112, 2) := by decide +kernel
theorem dX4_openBranch_4 : decode cX4_openBranch 4 = .ok (.isub, 1) := by decide +kernel
theorem dX4_openBranch_5 : decode cX4_openBranch 5 = .ok (.ishl, 1) := by decide +kernel
theorem dX4_openBranch_6 : decode cX4_openBranch 6 = .ok (.istore_n 2, 1) := by decide +kernel
theorem dX4_openBranch_7 : decode cX4_openBranch 7 = .ok (.aload_n 0, 1) := by decide +kernel
theorem dX4_openBranch_8 : decode cX4_openBranch 8 = .ok (.invokevirtual 50, 3) := by decide +kernel
theorem dX4_openBranch_11 : decode cX4_openBranch 11 = .ok (.ifCond .eq 17, 3) := by decide +kernel
theorem dX4_openBranch_14 : decode cX4_openBranch 14 = .ok (.aload_n 0, 1) := by decide +kernel
theorem dX4_openBranch_15 : decode cX4_openBranch 15 = .ok (.getfield 15, 3) := by decide +kernel
theorem dX4_openBranch_18 : decode cX4_openBranch 18 = .ok (.aload_n 0, 1) := by decide +kernel
theorem dX4_openBranch_19 : decode cX4_openBranch 19 = .ok (.getfield 18, 3) := by decide +kernel
theorem dX4_openBranch_22 : decode cX4_openBranch 22 = .ok (.iaload, 1) := by decide +kernel
theorem dX4_openBranch_23 : decode cX4_openBranch 23 = .ok (.iload_n 2, 1) := by decide +kernel
theorem dX4_openBranch_24 : decode cX4_openBranch 24 = .ok (.iand, 1) := by decide +kernel
theorem dX4_openBranch_25 : decode cX4_openBranch 25 = .ok (.ifCond .eq 5, 3) := by decide +kernel
theorem dX4_openBranch_28 : decode cX4_openBranch 28 = .ok (.iconst 0, 1) := by decide +kernel
theorem dX4_openBranch_29 : decode cX4_openBranch 29 = .ok (.ireturn, 1) := by decide +kernel
theorem dX4_openBranch_30 : decode cX4_openBranch 30 = .ok (.aload_n 0, 1) := by decide +kernel
theorem dX4_openBranch_31 : decode cX4_openBranch 31 = .ok (.getfield 15, 3) := by decide +kernel
theorem dX4_openBranch_34 : decode cX4_openBranch 34 = .ok (.aload_n 0, 1) := by decide +kernel
theorem dX4_openBranch_35 : decode cX4_openBranch 35 = .ok (.getfield 18, 3) := by decide +kernel
theorem dX4_openBranch_38 : decode cX4_openBranch 38 = .ok (.dup2, 1) := by decide +kernel
theorem dX4_openBranch_39 : decode cX4_openBranch 39 = .ok (.iaload, 1) := by decide +kernel
theorem dX4_openBranch_40 : decode cX4_openBranch 40 = .ok (.iload_n 2, 1) := by decide +kernel
theorem dX4_openBranch_41 : decode cX4_openBranch 41 = .ok (.ior, 1) := by decide +kernel
theorem dX4_openBranch_42 : decode cX4_openBranch 42 = .ok (.iastore, 1) := by decide +kernel
theorem dX4_openBranch_43 : decode cX4_openBranch 43 = .ok (.aload_n 0, 1) := by decide +kernel
theorem dX4_openBranch_44 : decode cX4_openBranch 44 = .ok (.aload_n 0, 1) := by decide +kernel
theorem dX4_openBranch_45 : decode cX4_openBranch 45 = .ok (.getfield 9, 3) := by decide +kernel
theorem dX4_openBranch_48 : decode cX4_openBranch 48 = .ok (.aload_n 0, 1) := by decide +kernel
theorem dX4_openBranch_49 : decode cX4_openBranch 49 = .ok (.getfield 18, 3) := by decide +kernel
theorem dX4_openBranch_52 : decode cX4_openBranch 52 = .ok (.iaload, 1) := by decide +kernel
theorem dX4_openBranch_53 : decode cX4_openBranch 53 = .ok (.putfield 22, 3) := by decide +kernel
theorem dX4_openBranch_56 : decode cX4_openBranch 56 = .ok (.iconst 1, 1) := by decide +kernel
theorem dX4_openBranch_57 : decode cX4_openBranch 57 = .ok (.ireturn, 1) := by decide +kernel
theorem dX4_isLoopAroundMessage_0 : decode cX4_isLoopAroundMessage 0 = .ok (.iconst 1, 1) := by decide +kernel
theorem dX4_isLoopAroundMessage_1 : decode cX4_isLoopAroundMessage 1 = .ok (.iload_n 1, 1) := by decide +kernel
theorem dX4_isLoopAroundMessage_2 : decode cX4_isLoopAroundMessage 2 = .ok (.bipush 88, 2) := by decide +kernel
theorem dX4_isLoopAroundMessage_4 : decode cX4_isLoopAroundMessage 4 = .ok (.isub, 1) := by decide +kernel
theorem dX4_isLoopAroundMessage_5 : decode cX4_isLoopAroundMessage 5 = .ok (.ishl, 1) := by decide +kernel
theorem dX4_isLoopAroundMessage_6 : decode cX4_isLoopAroundMessage 6 = .ok (.istore_n 2, 1) := by decide +kernel
theorem dX4_isLoopAroundMessage_7 : decode cX4_isLoopAroundMessage 7 = .ok (.aload_n 0, 1) := by decide +kernel
theorem dX4_isLoopAroundMessage_8 : decode cX4_isLoopAroundMessage 8 = .ok (.invokevirtual 50, 3) := by decide +kernel
theorem dX4_isLoopAroundMessage_11 : decode cX4_isLoopAroundMessage 11 = .ok (.ifCond .eq 21, 3) := by decide +kernel
theorem dX4_isLoopAroundMessage_14 : decode cX4_isLoopAroundMessage 14 = .ok (.aload_n 0, 1) := by decide +kernel
theorem dX4_isLoopAroundMessage_15 : decode cX4_isLoopAroundMessage 15 = .ok (.getfield 9, 3) := by decide +kernel
theorem dX4_isLoopAroundMessage_18 : decode cX4_isLoopAroundMessage 18 = .ok (.aload_n 0, 1) := by decide +kernel
theorem dX4_isLoopAroundMessage_19 : decode cX4_isLoopAroundMessage 19 = .ok (.getfield 18, 3) := by decide +kernel
theorem dX4_isLoopAroundMessage_22 : decode cX4_isLoopAroundMessage 22 = .ok (.iaload, 1) := by decide +kernel
theorem dX4_isLoopAroundMessage_23 : decode cX4_isLoopAroundMessage 23 = .ok (.iload_n 2, 1) := by decide +kernel
theorem dX4_isLoopAroundMessage_24 : decode cX4_isLoopAroundMessage 24 = .ok (.iand, 1) := by decide +kernel
theorem dX4_isLoopAroundMessage_25 : decode cX4_isLoopAroundMessage 25 = .ok (.ifCond .eq 7, 3) := by decide +kernel
theorem dX4_isLoopAroundMessage_28 : decode cX4_isLoopAroundMessage 28 = .ok (.iconst 1, 1) := by decide +kernel
theorem dX4_isLoopAroundMessage_29 : decode cX4_isLoopAroundMessage 29 = .ok (.goto 4, 3) := by decide +kernel
theorem dX4_isLoopAroundMessage_32 : decode cX4_isLoopAroundMessage 32 = .ok (.iconst 0, 1) := by decide +kernel
theorem dX4_isLoopAroundMessage_33 : decode cX4_isLoopAroundMessage 33 = .ok (.ireturn, 1) := by decide +kernel
theorem dX4_isInBounds_0 : decode cX4_isInBounds 0 = .ok (.aload_n 0, 1) := by decide +kernel
theorem dX4_isInBounds_1 : decode cX4_isInBounds 1 = .ok (.getfield 18, 3) := by decide +kernel
theorem dX4_isInBounds_4 : decode cX4_isInBounds 4 = .ok (.ifCond .lt 16, 3) := by decide +kernel
theorem dX4_isInBounds_7 : decode cX4_isInBounds 7 = .ok (.aload_n 0, 1) := by decide +kernel
theorem dX4_isInBounds_8 : decode cX4_isInBounds 8 = .ok (.getfield 18, 3) := by decide +kernel
theorem dX4_isInBounds_11 : decode cX4_isInBounds 11 = .ok (.bipush 60, 2) := by decide +kernel
theorem dX4_isInBounds_13 : decode cX4_isInBounds 13 = .ok (.if_icmp .ge 7, 3) := by decide +kernel
theorem dX4_isInBounds_16 : decode cX4_isInBounds 16 = .ok (.iconst 1, 1) := by decide +kernel
theorem dX4_isInBounds_17 : decode cX4_isInBounds 17 = .ok (.goto 4, 3) := by decide +kernel
theorem dX4_isInBounds_20 : decode cX4_isInBounds 20 = .ok (.iconst 0, 1) := by decide +kernel
theorem dX4_isInBounds_21 : decode cX4_isInBounds 21 = .ok (.ireturn, 1) := by decide +kernel
theorem dX5_init_0 : decode cX5_init 0 = .ok (.aload_n 0, 1) := by decide +kernel
theorem dX5_init_1 : decode cX5_init 1 = .ok (.invokespecial 3, 3) := by decide +kernel
theorem dX5_init_4 : decode cX5_init 4 = .ok (.aload_n 0, 1) := by decide +kernel
theorem dX5_init_5 : decode cX5_init 5 = .ok (.bipush 60, 2) := by decide +kernel
theorem dX5_init_7 : decode cX5_init 7 = .ok (.newarray .char, 2) := by decide +kernel
theorem dX5_init_9 : decode cX5_init 9 = .ok (.putfield 9, 3) := by decide +kernel
theorem dX5_init_12 : decode cX5_init 12 = .ok (.aload_n 0, 1) := by decide +kernel
theorem dX5_init_13 : decode cX5_init 13 = .ok (.iconst 0, 1) := by decide +kernel
theorem dX5_init_14 : decode cX5_init 14 = .ok (.putfield 15, 3) := by decide +kernel
theorem dX5_init_17 : decode cX5_init 17 = .ok (.return_, 1) := by decide +kernel
theorem dX5_size_0 : decode cX5_size 0 = .ok (.aload_n 0, 1) := by decide +kernel
theorem dX5_size_1 : decode cX5_size 1 = .ok (.getfield 15, 3) := by decide +kernel
theorem dX5_size_4 : decode cX5_size 4 = .ok (.ireturn, 1) := by decide +kernel
theorem dX5_get_0 : decode cX5_get 0 = .ok (.iload_n 1, 1) := by decide +kernel
theorem dX5_get_1 : decode cX5_get 1 = .ok (.ifCond .lt 20, 3) := by decide +kernel
theorem dX5_get_4 : decode cX5_get 4 = .ok (.iload_n 1, 1) := by decide +kernel
theorem dX5_get_5 : decode cX5_get 5 = .ok (.aload_n 0, 1) := by decide +kernel
theorem dX5_get_6 : decode cX5_get 6 = .ok (.getfield 15, 3) := by decide +kernel
theorem dX5_get_9 : decode cX5_get 9 = .ok (.if_icmp .ge 12, 3) := by decide +kernel
theorem dX5_get_12 : decode cX5_get 12 = .ok (.aload_n 0, 1) := by decide +kernel
theorem dX5_get_13 : decode cX5_get 13 = .ok (.getfield 9, 3) := by decide +kernel
theorem dX5_get_16 : decode cX5_get 16 = .ok (.iload_n 1, 1) := by decide +kernel
theorem dX5_get_17 : decode cX5_get 17 = .ok (.caload, 1) := by decide +kernel
theorem dX5_get_18 : decode cX5_get 18 = .ok (.goto 4, 3) := by decide +kernel
theorem dX5_get_21 : decode cX5_get 21 = .ok (.iconst 0, 1) := by decide +kernel
theorem dX5_get_22 : decode cX5_get 22 = .ok (.ireturn, 1) := by decide +kernel
theorem dX5_append_0 : decode cX5_append 0 = .ok (.aload_n 0, 1) := by decide +kernel
theorem dX5_append_1 : decode cX5_append 1 = .ok (.aload_n 0, 1) := by decide +kernel
theorem dX5_append_2 : decode cX5_append 2 = .ok (.getfield 15, 3) := by decide +kernel
theorem dX5_append_5 : decode cX5_append 5 = .ok (.iload_n 1, 1) := by decide +kernel
theorem dX5_append_6 : decode cX5_append 6 = .ok (.invokevirtual 19, 3) := by decide +kernel
theorem dX5_append_9 : decode cX5_append 9 = .ok (.ireturn, 1) := by decide +kernel
theorem dX5_insert_0 : decode cX5_insert 0 = .ok (.aload_n 0, 1) := by decide +kernel
theorem dX5_insert_1 : decode cX5_insert 1 = .ok (.getfield 15, 3) := by decide +kernel
theorem dX5_insert_4 : decode cX5_insert 4 = .ok (.bipush 60, 2) := by decide +kernel
theorem dX5_insert_6 : decode cX5_insert 6 = .ok (.if_icmp .ge 15, 3) := by decide +kernel
theorem dX5_insert_9 : decode cX5_insert 9 = .ok (.iload_n 1, 1) := by decide +kernel
theorem dX5_insert_10 : decode cX5_insert 10 = .ok (.ifCond .lt 11, 3) := by decide +kernel
theorem dX5_insert_13 : decode cX5_insert 13 = .ok (.iload_n 1, 1) := by decide +kernel
theorem dX5_insert_14 : decode cX5_insert 14 = .ok (.aload_n 0, 1) := by decide +kernel
theorem dX5_insert_15 : decode cX5_insert 15 = .ok (.getfield 15, 3) := by decide +kernel
theorem dX5_insert_18 : decode cX5_insert 18 = .ok (.if_icmp .le 5, 3) := by decide +kernel
theorem dX5_insert_21 : decode cX5_insert 21 = .ok (.iconst 0, 1) := by decide +kernel
theorem dX5_insert_22 : decode cX5_insert 22 = .ok (.ireturn, 1) := by decide +kernel
theorem dX5_insert_23 : decode cX5_insert 23 = .ok (.aload_n 0, 1) := by decide +kernel
theorem dX5_insert_24 : decode cX5_insert 24 = .ok (.getfield 15, 3) := by decide +kernel
theorem dX5_insert_27 : decode cX5_insert 27 = .ok (.istore_n 3, 1) := by decide +kernel
theorem dX5_insert_28 : decode cX5_insert 28 = .ok (.iload_n 3, 1) := by decide +kernel
theorem dX5_insert_29 : decode cX5_insert 29 = .ok (.iload_n 1, 1) := by decide +kernel
theorem dX5_insert_30 : decode cX5_insert 30 = .ok (.if_icmp .le 23, 3) := by decide +kernel
theorem dX5_insert_33 : decode cX5_insert 33 = .ok (.aload_n 0, 1) := by decide +kernel
theorem dX5_insert_34 : decode cX5_insert 34 = .ok (.getfield 9, 3) := by decide +kernel
theorem dX5_insert_37 : decode cX5_insert 37 = .ok (.iload_n 3, 1) := by decide +kernel
theorem dX5_insert_38 : decode cX5_insert 38 = .ok (.aload_n 0, 1) := by decide +kernel
theorem dX5_insert_39 : decode cX5_insert 39 = .ok (.getfield 9, 3) := by decide +kernel
theorem dX5_insert_42 : decode cX5_insert 42 = .ok (.iload_n 3, 1) := by decide +kernel
theorem dX5_insert_43 : decode cX5_insert 43 = .ok (.iconst 1, 1) := by decide +kernel
theorem dX5_insert_44 : decode cX5_insert 44 = .ok (.isub, 1) := by decide +kernel
theorem dX5_insert_45 : decode cX5_insert 45 = .ok (.caload, 1) := by decide +kernel
theorem dX5_insert_46 : decode cX5_insert 46 = .ok (.castore, 1) := by decide +kernel
theorem dX5_insert_47 : decode cX5_insert 47 = .ok (.iinc 3 (-1), 3) := by decide +kernel
theorem dX5_insert_50 : decode cX5_insert 50 = .ok (.goto (-22), 3) := by decide +kernel
theorem dX5_insert_53 : decode cX5_insert 53 = .ok (.aload_n 0, 1) := by decide +kernel
theorem dX5_insert_54 : decode cX5_insert 54 = .ok (.getfield 9, 3) := by decide +kernel
theorem dX5_insert_57 : decode cX5_insert 57 = .ok (.iload_n 1, 1) := by decide +kernel
theorem dX5_insert_58 : decode cX5_insert 58 = .ok (.iload_n 2, 1) := by decide +kernel
theorem dX5_insert_59 : decode cX5_insert 59 = .ok (.castore, 1) := by decide +kernel
theorem dX5_insert_60 : decode cX5_insert 60 = .ok (.aload_n 0, 1) := by decide +kernel
theorem dX5_insert_61 : decode cX5_insert 61 = .ok (.dup, 1) := by decide +kernel
theorem dX5_insert_62 : decode cX5_insert 62 = .ok (.getfield 15, 3) := by decide +kernel
theorem dX5_insert_65 : decode cX5_insert 65 = .ok (.iconst 1, 1) := by decide +kernel
theorem dX5_insert_66 : decode cX5_insert 66 = .ok (.iadd, 1) := by decide +kernel
theorem dX5_insert_67 : decode cX5_insert 67 = .ok (.putfield 15, 3) := by decide +kernel
theorem dX5_insert_70 : decode cX5_insert 70 = .ok (.iconst 1, 1) := by decide +kernel
theorem dX5_insert_71 : decode cX5_insert 71 = .ok (.ireturn, 1) := by decide +kernel
theorem dX5_shorten_0 : decode cX5_shorten 0 = .ok (.iload_n 1, 1) := by decide +kernel
theorem dX5_shorten_1 : decode cX5_shorten 1 = .ok (.ifCond .lt 16, 3) := by decide +kernel
theorem dX5_shorten_4 : decode cX5_shorten 4 = .ok (.iload_n 1, 1) := by decide +kernel
theorem dX5_shorten_5 : decode cX5_shorten 5 = .ok (.aload_n 0, 1) := by decide +kernel
theorem dX5_shorten_6 : decode cX5_shorten 6 = .ok (.getfield 15, 3) := by decide +kernel
theorem dX5_shorten_9 : decode cX5_shorten 9 = .ok (.if_icmp .ge 8, 3) := by decide +kernel
theorem dX5_shorten_12 : decode cX5_shorten 12 = .ok (.aload_n 0, 1) := by decide +kernel
theorem dX5_shorten_13 : decode cX5_shorten 13 = .ok (.iload_n 1, 1) := by decide +kernel
theorem dX5_shorten_14 : decode cX5_shorten 14 = .ok (.putfield 15, 3) := by decide +kernel
theorem dX5_shorten_17 : decode cX5_shorten 17 = .ok (.return_, 1) := by decide +kernel
theorem dX5_countOf_0 : decode cX5_countOf 0 = .ok (.iconst 0, 1) := by decide +kernel
theorem dX5_countOf_1 : decode cX5_countOf 1 = .ok (.istore_n 2, 1) := by decide +kernel
theorem dX5_countOf_2 : decode cX5_countOf 2 = .ok (.iconst 0, 1) := by decide +kernel
theorem dX5_countOf_3 : decode cX5_countOf 3 = .ok (.istore_n 3, 1) := by decide +kernel
theorem dX5_countOf_4 : decode cX5_countOf 4 = .ok (.iload_n 3, 1) := by decide +kernel
theorem dX5_countOf_5 : decode cX5_countOf 5 = .ok (.aload_n 0, 1) := by decide +kernel
theorem dX5_countOf_6 : decode cX5_countOf 6 = .ok (.getfield 15, 3) := by decide +kernel
theorem dX5_countOf_9 : decode cX5_countOf 9 = .ok (.if_icmp .ge 21, 3) := by decide +kernel
theorem dX5_countOf_12 : decode cX5_countOf 12 = .ok (.aload_n 0, 1) := by decide +kernel
theorem dX5_countOf_13 : decode cX5_countOf 13 = .ok (.iload_n 3, 1) := by decide +kernel
theorem dX5_countOf_14 : decode cX5_countOf 14 = .ok (.invokevirtual 23, 3) := by decide +kernel
theorem dX5_countOf_17 : decode cX5_countOf 17 = .ok (.iload_n 1, 1) := by decide +kernel
theorem dX5_countOf_18 : decode cX5_countOf 18 = .ok (.if_icmp .ne 6, 3) := by decide +kernel
theorem dX5_countOf_21 : decode cX5_countOf 21 = .ok (.iinc 2 1, 3) := by decide +kernel
theorem dX5_countOf_24 : decode cX5_countOf 24 = .ok (.iinc 3 1, 3) := by decide +kernel
theorem dX5_countOf_27 : decode cX5_countOf 27 = .ok (.goto (-23), 3) := by decide +kernel
theorem dX5_countOf_30 : decode cX5_countOf 30 = .ok (.iload_n 2, 1) := by decide +kernel
theorem dX5_countOf_31 : decode cX5_countOf 31 = .ok (.ireturn, 1) := by decide +kernel
theorem dX5_hasFrom_0 : decode cX5_hasFrom 0 = .ok (.iload_n 1, 1) := by decide +kernel
theorem dX5_hasFrom_1 : decode cX5_hasFrom 1 = .ok (.istore_n 3, 1) := by decide +kernel
theorem dX5_hasFrom_2 : decode cX5_hasFrom 2 = .ok (.iload_n 3, 1) := by decide +kernel
theorem dX5_hasFrom_3 : decode cX5_hasFrom 3 = .ok (.aload_n 0, 1) := by decide +kernel
theorem dX5_hasFrom_4 : decode cX5_hasFrom 4 = .ok (.getfield 15, 3) := by decide +kernel
theorem dX5_hasFrom_7 : decode cX5_hasFrom 7 = .ok (.if_icmp .ge 20, 3) := by decide +kernel
theorem dX5_hasFrom_10 : decode cX5_hasFrom 10 = .ok (.aload_n 0, 1) := by decide +kernel
theorem dX5_hasFrom_11 : decode cX5_hasFrom 11 = .ok (.iload_n 3, 1) := by decide +kernel
theorem dX5_hasFrom_12 : decode cX5_hasFrom 12 = .ok (.invokevirtual 23, 3) := by decide +kernel
theorem dX5_hasFrom_15 : decode cX5_hasFrom 15 = .ok (.iload_n 2, 1) := by decide +kernel
theorem dX5_hasFrom_16 : decode cX5_hasFrom 16 = .ok (.if_icmp .ne 5, 3) := by decide +kernel
theorem dX5_hasFrom_19 : decode cX5_hasFrom 19 = .ok (.iconst 1, 1) := by decide +kernel
theorem dX5_hasFrom_20 : decode cX5_hasFrom 20 = .ok (.ireturn, 1) := by decide +kernel
theorem dX5_hasFrom_21 : decode cX5_hasFrom 21 = .ok (.iinc 3 1, 3) := by decide +kernel
theorem dX5_hasFrom_24 : decode cX5_hasFrom 24 = .ok (.goto (-22), 3) := by decide +kernel
theorem dX5_hasFrom_27 : decode cX5_hasFrom 27 = .ok (.iconst 0, 1) := by decide +kernel
theorem dX5_hasFrom_28 : decode cX5_hasFrom 28 = .ok (.ireturn, 1) := by decide +kernel
theorem dX5_isTwice_0 : decode cX5_isTwice 0 = .ok (.iload_n 2, 1) := by decide +kernel
theorem dX5_isTwice_1 : decode cX5_isTwice 1 = .ok (.iload_n 1, 1) := by decide +kernel
theorem dX5_isTwice_2 : decode cX5_isTwice 2 = .ok (.isub, 1) := by decide +kernel
theorem dX5_isTwice_3 : decode cX5_isTwice 3 = .ok (.istore_n 3, 1) := by decide +kernel
theorem dX5_isTwice_4 : decode cX5_isTwice 4 = .ok (.aload_n 0, 1) := by decide +kernel
theorem dX5_isTwice_5 : decode cX5_isTwice 5 = .ok (.getfield 15, 3) := by decide +kernel
theorem dX5_isTwice_8 : decode cX5_isTwice 8 = .ok (.iload_n 2, 1) := by decide +kernel
theorem dX5_isTwice_9 : decode cX5_isTwice 9 = .ok (.isub, 1) := by decide +kernel
theorem dX5_isTwice_10 : decode cX5_isTwice 10 = .ok (.iload_n 3, 1) := by decide +kernel
theorem dX5_isTwice_11 : decode cX5_isTwice 11 = .ok (.if_icmp .eq 5, 3) := by decide +kernel
theorem dX5_isTwice_14 : decode cX5_isTwice 14 = .ok (.iconst 0, 1) := by decide +kernel
theorem dX5_isTwice_15 : decode cX5_isTwice 15 = .ok (.ireturn, 1) := by decide +kernel
theorem dX5_isTwice_16 : decode cX5_isTwice 16 = .ok (.iconst 0, 1) := by decide +kernel
theorem dX5_isTwice_17 : decode cX5_isTwice 17 = .ok (.istore 4, 2) := by decide +kernel
theorem dX5_isTwice_19 : decode cX5_isTwice 19 = .ok (.iload 4, 2) := by decide +kernel
theorem dX5_isTwice_21 : decode cX5_isTwice 21 = .ok (.iload_n 3, 1) := by decide +kernel
theorem dX5_isTwice_22 : decode cX5_isTwice 22 = .ok (.if_icmp .ge 30, 3) := by decide +kernel
theorem dX5_isTwice_25 : decode cX5_isTwice 25 = .ok (.aload_n 0, 1) := by decide +kernel
theorem dX5_isTwice_26 : decode cX5_isTwice 26 = .ok (.iload_n 1, 1) := by decide +kernel
theorem dX5_isTwice_27 : decode cX5_isTwice 27 = .ok (.iload 4, 2) := by decide +kernel
theorem dX5_isTwice_29 : decode cX5_isTwice 29 = .ok (.iadd, 1) := by decide +kernel
theorem dX5_isTwice_30 : decode cX5_isTwice 30 = .ok (.invokevirtual 23, 3) := by decide +kernel
theorem dX5_isTwice_33 : decode cX5_isTwice 33 = .ok (.aload_n 0, 1) := by decide +kernel
theorem dX5_isTwice_34 : decode cX5_isTwice 34 = .ok (.iload_n 2, 1) := by decide +kernel
theorem dX5_isTwice_35 : decode cX5_isTwice 35 = .ok (.iload 4, 2) := by decide +kernel
theorem dX5_isTwice_37 : decode cX5_isTwice 37 = .ok (.iadd, 1) := by decide +kernel
theorem dX5_isTwice_38 : decode cX5_isTwice 38 = .ok (.invokevirtual 23, 3) := by decide +kernel
theorem dX5_isTwice_41 : decode cX5_isTwice 41 = .ok (.if_icmp .eq 5, 3) := by decide +kernel
theorem dX5_isTwice_44 : decode cX5_isTwice 44 = .ok (.iconst 0, 1) := by decide +kernel
theorem dX5_isTwice_45 : decode cX5_isTwice 45 = .ok (.ireturn, 1) := by decide +kernel
theorem dX5_isTwice_46 : decode cX5_isTwice 46 = .ok (.iinc 4 1, 3) := by decide +kernel
theorem dX5_isTwice_49 : decode cX5_isTwice 49 = .ok (.goto (-30), 3) := by decide +kernel
theorem dX5_isTwice_52 : decode cX5_isTwice 52 = .ok (.iconst 1, 1) := by decide +kernel
theorem dX5_isTwice_53 : decode cX5_isTwice 53 = .ok (.ireturn, 1) := by decide +kernel
theorem dX6_init_0 : decode cX6_init 0 = .ok (.aload_n 0, 1) := by decide +kernel
theorem dX6_init_1 : decode cX6_init 1 = .ok (.invokespecial 1, 3) := by decide +kernel
theorem dX6_init_4 : decode cX6_init 4 = .ok (.aload_n 0, 1) := by decide +kernel
theorem dX6_init_5 : decode cX6_init 5 = .ok (.new 7, 3) := by decide +kernel
theorem dX6_init_8 : decode cX6_init 8 = .ok (.dup, 1) := by decide +kernel
theorem dX6_init_9 : decode cX6_init 9 = .ok (.invokespecial 9, 3) := by decide +kernel
theorem dX6_init_12 : decode cX6_init 12 = .ok (.putfield 10, 3) := by decide +kernel
theorem dX6_init_15 : decode cX6_init 15 = .ok (.aload_n 0, 1) := by decide +kernel
theorem dX6_init_16 : decode cX6_init 16 = .ok (.new 16, 3) := by decide +kernel
theorem dX6_init_19 : decode cX6_init 19 = .ok (.dup, 1) := by decide +kernel
theorem dX6_init_20 : decode cX6_init 20 = .ok (.invokespecial 18, 3) := by decide +kernel
theorem dX6_init_23 : decode cX6_init 23 = .ok (.putfield 19, 3) := by decide +kernel
theorem dX6_init_26 : decode cX6_init 26 = .ok (.aload_n 0, 1) := by decide +kernel
theorem dX6_init_27 : decode cX6_init 27 = .ok (.new 23, 3) := by decide +kernel
theorem dX6_init_30 : decode cX6_init 30 = .ok (.dup, 1) := by decide +kernel
theorem dX6_init_31 : decode cX6_init 31 = .ok (.invokespecial 25, 3) := by decide +kernel
theorem dX6_init_34 : decode cX6_init 34 = .ok (.putfield 26, 3) := by decide +kernel
theorem dX6_init_37 : decode cX6_init 37 = .ok (.aload_n 0, 1) := by decide +kernel
theorem dX6_init_38 : decode cX6_init 38 = .ok (.iconst 4, 1) := by decide +kernel
theorem dX6_init_39 : decode cX6_init 39 = .ok (.anewarray 30, 3) := by decide +kernel
theorem dX6_init_42 : decode cX6_init 42 = .ok (.putfield 32, 3) := by decide +kernel
theorem dX6_init_45 : decode cX6_init 45 = .ok (.aload_n 0, 1) := by decide +kernel
theorem dX6_init_46 : decode cX6_init 46 = .ok (.iconst 4, 1) := by decide +kernel
theorem dX6_init_47 : decode cX6_init 47 = .ok (.anewarray 36, 3) := by decide +kernel
theorem dX6_init_50 : decode cX6_init 50 = .ok (.putfield 38, 3) := by decide +kernel
theorem dX6_init_53 : decode cX6_init 53 = .ok (.aload_n 0, 1) := by decide +kernel
theorem dX6_init_54 : decode cX6_init 54 = .ok (.bipush 16, 2) := by decide +kernel
theorem dX6_init_56 : decode cX6_init 56 = .ok (.anewarray 42, 3) := by decide +kernel
theorem dX6_init_59 : decode cX6_init 59 = .ok (.putfield 44, 3) := by decide +kernel
theorem dX6_init_62 : decode cX6_init 62 = .ok (.aload_n 0, 1) := by decide +kernel
theorem dX6_init_63 : decode cX6_init 63 = .ok (.iconst (-1), 1) := by decide +kernel
theorem dX6_init_64 : decode cX6_init 64 = .ok (.putfield 48, 3) := by decide +kernel
theorem dX6_init_67 : decode cX6_init 67 = .ok (.aload_n 0, 1) := by decide +kernel
theorem dX6_init_68 : decode cX6_init 68 = .ok (.iconst 0, 1) := by decide +kernel
theorem dX6_init_69 : decode cX6_init 69 = .ok (.putfield 52, 3) := by decide +kernel
theorem dX6_init_72 : decode cX6_init 72 = .ok (.aload_n 0, 1) := by decide +kernel
theorem dX6_init_73 : decode cX6_init 73 = .ok (.iconst 0, 1) := by decide +kernel
theorem dX6_init_74 : decode cX6_init 74 = .ok (.putfield 56, 3) := by decide +kernel
theorem dX6_init_77 : decode cX6_init 77 = .ok (.iconst 0, 1) := by decide +kernel
theorem dX6_init_78 : decode cX6_init 78 = .ok (.istore_n 1, 1) := by decide +kernel
theorem dX6_init_79 : decode cX6_init 79 = .ok (.iload_n 1, 1) := by decide +kernel
theorem dX6_init_80 : decode cX6_init 80 = .ok (.iconst 4, 1) := by decide +kernel
theorem dX6_init_81 : decode cX6_init 81 = .ok (.if_icmp .ge 54, 3) := by decide +kernel
theorem dX6_init_84 : decode cX6_init 84 = .ok (.new 7, 3) := by decide +kernel
theorem dX6_init_87 : decode cX6_init 87 = .ok (.dup, 1) := by decide +kernel
theorem dX6_init_88 : decode cX6_init 88 = .ok (.invokespecial 9, 3) := by decide +kernel
theorem dX6_init_91 : decode cX6_init 91 = .ok (.astore_n 2, 1) := by decide +kernel
theorem dX6_init_92 : decode cX6_init 92 = .ok (.aload_n 0, 1) := by decide +kernel
theorem dX6_init_93 : decode cX6_init 93 = .ok (.getfield 32, 3) := by decide +kernel
theorem dX6_init_96 : decode cX6_init 96 = .ok (.iload_n 1, 1) := by decide +kernel
theorem dX6_init_97 : decode cX6_init 97 = .ok (.new 30, 3) := by decide +kernel
theorem dX6_init_100 : decode cX6_init 100 = .ok (.dup, 1) := by decide +kernel
theorem dX6_init_101 : decode cX6_init 101 = .ok (.aload_n 2, 1) := by decide +kernel
theorem dX6_init_102 : decode cX6_init 102 = .ok (.invokespecial 59, 3) := by decide +kernel
theorem dX6_init_105 : decode cX6_init 105 = .ok (.aastore, 1) := by decide +kernel
theorem dX6_init_106 : decode cX6_init 106 = .ok (.aload_n 0, 1) := by decide +kernel
theorem dX6_init_107 : decode cX6_init 107 = .ok (.getfield 38, 3) := by decide +kernel
theorem dX6_init_110 : decode cX6_init 110 = .ok (.iload_n 1, 1) := by decide +kernel
theorem dX6_init_111 : decode cX6_init 111 = .ok (.new 36, 3) := by decide +kernel
theorem dX6_init_114 : decode cX6_init 114 = .ok (.dup, 1) := by decide +kernel
theorem dX6_init_115 : decode cX6_init 115 = .ok (.aload_n 0, 1) := by decide +kernel
theorem dX6_init_116 : decode cX6_init 116 = .ok (.getfield 10, 3) := by decide +kernel
theorem dX6_init_119 : decode cX6_init 119 = .ok (.bipush 65, 2) := by decide +kernel
theorem dX6_init_121 : decode cX6_init 121 = .ok (.iload_n 1, 1) := by decide +kernel
theorem dX6_init_122 : decode cX6_init 122 = .ok (.iadd, 1) := by decide +kernel
theorem dX6_init_123 : decode cX6_init 123 = .ok (.i2c, 1) := by decide +kernel
theorem dX6_init_124 : decode cX6_init 124 = .ok (.aload_n 2, 1) := by decide +kernel
theorem dX6_init_125 : decode cX6_init 125 = .ok (.invokespecial 62, 3) := by decide +kernel
theorem dX6_init_128 : decode cX6_init 128 = .ok (.aastore, 1) := by decide +kernel
theorem dX6_init_129 : decode cX6_init 129 = .ok (.iinc 1 1, 3) := by decide +kernel
theorem dX6_init_132 : decode cX6_init 132 = .ok (.goto (-53), 3) := by decide +kernel
theorem dX6_init_135 : decode cX6_init 135 = .ok (.iconst 0, 1) := by decide +kernel
theorem dX6_init_136 : decode cX6_init 136 = .ok (.istore_n 1, 1) := by decide +kernel
theorem dX6_init_137 : decode cX6_init 137 = .ok (.iload_n 1, 1) := by decide +kernel
theorem dX6_init_138 : decode cX6_init 138 = .ok (.bipush 16, 2) := by decide +kernel
theorem dX6_init_140 : decode cX6_init 140 = .ok (.if_icmp .ge 22, 3) := by decide +kernel
theorem dX6_init_143 : decode cX6_init 143 = .ok (.aload_n 0, 1) := by decide +kernel
theorem dX6_init_144 : decode cX6_init 144 = .ok (.getfield 44, 3) := by decide +kernel
theorem dX6_init_147 : decode cX6_init 147 = .ok (.iload_n 1, 1) := by decide +kernel
theorem dX6_init_148 : decode cX6_init 148 = .ok (.new 42, 3) := by decide +kernel
theorem dX6_init_151 : decode cX6_init 151 = .ok (.dup, 1) := by decide +kernel
theorem dX6_init_152 : decode cX6_init 152 = .ok (.invokespecial 65, 3) := by decide +kernel
theorem dX6_init_155 : decode cX6_init 155 = .ok (.aastore, 1) := by decide +kernel
theorem dX6_init_156 : decode cX6_init 156 = .ok (.iinc 1 1, 3) := by decide +kernel
theorem dX6_init_159 : decode cX6_init 159 = .ok (.goto (-22), 3) := by decide +kernel
theorem dX6_init_162 : decode cX6_init 162 = .ok (.return_, 1) := by decide +kernel
theorem dX6_type_0 : decode cX6_type 0 = .ok (.iload_n 1, 1) := by decide +kernel
theorem dX6_type_1 : decode cX6_type 1 = .ok (.bipush 32, 2) := by decide +kernel
theorem dX6_type_3 : decode cX6_type 3 = .ok (.if_icmp .lt 24, 3) := by decide +kernel
theorem dX6_type_6 : decode cX6_type 6 = .ok (.iload_n 1, 1) := by decide +kernel
theorem dX6_type_7 : decode cX6_type 7 = .ok (.bipush 126, 2) := by decide +kernel
theorem dX6_type_9 : decode cX6_type 9 = .ok (.if_icmp .gt 18, 3) := by decide +kernel
theorem dX6_type_12 : decode cX6_type 12 = .ok (.aload_n 0, 1) := by decide +kernel
theorem dX6_type_13 : decode cX6_type 13 = .ok (.getfield 10, 3) := by decide +kernel
theorem dX6_type_16 : decode cX6_type 16 = .ok (.iload_n 1, 1) := by decide +kernel
theorem dX6_type_17 : decode cX6_type 17 = .ok (.invokevirtual 66, 3) := by decide +kernel
theorem dX6_type_20 : decode cX6_type 20 = .ok (.ifCond .eq 7, 3) := by decide +kernel
theorem dX6_type_23 : decode cX6_type 23 = .ok (.iconst 1, 1) := by decide +kernel
theorem dX6_type_24 : decode cX6_type 24 = .ok (.goto 4, 3) := by decide +kernel
theorem dX6_type_27 : decode cX6_type 27 = .ok (.iconst 0, 1) := by decide +kernel
theorem dX6_type_28 : decode cX6_type 28 = .ok (.ireturn, 1) := by decide +kernel
end
section
theorem dX6_define_0 : decode cX6_define 0 = .ok (.aload_n 0, 1) := by decide +kernel
theorem dX6_define_1 : decode cX6_define 1 = .ok (.invokevirtual 70, 3) := by decide +kernel
theorem dX6_define_4 : decode cX6_define 4 = .ok (.istore_n 1, 1) := by decide +kernel
theorem dX6_define_5 : decode cX6_define 5 = .ok (.iload_n 1, 1) := by decide +kernel
theorem dX6_define_6 : decode cX6_define 6 = .ok (.iconst (-1), 1) := by decide +kernel
theorem dX6_define_7 : decode cX6_define 7 = .ok (.if_icmp .ne 7, 3) := by decide +kernel
theorem dX6_define_10 : decode cX6_define 10 = .ok (.aload_n 0, 1) := by decide +kernel
theorem dX6_define_11 : decode cX6_define 11 = .ok (.invokevirtual 74, 3) := by decide +kernel
theorem dX6_define_14 : decode cX6_define 14 = .ok (.aload_n 0, 1) := by decide +kernel
theorem dX6_define_15 : decode cX6_define 15 = .ok (.getfield 10, 3) := by decide +kernel
theorem dX6_define_18 : decode cX6_define 18 = .ok (.iconst 0, 1) := by decide +kernel
theorem dX6_define_19 : decode cX6_define 19 = .ok (.invokevirtual 77, 3) := by decide +kernel
theorem dX6_define_22 : decode cX6_define 22 = .ok (.iload_n 1, 1) := by decide +kernel
theorem dX6_define_23 : decode cX6_define 23 = .ok (.ireturn, 1) := by decide +kernel
theorem dX6_messages_0 : decode cX6_messages 0 = .ok (.aload_n 0, 1) := by decide +kernel
theorem dX6_messages_1 : decode cX6_messages 1 = .ok (.getfield 48, 3) := by decide +kernel
theorem dX6_messages_4 : decode cX6_messages 4 = .ok (.ireturn, 1) := by decide +kernel
theorem dX6_length_0 : decode cX6_length 0 = .ok (.aload_n 0, 1) := by decide +kernel
theorem dX6_length_1 : decode cX6_length 1 = .ok (.iload_n 1, 1) := by decide +kernel
theorem dX6_length_2 : decode cX6_length 2 = .ok (.invokevirtual 81, 3) := by decide +kernel
theorem dX6_length_5 : decode cX6_length 5 = .ok (.ifCond .eq 18, 3) := by decide +kernel
theorem dX6_length_8 : decode cX6_length 8 = .ok (.aload_n 0, 1) := by decide +kernel
theorem dX6_length_9 : decode cX6_length 9 = .ok (.getfield 32, 3) := by decide +kernel
theorem dX6_length_12 : decode cX6_length 12 = .ok (.iload_n 1, 1) := by decide +kernel
theorem dX6_length_13 : decode cX6_length 13 = .ok (.aaload, 1) := by decide +kernel
theorem dX6_length_14 : decode cX6_length 14 = .ok (.getfield 85, 3) := by decide +kernel
theorem dX6_length_17 : decode cX6_length 17 = .ok (.invokevirtual 88, 3) := by decide +kernel
theorem dX6_length_20 : decode cX6_length 20 = .ok (.goto 4, 3) := by decide +kernel
theorem dX6_length_23 : decode cX6_length 23 = .ok (.iconst (-1), 1) := by decide +kernel
theorem dX6_length_24 : decode cX6_length 24 = .ok (.ireturn, 1) := by decide +kernel
theorem dX6_charAt_0 : decode cX6_charAt 0 = .ok (.aload_n 0, 1) := by decide +kernel
theorem dX6_charAt_1 : decode cX6_charAt 1 = .ok (.iload_n 1, 1) := by decide +kernel
theorem dX6_charAt_2 : decode cX6_charAt 2 = .ok (.invokevirtual 81, 3) := by decide +kernel
theorem dX6_charAt_5 : decode cX6_charAt 5 = .ok (.ifCond .eq 23, 3) := by decide +kernel
theorem dX6_charAt_8 : decode cX6_charAt 8 = .ok (.iload_n 2, 1) := by decide +kernel
theorem dX6_charAt_9 : decode cX6_charAt 9 = .ok (.ifCond .lt 19, 3) := by decide +kernel
theorem dX6_charAt_12 : decode cX6_charAt 12 = .ok (.iload_n 2, 1) := by decide +kernel
theorem dX6_charAt_13 : decode cX6_charAt 13 = .ok (.aload_n 0, 1) := by decide +kernel
theorem dX6_charAt_14 : decode cX6_charAt 14 = .ok (.getfield 32, 3) := by decide +kernel
theorem dX6_charAt_17 : decode cX6_charAt 17 = .ok (.iload_n 1, 1) := by decide +kernel
theorem dX6_charAt_18 : decode cX6_charAt 18 = .ok (.aaload, 1) := by decide +kernel
theorem dX6_charAt_19 : decode cX6_charAt 19 = .ok (.getfield 85, 3) := by decide +kernel
theorem dX6_charAt_22 : decode cX6_charAt 22 = .ok (.invokevirtual 88, 3) := by decide +kernel
theorem dX6_charAt_25 : decode cX6_charAt 25 = .ok (.if_icmp .lt 5, 3) := by decide +kernel
theorem dX6_charAt_28 : decode cX6_charAt 28 = .ok (.iconst (-1), 1) := by decide +kernel
theorem dX6_charAt_29 : decode cX6_charAt 29 = .ok (.ireturn, 1) := by decide +kernel
theorem dX6_charAt_30 : decode cX6_charAt 30 = .ok (.aload_n 0, 1) := by decide +kernel
theorem dX6_charAt_31 : decode cX6_charAt 31 = .ok (.getfield 32, 3) := by decide +kernel
theorem dX6_charAt_34 : decode cX6_charAt 34 = .ok (.iload_n 1, 1) := by decide +kernel
theorem dX6_charAt_35 : decode cX6_charAt 35 = .ok (.aaload, 1) := by decide +kernel
theorem dX6_charAt_36 : decode cX6_charAt 36 = .ok (.getfield 85, 3) := by decide +kernel
theorem dX6_charAt_39 : decode cX6_charAt 39 = .ok (.iload_n 2, 1) := by decide +kernel
theorem dX6_charAt_40 : decode cX6_charAt 40 = .ok (.invokevirtual 91, 3) := by decide +kernel
theorem dX6_charAt_43 : decode cX6_charAt 43 = .ok (.ireturn, 1) := by decide +kernel
theorem dX6_begin_0 : decode cX6_begin 0 = .ok (.iconst 0, 1) := by decide +kernel
theorem dX6_begin_1 : decode cX6_begin 1 = .ok (.istore_n 1, 1) := by decide +kernel
theorem dX6_begin_2 : decode cX6_begin 2 = .ok (.iload_n 1, 1) := by decide +kernel
theorem dX6_begin_3 : decode cX6_begin 3 = .ok (.iconst 4, 1) := by decide +kernel
theorem dX6_begin_4 : decode cX6_begin 4 = .ok (.if_icmp .ge 19, 3) := by decide +kernel
theorem dX6_begin_7 : decode cX6_begin 7 = .ok (.aload_n 0, 1) := by decide +kernel
theorem dX6_begin_8 : decode cX6_begin 8 = .ok (.iload_n 1, 1) := by decide +kernel
theorem dX6_begin_9 : decode cX6_begin 9 = .ok (.invokevirtual 81, 3) := by decide +kernel
theorem dX6_begin_12 : decode cX6_begin 12 = .ok (.ifCond .ne 5, 3) := by decide +kernel
theorem dX6_begin_15 : decode cX6_begin 15 = .ok (.iconst 0, 1) := by decide +kernel
theorem dX6_begin_16 : decode cX6_begin 16 = .ok (.ireturn, 1) := by decide +kernel
theorem dX6_begin_17 : decode cX6_begin 17 = .ok (.iinc 1 1, 3) := by decide +kernel
theorem dX6_begin_20 : decode cX6_begin 20 = .ok (.goto (-18), 3) := by decide +kernel
theorem dX6_begin_23 : decode cX6_begin 23 = .ok (.iconst 0, 1) := by decide +kernel
theorem dX6_begin_24 : decode cX6_begin 24 = .ok (.istore_n 1, 1) := by decide +kernel
theorem dX6_begin_25 : decode cX6_begin 25 = .ok (.iload_n 1, 1) := by decide +kernel
theorem dX6_begin_26 : decode cX6_begin 26 = .ok (.iconst 4, 1) := by decide +kernel
theorem dX6_begin_27 : decode cX6_begin 27 = .ok (.if_icmp .ge 18, 3) := by decide +kernel
theorem dX6_begin_30 : decode cX6_begin 30 = .ok (.aload_n 0, 1) := by decide +kernel
theorem dX6_begin_31 : decode cX6_begin 31 = .ok (.getfield 32, 3) := by decide +kernel
theorem dX6_begin_34 : decode cX6_begin 34 = .ok (.iload_n 1, 1) := by decide +kernel
theorem dX6_begin_35 : decode cX6_begin 35 = .ok (.aaload, 1) := by decide +kernel
theorem dX6_begin_36 : decode cX6_begin 36 = .ok (.invokevirtual 95, 3) := by decide +kernel
theorem dX6_begin_39 : decode cX6_begin 39 = .ok (.iinc 1 1, 3) := by decide +kernel
theorem dX6_begin_42 : decode cX6_begin 42 = .ok (.goto (-17), 3) := by decide +kernel
theorem dX6_begin_45 : decode cX6_begin 45 = .ok (.iconst 0, 1) := by decide +kernel
theorem dX6_begin_46 : decode cX6_begin 46 = .ok (.istore_n 1, 1) := by decide +kernel
theorem dX6_begin_47 : decode cX6_begin 47 = .ok (.iload_n 1, 1) := by decide +kernel
theorem dX6_begin_48 : decode cX6_begin 48 = .ok (.bipush 16, 2) := by decide +kernel
theorem dX6_begin_50 : decode cX6_begin 50 = .ok (.if_icmp .ge 18, 3) := by decide +kernel
theorem dX6_begin_53 : decode cX6_begin 53 = .ok (.aload_n 0, 1) := by decide +kernel
theorem dX6_begin_54 : decode cX6_begin 54 = .ok (.getfield 44, 3) := by decide +kernel
theorem dX6_begin_57 : decode cX6_begin 57 = .ok (.iload_n 1, 1) := by decide +kernel
theorem dX6_begin_58 : decode cX6_begin 58 = .ok (.aaload, 1) := by decide +kernel
theorem dX6_begin_59 : decode cX6_begin 59 = .ok (.invokevirtual 98, 3) := by decide +kernel
theorem dX6_begin_62 : decode cX6_begin 62 = .ok (.iinc 1 1, 3) := by decide +kernel
theorem dX6_begin_65 : decode cX6_begin 65 = .ok (.goto (-18), 3) := by decide +kernel
theorem dX6_begin_68 : decode cX6_begin 68 = .ok (.aload_n 0, 1) := by decide +kernel
theorem dX6_begin_69 : decode cX6_begin 69 = .ok (.iconst 0, 1) := by decide +kernel
theorem dX6_begin_70 : decode cX6_begin 70 = .ok (.putfield 56, 3) := by decide +kernel
theorem dX6_begin_73 : decode cX6_begin 73 = .ok (.aload_n 0, 1) := by decide +kernel
theorem dX6_begin_74 : decode cX6_begin 74 = .ok (.iconst 1, 1) := by decide +kernel
theorem dX6_begin_75 : decode cX6_begin 75 = .ok (.putfield 52, 3) := by decide +kernel
theorem dX6_begin_78 : decode cX6_begin 78 = .ok (.iconst 1, 1) := by decide +kernel
theorem dX6_begin_79 : decode cX6_begin 79 = .ok (.ireturn, 1) := by decide +kernel
theorem dX6_act_0 : decode cX6_act 0 = .ok (.aload_n 0, 1) := by decide +kernel
theorem dX6_act_1 : decode cX6_act 1 = .ok (.iload_n 1, 1) := by decide +kernel
theorem dX6_act_2 : decode cX6_act 2 = .ok (.invokevirtual 101, 3) := by decide +kernel
theorem dX6_act_5 : decode cX6_act 5 = .ok (.astore_n 2, 1) := by decide +kernel
theorem dX6_act_6 : decode cX6_act 6 = .ok (.aload_n 2, 1) := by decide +kernel
theorem dX6_act_7 : decode cX6_act 7 = .ok (.ifnonnull 7, 3) := by decide +kernel
theorem dX6_act_10 : decode cX6_act 10 = .ok (.iconst (-1), 1) := by decide +kernel
theorem dX6_act_11 : decode cX6_act 11 = .ok (.goto 7, 3) := by decide +kernel
theorem dX6_act_14 : decode cX6_act 14 = .ok (.aload_n 2, 1) := by decide +kernel
theorem dX6_act_15 : decode cX6_act 15 = .ok (.invokevirtual 105, 3) := by decide +kernel
theorem dX6_act_18 : decode cX6_act 18 = .ok (.ireturn, 1) := by decide +kernel
theorem dX6_partner_0 : decode cX6_partner 0 = .ok (.aload_n 0, 1) := by decide +kernel
theorem dX6_partner_1 : decode cX6_partner 1 = .ok (.iload_n 1, 1) := by decide +kernel
theorem dX6_partner_2 : decode cX6_partner 2 = .ok (.invokevirtual 101, 3) := by decide +kernel
theorem dX6_partner_5 : decode cX6_partner 5 = .ok (.astore_n 2, 1) := by decide +kernel
theorem dX6_partner_6 : decode cX6_partner 6 = .ok (.aload_n 2, 1) := by decide +kernel
theorem dX6_partner_7 : decode cX6_partner 7 = .ok (.ifnonnull 7, 3) := by decide +kernel
theorem dX6_partner_10 : decode cX6_partner 10 = .ok (.iconst (-1), 1) := by decide +kernel
theorem dX6_partner_11 : decode cX6_partner 11 = .ok (.goto 7, 3) := by decide +kernel
theorem dX6_partner_14 : decode cX6_partner 14 = .ok (.aload_n 2, 1) := by decide +kernel
theorem dX6_partner_15 : decode cX6_partner 15 = .ok (.invokevirtual 108, 3) := by decide +kernel
theorem dX6_partner_18 : decode cX6_partner 18 = .ok (.ireturn, 1) := by decide +kernel
theorem dX6_offers_0 : decode cX6_offers 0 = .ok (.aload_n 0, 1) := by decide +kernel
theorem dX6_offers_1 : decode cX6_offers 1 = .ok (.iload_n 1, 1) := by decide +kernel
theorem dX6_offers_2 : decode cX6_offers 2 = .ok (.invokevirtual 101, 3) := by decide +kernel
theorem dX6_offers_5 : decode cX6_offers 5 = .ok (.astore_n 3, 1) := by decide +kernel
theorem dX6_offers_6 : decode cX6_offers 6 = .ok (.aload_n 3, 1) := by decide +kernel
theorem dX6_offers_7 : decode cX6_offers 7 = .ok (.ifnull 16, 3) := by decide +kernel
theorem dX6_offers_10 : decode cX6_offers 10 = .ok (.aload_n 3, 1) := by decide +kernel
theorem dX6_offers_11 : decode cX6_offers 11 = .ok (.iload_n 2, 1) := by decide +kernel
theorem dX6_offers_12 : decode cX6_offers 12 = .ok (.invokevirtual 111, 3) := by decide +kernel
theorem dX6_offers_15 : decode cX6_offers 15 = .ok (.iconst (-1), 1) := by decide +kernel
theorem dX6_offers_16 : decode cX6_offers 16 = .ok (.if_icmp .eq 7, 3) := by decide +kernel
theorem dX6_offers_19 : decode cX6_offers 19 = .ok (.iconst 1, 1) := by decide +kernel
theorem dX6_offers_20 : decode cX6_offers 20 = .ok (.goto 4, 3) := by decide +kernel
theorem dX6_offers_23 : decode cX6_offers 23 = .ok (.iconst 0, 1) := by decide +kernel
theorem dX6_offers_24 : decode cX6_offers 24 = .ok (.ireturn, 1) := by decide +kernel
theorem dX6_send_0 : decode cX6_send 0 = .ok (.aload_n 0, 1) := by decide +kernel
theorem dX6_send_1 : decode cX6_send 1 = .ok (.iload_n 1, 1) := by decide +kernel
theorem dX6_send_2 : decode cX6_send 2 = .ok (.invokevirtual 101, 3) := by decide +kernel
theorem dX6_send_5 : decode cX6_send 5 = .ok (.astore_n 3, 1) := by decide +kernel
theorem dX6_send_6 : decode cX6_send 6 = .ok (.aload_n 3, 1) := by decide +kernel
theorem dX6_send_7 : decode cX6_send 7 = .ok (.ifnull 11, 3) := by decide +kernel
theorem dX6_send_10 : decode cX6_send 10 = .ok (.aload_n 3, 1) := by decide +kernel
theorem dX6_send_11 : decode cX6_send 11 = .ok (.invokevirtual 105, 3) := by decide +kernel
theorem dX6_send_14 : decode cX6_send 14 = .ok (.iconst 1, 1) := by decide +kernel
theorem dX6_send_15 : decode cX6_send 15 = .ok (.if_icmp .eq 5, 3) := by decide +kernel
theorem dX6_send_18 : decode cX6_send 18 = .ok (.iconst 0, 1) := by decide +kernel
theorem dX6_send_19 : decode cX6_send 19 = .ok (.ireturn, 1) := by decide +kernel
theorem dX6_send_20 : decode cX6_send 20 = .ok (.aload_n 0, 1) := by decide +kernel
theorem dX6_send_21 : decode cX6_send 21 = .ok (.iload_n 1, 1) := by decide +kernel
theorem dX6_send_22 : decode cX6_send 22 = .ok (.aload_n 3, 1) := by decide +kernel
theorem dX6_send_23 : decode cX6_send 23 = .ok (.invokevirtual 108, 3) := by decide +kernel
theorem dX6_send_26 : decode cX6_send 26 = .ok (.invokevirtual 115, 3) := by decide +kernel
theorem dX6_send_29 : decode cX6_send 29 = .ok (.astore 4, 2) := by decide +kernel
theorem dX6_send_31 : decode cX6_send 31 = .ok (.aload 4, 2) := by decide +kernel
theorem dX6_send_33 : decode cX6_send 33 = .ok (.ifnull 19, 3) := by decide +kernel
theorem dX6_send_36 : decode cX6_send 36 = .ok (.aload 4, 2) := by decide +kernel
theorem dX6_send_38 : decode cX6_send 38 = .ok (.invokevirtual 119, 3) := by decide +kernel
theorem dX6_send_41 : decode cX6_send 41 = .ok (.ifCond .ne 11, 3) := by decide +kernel
theorem dX6_send_44 : decode cX6_send 44 = .ok (.aload_n 3, 1) := by decide +kernel
theorem dX6_send_45 : decode cX6_send 45 = .ok (.iload_n 2, 1) := by decide +kernel
theorem dX6_send_46 : decode cX6_send 46 = .ok (.invokevirtual 123, 3) := by decide +kernel
theorem dX6_send_49 : decode cX6_send 49 = .ok (.ifCond .ne 5, 3) := by decide +kernel
theorem dX6_send_52 : decode cX6_send 52 = .ok (.iconst 0, 1) := by decide +kernel
theorem dX6_send_53 : decode cX6_send 53 = .ok (.ireturn, 1) := by decide +kernel
theorem dX6_send_54 : decode cX6_send 54 = .ok (.aload 4, 2) := by decide +kernel
theorem dX6_send_56 : decode cX6_send 56 = .ok (.iload_n 2, 1) := by decide +kernel
theorem dX6_send_57 : decode cX6_send 57 = .ok (.invokevirtual 126, 3) := by decide +kernel
theorem dX6_send_60 : decode cX6_send 60 = .ok (.aload_n 0, 1) := by decide +kernel
theorem dX6_send_61 : decode cX6_send 61 = .ok (.dup, 1) := by decide +kernel
theorem dX6_send_62 : decode cX6_send 62 = .ok (.getfield 56, 3) := by decide +kernel
theorem dX6_send_65 : decode cX6_send 65 = .ok (.iconst 1, 1) := by decide +kernel
theorem dX6_send_66 : decode cX6_send 66 = .ok (.iadd, 1) := by decide +kernel
theorem dX6_send_67 : decode cX6_send 67 = .ok (.putfield 56, 3) := by decide +kernel
theorem dX6_send_70 : decode cX6_send 70 = .ok (.iconst 1, 1) := by decide +kernel
theorem dX6_send_71 : decode cX6_send 71 = .ok (.ireturn, 1) := by decide +kernel
theorem dX6_receive_0 : decode cX6_receive 0 = .ok (.aload_n 0, 1) := by decide +kernel
theorem dX6_receive_1 : decode cX6_receive 1 = .ok (.iload_n 1, 1) := by decide +kernel
theorem dX6_receive_2 : decode cX6_receive 2 = .ok (.invokevirtual 101, 3) := by decide +kernel
theorem dX6_receive_5 : decode cX6_receive 5 = .ok (.astore_n 2, 1) := by decide +kernel
theorem dX6_receive_6 : decode cX6_receive 6 = .ok (.aload_n 2, 1) := by decide +kernel
theorem dX6_receive_7 : decode cX6_receive 7 = .ok (.ifnull 11, 3) := by decide +kernel
theorem dX6_receive_10 : decode cX6_receive 10 = .ok (.aload_n 2, 1) := by decide +kernel
theorem dX6_receive_11 : decode cX6_receive 11 = .ok (.invokevirtual 105, 3) := by decide +kernel
theorem dX6_receive_14 : decode cX6_receive 14 = .ok (.iconst 2, 1) := by decide +kernel
theorem dX6_receive_15 : decode cX6_receive 15 = .ok (.if_icmp .eq 5, 3) := by decide +kernel
theorem dX6_receive_18 : decode cX6_receive 18 = .ok (.iconst (-1), 1) := by decide +kernel
theorem dX6_receive_19 : decode cX6_receive 19 = .ok (.ireturn, 1) := by decide +kernel
theorem dX6_receive_20 : decode cX6_receive 20 = .ok (.aload_n 0, 1) := by decide +kernel
theorem dX6_receive_21 : decode cX6_receive 21 = .ok (.aload_n 2, 1) := by decide +kernel
theorem dX6_receive_22 : decode cX6_receive 22 = .ok (.invokevirtual 108, 3) := by decide +kernel
theorem dX6_receive_25 : decode cX6_receive 25 = .ok (.iload_n 1, 1) := by decide +kernel
theorem dX6_receive_26 : decode cX6_receive 26 = .ok (.invokevirtual 115, 3) := by decide +kernel
theorem dX6_receive_29 : decode cX6_receive 29 = .ok (.astore_n 3, 1) := by decide +kernel
theorem dX6_receive_30 : decode cX6_receive 30 = .ok (.aload_n 3, 1) := by decide +kernel
theorem dX6_receive_31 : decode cX6_receive 31 = .ok (.ifnull 10, 3) := by decide +kernel
theorem dX6_receive_34 : decode cX6_receive 34 = .ok (.aload_n 3, 1) := by decide +kernel
theorem dX6_receive_35 : decode cX6_receive 35 = .ok (.invokevirtual 128, 3) := by decide +kernel
theorem dX6_receive_38 : decode cX6_receive 38 = .ok (.ifCond .ne 5, 3) := by decide +kernel
theorem dX6_receive_41 : decode cX6_receive 41 = .ok (.iconst (-1), 1) := by decide +kernel
theorem dX6_receive_42 : decode cX6_receive 42 = .ok (.ireturn, 1) := by decide +kernel
theorem dX6_receive_43 : decode cX6_receive 43 = .ok (.aload_n 3, 1) := by decide +kernel
theorem dX6_receive_44 : decode cX6_receive 44 = .ok (.iconst 0, 1) := by decide +kernel
theorem dX6_receive_45 : decode cX6_receive 45 = .ok (.invokevirtual 129, 3) := by decide +kernel
theorem dX6_receive_48 : decode cX6_receive 48 = .ok (.istore 4, 2) := by decide +kernel
theorem dX6_receive_50 : decode cX6_receive 50 = .ok (.aload_n 2, 1) := by decide +kernel
theorem dX6_receive_51 : decode cX6_receive 51 = .ok (.iload 4, 2) := by decide +kernel
theorem dX6_receive_53 : decode cX6_receive 53 = .ok (.invokevirtual 123, 3) := by decide +kernel
theorem dX6_receive_56 : decode cX6_receive 56 = .ok (.ifCond .ne 6, 3) := by decide +kernel
theorem dX6_receive_59 : decode cX6_receive 59 = .ok (.bipush (-2), 2) := by decide +kernel
theorem dX6_receive_61 : decode cX6_receive 61 = .ok (.ireturn, 1) := by decide +kernel
theorem dX6_receive_62 : decode cX6_receive 62 = .ok (.aload_n 3, 1) := by decide +kernel
theorem dX6_receive_63 : decode cX6_receive 63 = .ok (.invokevirtual 131, 3) := by decide +kernel
theorem dX6_receive_66 : decode cX6_receive 66 = .ok (.aload_n 0, 1) := by decide +kernel
theorem dX6_receive_67 : decode cX6_receive 67 = .ok (.dup, 1) := by decide +kernel
theorem dX6_receive_68 : decode cX6_receive 68 = .ok (.getfield 56, 3) := by decide +kernel
theorem dX6_receive_71 : decode cX6_receive 71 = .ok (.iconst 1, 1) := by decide +kernel
theorem dX6_receive_72 : decode cX6_receive 72 = .ok (.iadd, 1) := by decide +kernel
theorem dX6_receive_73 : decode cX6_receive 73 = .ok (.putfield 56, 3) := by decide +kernel
theorem dX6_receive_76 : decode cX6_receive 76 = .ok (.iload 4, 2) := by decide +kernel
theorem dX6_receive_78 : decode cX6_receive 78 = .ok (.ireturn, 1) := by decide +kernel
theorem dX6_onTheWay_0 : decode cX6_onTheWay 0 = .ok (.aload_n 0, 1) := by decide +kernel
theorem dX6_onTheWay_1 : decode cX6_onTheWay 1 = .ok (.iload_n 1, 1) := by decide +kernel
theorem dX6_onTheWay_2 : decode cX6_onTheWay 2 = .ok (.iload_n 2, 1) := by decide +kernel
theorem dX6_onTheWay_3 : decode cX6_onTheWay 3 = .ok (.invokevirtual 115, 3) := by decide +kernel
theorem dX6_onTheWay_6 : decode cX6_onTheWay 6 = .ok (.astore_n 3, 1) := by decide +kernel
theorem dX6_onTheWay_7 : decode cX6_onTheWay 7 = .ok (.aload_n 3, 1) := by decide +kernel
theorem dX6_onTheWay_8 : decode cX6_onTheWay 8 = .ok (.ifnonnull 7, 3) := by decide +kernel
theorem dX6_onTheWay_11 : decode cX6_onTheWay 11 = .ok (.iconst (-1), 1) := by decide +kernel
theorem dX6_onTheWay_12 : decode cX6_onTheWay 12 = .ok (.goto 7, 3) := by decide +kernel
theorem dX6_onTheWay_15 : decode cX6_onTheWay 15 = .ok (.aload_n 3, 1) := by decide +kernel
theorem dX6_onTheWay_16 : decode cX6_onTheWay 16 = .ok (.invokevirtual 128, 3) := by decide +kernel
theorem dX6_onTheWay_19 : decode cX6_onTheWay 19 = .ok (.ireturn, 1) := by decide +kernel
theorem dX6_labelAt_0 : decode cX6_labelAt 0 = .ok (.aload_n 0, 1) := by decide +kernel
theorem dX6_labelAt_1 : decode cX6_labelAt 1 = .ok (.iload_n 1, 1) := by decide +kernel
theorem dX6_labelAt_2 : decode cX6_labelAt 2 = .ok (.iload_n 2, 1) := by decide +kernel
theorem dX6_labelAt_3 : decode cX6_labelAt 3 = .ok (.invokevirtual 115, 3) := by decide +kernel
theorem dX6_labelAt_6 : decode cX6_labelAt 6 = .ok (.astore 4, 2) := by decide +kernel
theorem dX6_labelAt_8 : decode cX6_labelAt 8 = .ok (.aload 4, 2) := by decide +kernel
theorem dX6_labelAt_10 : decode cX6_labelAt 10 = .ok (.ifnonnull 7, 3) := by decide +kernel
theorem dX6_labelAt_13 : decode cX6_labelAt 13 = .ok (.iconst (-1), 1) := by decide +kernel
theorem dX6_labelAt_14 : decode cX6_labelAt 14 = .ok (.goto 9, 3) := by decide +kernel
theorem dX6_labelAt_17 : decode cX6_labelAt 17 = .ok (.aload 4, 2) := by decide +kernel
theorem dX6_labelAt_19 : decode cX6_labelAt 19 = .ok (.iload_n 3, 1) := by decide +kernel
theorem dX6_labelAt_20 : decode cX6_labelAt 20 = .ok (.invokevirtual 129, 3) := by decide +kernel
theorem dX6_labelAt_23 : decode cX6_labelAt 23 = .ok (.ireturn, 1) := by decide +kernel
theorem dX6_moves_0 : decode cX6_moves 0 = .ok (.aload_n 0, 1) := by decide +kernel
theorem dX6_moves_1 : decode cX6_moves 1 = .ok (.getfield 52, 3) := by decide +kernel
theorem dX6_moves_4 : decode cX6_moves 4 = .ok (.ifCond .eq 10, 3) := by decide +kernel
theorem dX6_moves_7 : decode cX6_moves 7 = .ok (.aload_n 0, 1) := by decide +kernel
theorem dX6_moves_8 : decode cX6_moves 8 = .ok (.getfield 56, 3) := by decide +kernel
theorem dX6_moves_11 : decode cX6_moves 11 = .ok (.goto 4, 3) := by decide +kernel
theorem dX6_moves_14 : decode cX6_moves 14 = .ok (.iconst (-1), 1) := by decide +kernel
theorem dX6_moves_15 : decode cX6_moves 15 = .ok (.ireturn, 1) := by decide +kernel
theorem dX6_ready_0 : decode cX6_ready 0 = .ok (.aload_n 0, 1) := by decide +kernel
theorem dX6_ready_1 : decode cX6_ready 1 = .ok (.getfield 52, 3) := by decide +kernel
theorem dX6_ready_4 : decode cX6_ready 4 = .ok (.ifCond .ne 5, 3) := by decide +kernel
theorem dX6_ready_7 : decode cX6_ready 7 = .ok (.iconst (-1), 1) := by decide +kernel
theorem dX6_ready_8 : decode cX6_ready 8 = .ok (.ireturn, 1) := by decide +kernel
theorem dX6_ready_9 : decode cX6_ready 9 = .ok (.iconst 0, 1) := by decide +kernel
theorem dX6_ready_10 : decode cX6_ready 10 = .ok (.istore_n 1, 1) := by decide +kernel
theorem dX6_ready_11 : decode cX6_ready 11 = .ok (.iconst 0, 1) := by decide +kernel
theorem dX6_ready_12 : decode cX6_ready 12 = .ok (.istore_n 2, 1) := by decide +kernel
theorem dX6_ready_13 : decode cX6_ready 13 = .ok (.iload_n 2, 1) := by decide +kernel
theorem dX6_ready_14 : decode cX6_ready 14 = .ok (.iconst 4, 1) := by decide +kernel
theorem dX6_ready_15 : decode cX6_ready 15 = .ok (.if_icmp .ge 20, 3) := by decide +kernel
theorem dX6_ready_18 : decode cX6_ready 18 = .ok (.aload_n 0, 1) := by decide +kernel
theorem dX6_ready_19 : decode cX6_ready 19 = .ok (.iload_n 2, 1) := by decide +kernel
theorem dX6_ready_20 : decode cX6_ready 20 = .ok (.invokevirtual 134, 3) := by decide +kernel
theorem dX6_ready_23 : decode cX6_ready 23 = .ok (.ifCond .eq 6, 3) := by decide +kernel
theorem dX6_ready_26 : decode cX6_ready 26 = .ok (.iinc 1 1, 3) := by decide +kernel
theorem dX6_ready_29 : decode cX6_ready 29 = .ok (.iinc 2 1, 3) := by decide +kernel
theorem dX6_ready_32 : decode cX6_ready 32 = .ok (.goto (-19), 3) := by decide +kernel
theorem dX6_ready_35 : decode cX6_ready 35 = .ok (.iload_n 1, 1) := by decide +kernel
theorem dX6_ready_36 : decode cX6_ready 36 = .ok (.ireturn, 1) := by decide +kernel
theorem dX6_over_0 : decode cX6_over 0 = .ok (.aload_n 0, 1) := by decide +kernel
theorem dX6_over_1 : decode cX6_over 1 = .ok (.getfield 52, 3) := by decide +kernel
theorem dX6_over_4 : decode cX6_over 4 = .ok (.ifCond .eq 21, 3) := by decide +kernel
theorem dX6_over_7 : decode cX6_over 7 = .ok (.aload_n 0, 1) := by decide +kernel
theorem dX6_over_8 : decode cX6_over 8 = .ok (.invokevirtual 137, 3) := by decide +kernel
theorem dX6_over_11 : decode cX6_over 11 = .ok (.ifCond .eq 14, 3) := by decide +kernel
theorem dX6_over_14 : decode cX6_over 14 = .ok (.aload_n 0, 1) := by decide +kernel
theorem dX6_over_15 : decode cX6_over 15 = .ok (.invokevirtual 140, 3) := by decide +kernel
theorem dX6_over_18 : decode cX6_over 18 = .ok (.ifCond .eq 7, 3) := by decide +kernel
theorem dX6_over_21 : decode cX6_over 21 = .ok (.iconst 1, 1) := by decide +kernel
theorem dX6_over_22 : decode cX6_over 22 = .ok (.goto 4, 3) := by decide +kernel
theorem dX6_over_25 : decode cX6_over 25 = .ok (.iconst 0, 1) := by decide +kernel
theorem dX6_over_26 : decode cX6_over 26 = .ok (.ireturn, 1) := by decide +kernel
theorem dX6_judgeTyped_0 : decode cX6_judgeTyped 0 = .ok (.aload_n 0, 1) := by decide +kernel
theorem dX6_judgeTyped_1 : decode cX6_judgeTyped 1 = .ok (.getfield 19, 3) := by decide +kernel
theorem dX6_judgeTyped_4 : decode cX6_judgeTyped 4 = .ok (.aload_n 0, 1) := by decide +kernel
theorem dX6_judgeTyped_5 : decode cX6_judgeTyped 5 = .ok (.getfield 10, 3) := by decide +kernel
theorem dX6_judgeTyped_8 : decode cX6_judgeTyped 8 = .ok (.invokevirtual 143, 3) := by decide +kernel
theorem dX6_judgeTyped_11 : decode cX6_judgeTyped 11 = .ok (.istore_n 1, 1) := by decide +kernel
theorem dX6_judgeTyped_12 : decode cX6_judgeTyped 12 = .ok (.iload_n 1, 1) := by decide +kernel
theorem dX6_judgeTyped_13 : decode cX6_judgeTyped 13 = .ok (.iconst (-1), 1) := by decide +kernel
theorem dX6_judgeTyped_14 : decode cX6_judgeTyped 14 = .ok (.if_icmp .eq 5, 3) := by decide +kernel
theorem dX6_judgeTyped_17 : decode cX6_judgeTyped 17 = .ok (.iload_n 1, 1) := by decide +kernel
theorem dX6_judgeTyped_18 : decode cX6_judgeTyped 18 = .ok (.ireturn, 1) := by decide +kernel
theorem dX6_judgeTyped_19 : decode cX6_judgeTyped 19 = .ok (.aload_n 0, 1) := by decide +kernel
theorem dX6_judgeTyped_20 : decode cX6_judgeTyped 20 = .ok (.getfield 26, 3) := by decide +kernel
theorem dX6_judgeTyped_23 : decode cX6_judgeTyped 23 = .ok (.aload_n 0, 1) := by decide +kernel
theorem dX6_judgeTyped_24 : decode cX6_judgeTyped 24 = .ok (.getfield 10, 3) := by decide +kernel
theorem dX6_judgeTyped_27 : decode cX6_judgeTyped 27 = .ok (.invokevirtual 147, 3) := by decide +kernel
theorem dX6_judgeTyped_30 : decode cX6_judgeTyped 30 = .ok (.ifCond .eq 7, 3) := by decide +kernel
theorem dX6_judgeTyped_33 : decode cX6_judgeTyped 33 = .ok (.iconst (-1), 1) := by decide +kernel
theorem dX6_judgeTyped_34 : decode cX6_judgeTyped 34 = .ok (.goto 5, 3) := by decide +kernel
theorem dX6_judgeTyped_37 : decode cX6_judgeTyped 37 = .ok (.bipush (-2), 2) := by decide +kernel
theorem dX6_judgeTyped_39 : decode cX6_judgeTyped 39 = .ok (.ireturn, 1) := by decide +kernel
theorem dX6_adoptTyped_0 : decode cX6_adoptTyped 0 = .ok (.aload_n 0, 1) := by decide +kernel
theorem dX6_adoptTyped_1 : decode cX6_adoptTyped 1 = .ok (.aload_n 0, 1) := by decide +kernel
theorem dX6_adoptTyped_2 : decode cX6_adoptTyped 2 = .ok (.getfield 10, 3) := by decide +kernel
theorem dX6_adoptTyped_5 : decode cX6_adoptTyped 5 = .ok (.bipush 123, 2) := by decide +kernel
theorem dX6_adoptTyped_7 : decode cX6_adoptTyped 7 = .ok (.invokevirtual 151, 3) := by decide +kernel
theorem dX6_adoptTyped_10 : decode cX6_adoptTyped 10 = .ok (.putfield 48, 3) := by decide +kernel
theorem dX6_adoptTyped_13 : decode cX6_adoptTyped 13 = .ok (.iconst 0, 1) := by decide +kernel
theorem dX6_adoptTyped_14 : decode cX6_adoptTyped 14 = .ok (.istore_n 1, 1) := by decide +kernel
theorem dX6_adoptTyped_15 : decode cX6_adoptTyped 15 = .ok (.iload_n 1, 1) := by decide +kernel
theorem dX6_adoptTyped_16 : decode cX6_adoptTyped 16 = .ok (.iconst 4, 1) := by decide +kernel
theorem dX6_adoptTyped_17 : decode cX6_adoptTyped 17 = .ok (.if_icmp .ge 27, 3) := by decide +kernel
theorem dX6_adoptTyped_20 : decode cX6_adoptTyped 20 = .ok (.aload_n 0, 1) := by decide +kernel
theorem dX6_adoptTyped_21 : decode cX6_adoptTyped 21 = .ok (.getfield 32, 3) := by decide +kernel
theorem dX6_adoptTyped_24 : decode cX6_adoptTyped 24 = .ok (.iload_n 1, 1) := by decide +kernel
theorem dX6_adoptTyped_25 : decode cX6_adoptTyped 25 = .ok (.aaload, 1) := by decide +kernel
theorem dX6_adoptTyped_26 : decode cX6_adoptTyped 26 = .ok (.aload_n 0, 1) := by decide +kernel
theorem dX6_adoptTyped_27 : decode cX6_adoptTyped 27 = .ok (.getfield 38, 3) := by decide +kernel
theorem dX6_adoptTyped_30 : decode cX6_adoptTyped 30 = .ok (.iload_n 1, 1) := by decide +kernel
theorem dX6_adoptTyped_31 : decode cX6_adoptTyped 31 = .ok (.aaload, 1) := by decide +kernel
theorem dX6_adoptTyped_32 : decode cX6_adoptTyped 32 = .ok (.invokevirtual 155, 3) := by decide +kernel
theorem dX6_adoptTyped_35 : decode cX6_adoptTyped 35 = .ok (.putfield 158, 3) := by decide +kernel
theorem dX6_adoptTyped_38 : decode cX6_adoptTyped 38 = .ok (.iinc 1 1, 3) := by decide +kernel
theorem dX6_adoptTyped_41 : decode cX6_adoptTyped 41 = .ok (.goto (-26), 3) := by decide +kernel
theorem dX6_adoptTyped_44 : decode cX6_adoptTyped 44 = .ok (.aload_n 0, 1) := by decide +kernel
theorem dX6_adoptTyped_45 : decode cX6_adoptTyped 45 = .ok (.iconst 0, 1) := by decide +kernel
theorem dX6_adoptTyped_46 : decode cX6_adoptTyped 46 = .ok (.putfield 52, 3) := by decide +kernel
theorem dX6_adoptTyped_49 : decode cX6_adoptTyped 49 = .ok (.return_, 1) := by decide +kernel
theorem dX6_hasPart_0 : decode cX6_hasPart 0 = .ok (.iload_n 1, 1) := by decide +kernel
theorem dX6_hasPart_1 : decode cX6_hasPart 1 = .ok (.invokestatic 161, 3) := by decide +kernel
theorem dX6_hasPart_4 : decode cX6_hasPart 4 = .ok (.ifCond .eq 19, 3) := by decide +kernel
theorem dX6_hasPart_7 : decode cX6_hasPart 7 = .ok (.aload_n 0, 1) := by decide +kernel
theorem dX6_hasPart_8 : decode cX6_hasPart 8 = .ok (.getfield 32, 3) := by decide +kernel
theorem dX6_hasPart_11 : decode cX6_hasPart 11 = .ok (.iload_n 1, 1) := by decide +kernel
theorem dX6_hasPart_12 : decode cX6_hasPart 12 = .ok (.aaload, 1) := by decide +kernel
theorem dX6_hasPart_13 : decode cX6_hasPart 13 = .ok (.getfield 158, 3) := by decide +kernel
theorem dX6_hasPart_16 : decode cX6_hasPart 16 = .ok (.ifCond .eq 7, 3) := by decide +kernel
theorem dX6_hasPart_19 : decode cX6_hasPart 19 = .ok (.iconst 1, 1) := by decide +kernel
theorem dX6_hasPart_20 : decode cX6_hasPart 20 = .ok (.goto 4, 3) := by decide +kernel
theorem dX6_hasPart_23 : decode cX6_hasPart 23 = .ok (.iconst 0, 1) := by decide +kernel
theorem dX6_hasPart_24 : decode cX6_hasPart 24 = .ok (.ireturn, 1) := by decide +kernel
theorem dX6_playing_0 : decode cX6_playing 0 = .ok (.aload_n 0, 1) := by decide +kernel
theorem dX6_playing_1 : decode cX6_playing 1 = .ok (.getfield 52, 3) := by decide +kernel
theorem dX6_playing_4 : decode cX6_playing 4 = .ok (.ifCond .eq 19, 3) := by decide +kernel
theorem dX6_playing_7 : decode cX6_playing 7 = .ok (.iload_n 1, 1) := by decide +kernel
theorem dX6_playing_8 : decode cX6_playing 8 = .ok (.invokestatic 161, 3) := by decide +kernel
theorem dX6_playing_11 : decode cX6_playing 11 = .ok (.ifCond .eq 12, 3) := by decide +kernel
theorem dX6_playing_14 : decode cX6_playing 14 = .ok (.aload_n 0, 1) := by decide +kernel
theorem dX6_playing_15 : decode cX6_playing 15 = .ok (.getfield 32, 3) := by decide +kernel
theorem dX6_playing_18 : decode cX6_playing 18 = .ok (.iload_n 1, 1) := by decide +kernel
theorem dX6_playing_19 : decode cX6_playing 19 = .ok (.aaload, 1) := by decide +kernel
theorem dX6_playing_20 : decode cX6_playing 20 = .ok (.goto 4, 3) := by decide +kernel
theorem dX6_playing_23 : decode cX6_playing 23 = .ok (.aconst_null, 1) := by decide +kernel
theorem dX6_playing_24 : decode cX6_playing 24 = .ok (.areturn, 1) := by decide +kernel
theorem dX6_rowBetween_0 : decode cX6_rowBetween 0 = .ok (.aload_n 0, 1) := by decide +kernel
theorem dX6_rowBetween_1 : decode cX6_rowBetween 1 = .ok (.getfield 52, 3) := by decide +kernel
theorem dX6_rowBetween_4 : decode cX6_rowBetween 4 = .ok (.ifCond .eq 21, 3) := by decide +kernel
theorem dX6_rowBetween_7 : decode cX6_rowBetween 7 = .ok (.iload_n 1, 1) := by decide +kernel
theorem dX6_rowBetween_8 : decode cX6_rowBetween 8 = .ok (.invokestatic 161, 3) := by decide +kernel
theorem dX6_rowBetween_11 : decode cX6_rowBetween 11 = .ok (.ifCond .eq 14, 3) := by decide +kernel
theorem dX6_rowBetween_14 : decode cX6_rowBetween 14 = .ok (.iload_n 2, 1) := by decide +kernel
theorem dX6_rowBetween_15 : decode cX6_rowBetween 15 = .ok (.invokestatic 161, 3) := by decide +kernel
theorem dX6_rowBetween_18 : decode cX6_rowBetween 18 = .ok (.ifCond .eq 7, 3) := by decide +kernel
theorem dX6_rowBetween_21 : decode cX6_rowBetween 21 = .ok (.iconst 1, 1) := by decide +kernel
theorem dX6_rowBetween_22 : decode cX6_rowBetween 22 = .ok (.goto 4, 3) := by decide +kernel
theorem dX6_rowBetween_25 : decode cX6_rowBetween 25 = .ok (.iconst 0, 1) := by decide +kernel
theorem dX6_rowBetween_26 : decode cX6_rowBetween 26 = .ok (.istore_n 3, 1) := by decide +kernel
theorem dX6_rowBetween_27 : decode cX6_rowBetween 27 = .ok (.iload_n 3, 1) := by decide +kernel
theorem dX6_rowBetween_28 : decode cX6_rowBetween 28 = .ok (.ifCond .eq 16, 3) := by decide +kernel
theorem dX6_rowBetween_31 : decode cX6_rowBetween 31 = .ok (.aload_n 0, 1) := by decide +kernel
theorem dX6_rowBetween_32 : decode cX6_rowBetween 32 = .ok (.getfield 44, 3) := by decide +kernel
theorem dX6_rowBetween_35 : decode cX6_rowBetween 35 = .ok (.iload_n 1, 1) := by decide +kernel
theorem dX6_rowBetween_36 : decode cX6_rowBetween 36 = .ok (.iconst 4, 1) := by decide +kernel
theorem dX6_rowBetween_37 : decode cX6_rowBetween 37 = .ok (.imul, 1) := by decide +kernel
theorem dX6_rowBetween_38 : decode cX6_rowBetween 38 = .ok (.iload_n 2, 1) := by decide +kernel
theorem dX6_rowBetween_39 : decode cX6_rowBetween 39 = .ok (.iadd, 1) := by decide +kernel
theorem dX6_rowBetween_40 : decode cX6_rowBetween 40 = .ok (.aaload, 1) := by decide +kernel
theorem dX6_rowBetween_41 : decode cX6_rowBetween 41 = .ok (.goto 4, 3) := by decide +kernel
theorem dX6_rowBetween_44 : decode cX6_rowBetween 44 = .ok (.aconst_null, 1) := by decide +kernel
theorem dX6_rowBetween_45 : decode cX6_rowBetween 45 = .ok (.areturn, 1) := by decide +kernel
theorem dX6_canGoOn_0 : decode cX6_canGoOn 0 = .ok (.aload_n 0, 1) := by decide +kernel
theorem dX6_canGoOn_1 : decode cX6_canGoOn 1 = .ok (.iload_n 1, 1) := by decide +kernel
theorem dX6_canGoOn_2 : decode cX6_canGoOn 2 = .ok (.invokevirtual 101, 3) := by decide +kernel
theorem dX6_canGoOn_5 : decode cX6_canGoOn 5 = .ok (.astore_n 2, 1) := by decide +kernel
theorem dX6_canGoOn_6 : decode cX6_canGoOn 6 = .ok (.aload_n 2, 1) := by decide +kernel
theorem dX6_canGoOn_7 : decode cX6_canGoOn 7 = .ok (.ifnonnull 5, 3) := by decide +kernel
theorem dX6_canGoOn_10 : decode cX6_canGoOn 10 = .ok (.iconst 0, 1) := by decide +kernel
theorem dX6_canGoOn_11 : decode cX6_canGoOn 11 = .ok (.ireturn, 1) := by decide +kernel
theorem dX6_canGoOn_12 : decode cX6_canGoOn 12 = .ok (.aload_n 2, 1) := by decide +kernel
theorem dX6_canGoOn_13 : decode cX6_canGoOn 13 = .ok (.invokevirtual 105, 3) := by decide +kernel
theorem dX6_canGoOn_16 : decode cX6_canGoOn 16 = .ok (.istore_n 3, 1) := by decide +kernel
theorem dX6_canGoOn_17 : decode cX6_canGoOn 17 = .ok (.iload_n 3, 1) := by decide +kernel
theorem dX6_canGoOn_18 : decode cX6_canGoOn 18 = .ok (.iconst 1, 1) := by decide +kernel
theorem dX6_canGoOn_19 : decode cX6_canGoOn 19 = .ok (.if_icmp .ne 33, 3) := by decide +kernel
theorem dX6_canGoOn_22 : decode cX6_canGoOn 22 = .ok (.aload_n 0, 1) := by decide +kernel
theorem dX6_canGoOn_23 : decode cX6_canGoOn 23 = .ok (.iload_n 1, 1) := by decide +kernel
theorem dX6_canGoOn_24 : decode cX6_canGoOn 24 = .ok (.aload_n 2, 1) := by decide +kernel
theorem dX6_canGoOn_25 : decode cX6_canGoOn 25 = .ok (.invokevirtual 108, 3) := by decide +kernel
theorem dX6_canGoOn_28 : decode cX6_canGoOn 28 = .ok (.invokevirtual 115, 3) := by decide +kernel
theorem dX6_canGoOn_31 : decode cX6_canGoOn 31 = .ok (.astore 4, 2) := by decide +kernel
theorem dX6_canGoOn_33 : decode cX6_canGoOn 33 = .ok (.aload 4, 2) := by decide +kernel
theorem dX6_canGoOn_35 : decode cX6_canGoOn 35 = .ok (.ifnull 15, 3) := by decide +kernel
theorem dX6_canGoOn_38 : decode cX6_canGoOn 38 = .ok (.aload 4, 2) := by decide +kernel
theorem dX6_canGoOn_40 : decode cX6_canGoOn 40 = .ok (.invokevirtual 119, 3) := by decide +kernel
theorem dX6_canGoOn_43 : decode cX6_canGoOn 43 = .ok (.ifCond .ne 7, 3) := by decide +kernel
theorem dX6_canGoOn_46 : decode cX6_canGoOn 46 = .ok (.iconst 1, 1) := by decide +kernel
theorem dX6_canGoOn_47 : decode cX6_canGoOn 47 = .ok (.goto 4, 3) := by decide +kernel
theorem dX6_canGoOn_50 : decode cX6_canGoOn 50 = .ok (.iconst 0, 1) := by decide +kernel
theorem dX6_canGoOn_51 : decode cX6_canGoOn 51 = .ok (.ireturn, 1) := by decide +kernel
theorem dX6_canGoOn_52 : decode cX6_canGoOn 52 = .ok (.iload_n 3, 1) := by decide +kernel
theorem dX6_canGoOn_53 : decode cX6_canGoOn 53 = .ok (.iconst 2, 1) := by decide +kernel
theorem dX6_canGoOn_54 : decode cX6_canGoOn 54 = .ok (.if_icmp .ne 39, 3) := by decide +kernel
theorem dX6_canGoOn_57 : decode cX6_canGoOn 57 = .ok (.aload_n 0, 1) := by decide +kernel
theorem dX6_canGoOn_58 : decode cX6_canGoOn 58 = .ok (.aload_n 2, 1) := by decide +kernel
theorem dX6_canGoOn_59 : decode cX6_canGoOn 59 = .ok (.invokevirtual 108, 3) := by decide +kernel
theorem dX6_canGoOn_62 : decode cX6_canGoOn 62 = .ok (.iload_n 1, 1) := by decide +kernel
theorem dX6_canGoOn_63 : decode cX6_canGoOn 63 = .ok (.invokevirtual 115, 3) := by decide +kernel
theorem dX6_canGoOn_66 : decode cX6_canGoOn 66 = .ok (.astore 4, 2) := by decide +kernel
theorem dX6_canGoOn_68 : decode cX6_canGoOn 68 = .ok (.aload 4, 2) := by decide +kernel
theorem dX6_canGoOn_70 : decode cX6_canGoOn 70 = .ok (.ifnull 21, 3) := by decide +kernel
theorem dX6_canGoOn_73 : decode cX6_canGoOn 73 = .ok (.aload_n 2, 1) := by decide +kernel
theorem dX6_canGoOn_74 : decode cX6_canGoOn 74 = .ok (.aload 4, 2) := by decide +kernel
theorem dX6_canGoOn_76 : decode cX6_canGoOn 76 = .ok (.iconst 0, 1) := by decide +kernel
theorem dX6_canGoOn_77 : decode cX6_canGoOn 77 = .ok (.invokevirtual 129, 3) := by decide +kernel
theorem dX6_canGoOn_80 : decode cX6_canGoOn 80 = .ok (.invokevirtual 111, 3) := by decide +kernel
theorem dX6_canGoOn_83 : decode cX6_canGoOn 83 = .ok (.iconst (-1), 1) := by decide +kernel
theorem dX6_canGoOn_84 : decode cX6_canGoOn 84 = .ok (.if_icmp .eq 7, 3) := by decide +kernel
theorem dX6_canGoOn_87 : decode cX6_canGoOn 87 = .ok (.iconst 1, 1) := by decide +kernel
theorem dX6_canGoOn_88 : decode cX6_canGoOn 88 = .ok (.goto 4, 3) := by decide +kernel
theorem dX6_canGoOn_91 : decode cX6_canGoOn 91 = .ok (.iconst 0, 1) := by decide +kernel
theorem dX6_canGoOn_92 : decode cX6_canGoOn 92 = .ok (.ireturn, 1) := by decide +kernel
theorem dX6_canGoOn_93 : decode cX6_canGoOn 93 = .ok (.iconst 0, 1) := by decide +kernel
theorem dX6_canGoOn_94 : decode cX6_canGoOn 94 = .ok (.ireturn, 1) := by decide +kernel
theorem dX6_allEnded_0 : decode cX6_allEnded 0 = .ok (.iconst 0, 1) := by decide +kernel
theorem dX6_allEnded_1 : decode cX6_allEnded 1 = .ok (.istore_n 1, 1) := by decide +kernel
theorem dX6_allEnded_2 : decode cX6_allEnded 2 = .ok (.iload_n 1, 1) := by decide +kernel
theorem dX6_allEnded_3 : decode cX6_allEnded 3 = .ok (.iconst 4, 1) := by decide +kernel
theorem dX6_allEnded_4 : decode cX6_allEnded 4 = .ok (.if_icmp .ge 23, 3) := by decide +kernel
theorem dX6_allEnded_7 : decode cX6_allEnded 7 = .ok (.aload_n 0, 1) := by decide +kernel
theorem dX6_allEnded_8 : decode cX6_allEnded 8 = .ok (.getfield 32, 3) := by decide +kernel
theorem dX6_allEnded_11 : decode cX6_allEnded 11 = .ok (.iload_n 1, 1) := by decide +kernel
theorem dX6_allEnded_12 : decode cX6_allEnded 12 = .ok (.aaload, 1) := by decide +kernel
theorem dX6_allEnded_13 : decode cX6_allEnded 13 = .ok (.invokevirtual 105, 3) := by decide +kernel
theorem dX6_allEnded_16 : decode cX6_allEnded 16 = .ok (.ifCond .eq 5, 3) := by decide +kernel
theorem dX6_allEnded_19 : decode cX6_allEnded 19 = .ok (.iconst 0, 1) := by decide +kernel
theorem dX6_allEnded_20 : decode cX6_allEnded 20 = .ok (.ireturn, 1) := by decide +kernel
theorem dX6_allEnded_21 : decode cX6_allEnded 21 = .ok (.iinc 1 1, 3) := by decide +kernel
theorem dX6_allEnded_24 : decode cX6_allEnded 24 = .ok (.goto (-22), 3) := by decide +kernel
theorem dX6_allEnded_27 : decode cX6_allEnded 27 = .ok (.iconst 1, 1) := by decide +kernel
theorem dX6_allEnded_28 : decode cX6_allEnded 28 = .ok (.ireturn, 1) := by decide +kernel
theorem dX6_nothingOnTheWay_0 : decode cX6_nothingOnTheWay 0 = .ok (.iconst 0, 1) := by decide +kernel
theorem dX6_nothingOnTheWay_1 : decode cX6_nothingOnTheWay 1 = .ok (.istore_n 1, 1) := by decide +kernel
theorem dX6_nothingOnTheWay_2 : decode cX6_nothingOnTheWay 2 = .ok (.iload_n 1, 1) := by decide +kernel
theorem dX6_nothingOnTheWay_3 : decode cX6_nothingOnTheWay 3 = .ok (.bipush 16, 2) := by decide +kernel
theorem dX6_nothingOnTheWay_5 : decode cX6_nothingOnTheWay 5 = .ok (.if_icmp .ge 23, 3) := by decide +kernel
theorem dX6_nothingOnTheWay_8 : decode cX6_nothingOnTheWay 8 = .ok (.aload_n 0, 1) := by decide +kernel
theorem dX6_nothingOnTheWay_9 : decode cX6_nothingOnTheWay 9 = .ok (.getfield 44, 3) := by decide +kernel
theorem dX6_nothingOnTheWay_12 : decode cX6_nothingOnTheWay 12 = .ok (.iload_n 1, 1) := by decide +kernel
theorem dX6_nothingOnTheWay_13 : decode cX6_nothingOnTheWay 13 = .ok (.aaload, 1) := by decide +kernel
theorem dX6_nothingOnTheWay_14 : decode cX6_nothingOnTheWay 14 = .ok (.invokevirtual 128, 3) := by decide +kernel
theorem dX6_nothingOnTheWay_17 : decode cX6_nothingOnTheWay 17 = .ok (.ifCond .eq 5, 3) := by decide +kernel
theorem dX6_nothingOnTheWay_20 : decode cX6_nothingOnTheWay 20 = .ok (.iconst 0, 1) := by decide +kernel
theorem dX6_nothingOnTheWay_21 : decode cX6_nothingOnTheWay 21 = .ok (.ireturn, 1) := by decide +kernel
theorem dX6_nothingOnTheWay_22 : decode cX6_nothingOnTheWay 22 = .ok (.iinc 1 1, 3) := by decide +kernel
theorem dX6_nothingOnTheWay_25 : decode cX6_nothingOnTheWay 25 = .ok (.goto (-23), 3) := by decide +kernel
theorem dX6_nothingOnTheWay_28 : decode cX6_nothingOnTheWay 28 = .ok (.iconst 1, 1) := by decide +kernel
theorem dX6_nothingOnTheWay_29 : decode cX6_nothingOnTheWay 29 = .ok (.ireturn, 1) := by decide +kernel
theorem dX6_isRoleNumber_0 : decode cX6_isRoleNumber 0 = .ok (.iload_n 0, 1) := by decide +kernel
theorem dX6_isRoleNumber_1 : decode cX6_isRoleNumber 1 = .ok (.ifCond .lt 12, 3) := by decide +kernel
theorem dX6_isRoleNumber_4 : decode cX6_isRoleNumber 4 = .ok (.iload_n 0, 1) := by decide +kernel
theorem dX6_isRoleNumber_5 : decode cX6_isRoleNumber 5 = .ok (.iconst 4, 1) := by decide +kernel
theorem dX6_isRoleNumber_6 : decode cX6_isRoleNumber 6 = .ok (.if_icmp .ge 7, 3) := by decide +kernel
theorem dX6_isRoleNumber_9 : decode cX6_isRoleNumber 9 = .ok (.iconst 1, 1) := by decide +kernel
theorem dX6_isRoleNumber_10 : decode cX6_isRoleNumber 10 = .ok (.goto 4, 3) := by decide +kernel
theorem dX6_isRoleNumber_13 : decode cX6_isRoleNumber 13 = .ok (.iconst 0, 1) := by decide +kernel
theorem dX6_isRoleNumber_14 : decode cX6_isRoleNumber 14 = .ok (.ireturn, 1) := by decide +kernel
theorem dX6_isRole_0 : decode cX6_isRole 0 = .ok (.iload_n 0, 1) := by decide +kernel
theorem dX6_isRole_1 : decode cX6_isRole 1 = .ok (.bipush 65, 2) := by decide +kernel
theorem dX6_isRole_3 : decode cX6_isRole 3 = .ok (.if_icmp .lt 13, 3) := by decide +kernel
theorem dX6_isRole_6 : decode cX6_isRole 6 = .ok (.iload_n 0, 1) := by decide +kernel
theorem dX6_isRole_7 : decode cX6_isRole 7 = .ok (.bipush 69, 2) := by decide +kernel
theorem dX6_isRole_9 : decode cX6_isRole 9 = .ok (.if_icmp .ge 7, 3) := by decide +kernel
theorem dX6_isRole_12 : decode cX6_isRole 12 = .ok (.iconst 1, 1) := by decide +kernel
theorem dX6_isRole_13 : decode cX6_isRole 13 = .ok (.goto 4, 3) := by decide +kernel
theorem dX6_isRole_16 : decode cX6_isRole 16 = .ok (.iconst 0, 1) := by decide +kernel
theorem dX6_isRole_17 : decode cX6_isRole 17 = .ok (.ireturn, 1) := by decide +kernel
theorem dX6_isLabel_0 : decode cX6_isLabel 0 = .ok (.iload_n 0, 1) := by decide +kernel
theorem dX6_isLabel_1 : decode cX6_isLabel 1 = .ok (.bipush 112, 2) := by decide +kernel
theorem dX6_isLabel_3 : decode cX6_isLabel 3 = .ok (.if_icmp .lt 13, 3) := by decide +kernel
theorem dX6_isLabel_6 : decode cX6_isLabel 6 = .ok (.iload_n 0, 1) := by decide +kernel
theorem dX6_isLabel_7 : decode cX6_isLabel 7 = .ok (.bipush 118, 2) := by decide +kernel
theorem dX6_isLabel_9 : decode cX6_isLabel 9 = .ok (.if_icmp .ge 7, 3) := by decide +kernel
theorem dX6_isLabel_12 : decode cX6_isLabel 12 = .ok (.iconst 1, 1) := by decide +kernel
theorem dX6_isLabel_13 : decode cX6_isLabel 13 = .ok (.goto 4, 3) := by decide +kernel
theorem dX6_isLabel_16 : decode cX6_isLabel 16 = .ok (.iconst 0, 1) := by decide +kernel
theorem dX6_isLabel_17 : decode cX6_isLabel 17 = .ok (.ireturn, 1) := by decide +kernel
theorem dX6_isVariable_0 : decode cX6_isVariable 0 = .ok (.iload_n 0, 1) := by decide +kernel
theorem dX6_isVariable_1 : decode cX6_isVariable 1 = .ok (.bipush 88, 2) := by decide +kernel
theorem dX6_isVariable_3 : decode cX6_isVariable 3 = .ok (.if_icmp .lt 13, 3) := by decide +kernel
theorem dX6_isVariable_6 : decode cX6_isVariable 6 = .ok (.iload_n 0, 1) := by decide +kernel
theorem dX6_isVariable_7 : decode cX6_isVariable 7 = .ok (.bipush 91, 2) := by decide +kernel
theorem dX6_isVariable_9 : decode cX6_isVariable 9 = .ok (.if_icmp .ge 7, 3) := by decide +kernel
theorem dX6_isVariable_12 : decode cX6_isVariable 12 = .ok (.iconst 1, 1) := by decide +kernel
theorem dX6_isVariable_13 : decode cX6_isVariable 13 = .ok (.goto 4, 3) := by decide +kernel
theorem dX6_isVariable_16 : decode cX6_isVariable 16 = .ok (.iconst 0, 1) := by decide +kernel
theorem dX6_isVariable_17 : decode cX6_isVariable 17 = .ok (.ireturn, 1) := by decide +kernel
theorem dX7_init_0 : decode cX7_init 0 = .ok (.aload_n 0, 1) := by decide +kernel
theorem dX7_init_1 : decode cX7_init 1 = .ok (.invokespecial 1, 3) := by decide +kernel
theorem dX7_init_4 : decode cX7_init 4 = .ok (.aload_n 0, 1) := by decide +kernel
theorem dX7_init_5 : decode cX7_init 5 = .ok (.bipush 60, 2) := by decide +kernel
theorem dX7_init_7 : decode cX7_init 7 = .ok (.newarray .char, 2) := by decide +kernel
theorem dX7_init_9 : decode cX7_init 9 = .ok (.putfield 7, 3) := by decide +kernel
theorem dX7_init_12 : decode cX7_init 12 = .ok (.aload_n 0, 1) := by decide +kernel
theorem dX7_init_13 : decode cX7_init 13 = .ok (.bipush 60, 2) := by decide +kernel
theorem dX7_init_15 : decode cX7_init 15 = .ok (.newarray .int, 2) := by decide +kernel
theorem dX7_init_17 : decode cX7_init 17 = .ok (.putfield 13, 3) := by decide +kernel
theorem dX7_init_20 : decode cX7_init 20 = .ok (.aload_n 0, 1) := by decide +kernel
theorem dX7_init_21 : decode cX7_init 21 = .ok (.bipush 60, 2) := by decide +kernel
theorem dX7_init_23 : decode cX7_init 23 = .ok (.newarray .int, 2) := by decide +kernel
theorem dX7_init_25 : decode cX7_init 25 = .ok (.putfield 17, 3) := by decide +kernel
theorem dX7_init_28 : decode cX7_init 28 = .ok (.aload_n 0, 1) := by decide +kernel
theorem dX7_init_29 : decode cX7_init 29 = .ok (.bipush 60, 2) := by decide +kernel
theorem dX7_init_31 : decode cX7_init 31 = .ok (.newarray .int, 2) := by decide +kernel
theorem dX7_init_33 : decode cX7_init 33 = .ok (.putfield 20, 3) := by decide +kernel
theorem dX7_init_36 : decode cX7_init 36 = .ok (.aload_n 0, 1) := by decide +kernel
theorem dX7_init_37 : decode cX7_init 37 = .ok (.bipush 60, 2) := by decide +kernel
theorem dX7_init_39 : decode cX7_init 39 = .ok (.newarray .int, 2) := by decide +kernel
theorem dX7_init_41 : decode cX7_init 41 = .ok (.putfield 23, 3) := by decide +kernel
theorem dX7_init_44 : decode cX7_init 44 = .ok (.aload_n 0, 1) := by decide +kernel
theorem dX7_init_45 : decode cX7_init 45 = .ok (.bipush 60, 2) := by decide +kernel
theorem dX7_init_47 : decode cX7_init 47 = .ok (.newarray .int, 2) := by decide +kernel
theorem dX7_init_49 : decode cX7_init 49 = .ok (.putfield 26, 3) := by decide +kernel
theorem dX7_init_52 : decode cX7_init 52 = .ok (.aload_n 0, 1) := by decide +kernel
theorem dX7_init_53 : decode cX7_init 53 = .ok (.sipush 14400, 3) := by decide +kernel
theorem dX7_init_56 : decode cX7_init 56 = .ok (.newarray .char, 2) := by decide +kernel
theorem dX7_init_58 : decode cX7_init 58 = .ok (.putfield 29, 3) := by decide +kernel
theorem dX7_init_61 : decode cX7_init 61 = .ok (.aload_n 0, 1) := by decide +kernel
theorem dX7_init_62 : decode cX7_init 62 = .ok (.sipush 240, 3) := by decide +kernel
theorem dX7_init_65 : decode cX7_init 65 = .ok (.newarray .int, 2) := by decide +kernel
theorem dX7_init_67 : decode cX7_init 67 = .ok (.putfield 32, 3) := by decide +kernel
theorem dX7_init_70 : decode cX7_init 70 = .ok (.aload_n 0, 1) := by decide +kernel
theorem dX7_init_71 : decode cX7_init 71 = .ok (.sipush 240, 3) := by decide +kernel
theorem dX7_init_74 : decode cX7_init 74 = .ok (.newarray .char, 2) := by decide +kernel
theorem dX7_init_76 : decode cX7_init 76 = .ok (.putfield 35, 3) := by decide +kernel
theorem dX7_init_79 : decode cX7_init 79 = .ok (.aload_n 0, 1) := by decide +kernel
theorem dX7_init_80 : decode cX7_init 80 = .ok (.iconst 4, 1) := by decide +kernel
theorem dX7_init_81 : decode cX7_init 81 = .ok (.newarray .int, 2) := by decide +kernel
theorem dX7_init_83 : decode cX7_init 83 = .ok (.putfield 38, 3) := by decide +kernel
theorem dX7_init_86 : decode cX7_init 86 = .ok (.aload_n 0, 1) := by decide +kernel
theorem dX7_init_87 : decode cX7_init 87 = .ok (.iconst 4, 1) := by decide +kernel
theorem dX7_init_88 : decode cX7_init 88 = .ok (.newarray .int, 2) := by decide +kernel
theorem dX7_init_90 : decode cX7_init 90 = .ok (.putfield 41, 3) := by decide +kernel
theorem dX7_init_93 : decode cX7_init 93 = .ok (.aload_n 0, 1) := by decide +kernel
theorem dX7_init_94 : decode cX7_init 94 = .ok (.bipush 48, 2) := by decide +kernel
theorem dX7_init_96 : decode cX7_init 96 = .ok (.newarray .int, 2) := by decide +kernel
theorem dX7_init_98 : decode cX7_init 98 = .ok (.putfield 44, 3) := by decide +kernel
theorem dX7_init_101 : decode cX7_init 101 = .ok (.aload_n 0, 1) := by decide +kernel
theorem dX7_init_102 : decode cX7_init 102 = .ok (.bipush 16, 2) := by decide +kernel
theorem dX7_init_104 : decode cX7_init 104 = .ok (.newarray .int, 2) := by decide +kernel
theorem dX7_init_106 : decode cX7_init 106 = .ok (.putfield 47, 3) := by decide +kernel
theorem dX7_init_109 : decode cX7_init 109 = .ok (.return_, 1) := by decide +kernel
theorem dX7_type_0 : decode cX7_type 0 = .ok (.iload_n 1, 1) := by decide +kernel
theorem dX7_type_1 : decode cX7_type 1 = .ok (.bipush 32, 2) := by decide +kernel
theorem dX7_type_3 : decode cX7_type 3 = .ok (.if_icmp .lt 18, 3) := by decide +kernel
theorem dX7_type_6 : decode cX7_type 6 = .ok (.iload_n 1, 1) := by decide +kernel
theorem dX7_type_7 : decode cX7_type 7 = .ok (.bipush 126, 2) := by decide +kernel
theorem dX7_type_9 : decode cX7_type 9 = .ok (.if_icmp .gt 12, 3) := by decide +kernel
theorem dX7_type_12 : decode cX7_type 12 = .ok (.aload_n 0, 1) := by decide +kernel
theorem dX7_type_13 : decode cX7_type 13 = .ok (.getfield 50, 3) := by decide +kernel
theorem dX7_type_16 : decode cX7_type 16 = .ok (.bipush 60, 2) := by decide +kernel
theorem dX7_type_18 : decode cX7_type 18 = .ok (.if_icmp .ne 5, 3) := by decide +kernel
theorem dX7_type_21 : decode cX7_type 21 = .ok (.iconst 0, 1) := by decide +kernel
theorem dX7_type_22 : decode cX7_type 22 = .ok (.ireturn, 1) := by decide +kernel
theorem dX7_type_23 : decode cX7_type 23 = .ok (.aload_n 0, 1) := by decide +kernel
theorem dX7_type_24 : decode cX7_type 24 = .ok (.getfield 7, 3) := by decide +kernel
theorem dX7_type_27 : decode cX7_type 27 = .ok (.aload_n 0, 1) := by decide +kernel
theorem dX7_type_28 : decode cX7_type 28 = .ok (.getfield 50, 3) := by decide +kernel
theorem dX7_type_31 : decode cX7_type 31 = .ok (.iload_n 1, 1) := by decide +kernel
theorem dX7_type_32 : decode cX7_type 32 = .ok (.castore, 1) := by decide +kernel
theorem dX7_type_33 : decode cX7_type 33 = .ok (.aload_n 0, 1) := by decide +kernel
theorem dX7_type_34 : decode cX7_type 34 = .ok (.dup, 1) := by decide +kernel
theorem dX7_type_35 : decode cX7_type 35 = .ok (.getfield 50, 3) := by decide +kernel
theorem dX7_type_38 : decode cX7_type 38 = .ok (.iconst 1, 1) := by decide +kernel
theorem dX7_type_39 : decode cX7_type 39 = .ok (.iadd, 1) := by decide +kernel
theorem dX7_type_40 : decode cX7_type 40 = .ok (.putfield 50, 3) := by decide +kernel
theorem dX7_type_43 : decode cX7_type 43 = .ok (.iconst 1, 1) := by decide +kernel
theorem dX7_type_44 : decode cX7_type 44 = .ok (.ireturn, 1) := by decide +kernel
theorem dX7_isVariable_0 : decode cX7_isVariable 0 = .ok (.iload_n 0, 1) := by decide +kernel
theorem dX7_isVariable_1 : decode cX7_isVariable 1 = .ok (.bipush 88, 2) := by decide +kernel
theorem dX7_isVariable_3 : decode cX7_isVariable 3 = .ok (.if_icmp .lt 13, 3) := by decide +kernel
theorem dX7_isVariable_6 : decode cX7_isVariable 6 = .ok (.iload_n 0, 1) := by decide +kernel
theorem dX7_isVariable_7 : decode cX7_isVariable 7 = .ok (.bipush 90, 2) := by decide +kernel
theorem dX7_isVariable_9 : decode cX7_isVariable 9 = .ok (.if_icmp .gt 7, 3) := by decide +kernel
theorem dX7_isVariable_12 : decode cX7_isVariable 12 = .ok (.iconst 1, 1) := by decide +kernel
theorem dX7_isVariable_13 : decode cX7_isVariable 13 = .ok (.goto 4, 3) := by decide +kernel
theorem dX7_isVariable_16 : decode cX7_isVariable 16 = .ok (.iconst 0, 1) := by decide +kernel
theorem dX7_isVariable_17 : decode cX7_isVariable 17 = .ok (.ireturn, 1) := by decide +kernel
theorem dX7_isRole_0 : decode cX7_isRole 0 = .ok (.iload_n 0, 1) := by decide +kernel
theorem dX7_isRole_1 : decode cX7_isRole 1 = .ok (.bipush 65, 2) := by decide +kernel
theorem dX7_isRole_3 : decode cX7_isRole 3 = .ok (.if_icmp .lt 13, 3) := by decide +kernel
theorem dX7_isRole_6 : decode cX7_isRole 6 = .ok (.iload_n 0, 1) := by decide +kernel
theorem dX7_isRole_7 : decode cX7_isRole 7 = .ok (.bipush 68, 2) := by decide +kernel
theorem dX7_isRole_9 : decode cX7_isRole 9 = .ok (.if_icmp .gt 7, 3) := by decide +kernel
theorem dX7_isRole_12 : decode cX7_isRole 12 = .ok (.iconst 1, 1) := by decide +kernel
theorem dX7_isRole_13 : decode cX7_isRole 13 = .ok (.goto 4, 3) := by decide +kernel
theorem dX7_isRole_16 : decode cX7_isRole 16 = .ok (.iconst 0, 1) := by decide +kernel
theorem dX7_isRole_17 : decode cX7_isRole 17 = .ok (.ireturn, 1) := by decide +kernel
theorem dX7_isLabel_0 : decode cX7_isLabel 0 = .ok (.iload_n 0, 1) := by decide +kernel
theorem dX7_isLabel_1 : decode cX7_isLabel 1 = .ok (.bipush 112, 2) := by decide +kernel
theorem dX7_isLabel_3 : decode cX7_isLabel 3 = .ok (.if_icmp .lt 13, 3) := by decide +kernel
theorem dX7_isLabel_6 : decode cX7_isLabel 6 = .ok (.iload_n 0, 1) := by decide +kernel
theorem dX7_isLabel_7 : decode cX7_isLabel 7 = .ok (.bipush 117, 2) := by decide +kernel
theorem dX7_isLabel_9 : decode cX7_isLabel 9 = .ok (.if_icmp .gt 7, 3) := by decide +kernel
theorem dX7_isLabel_12 : decode cX7_isLabel 12 = .ok (.iconst 1, 1) := by decide +kernel
theorem dX7_isLabel_13 : decode cX7_isLabel 13 = .ok (.goto 4, 3) := by decide +kernel
theorem dX7_isLabel_16 : decode cX7_isLabel 16 = .ok (.iconst 0, 1) := by decide +kernel
theorem dX7_isLabel_17 : decode cX7_isLabel 17 = .ok (.ireturn, 1) := by decide +kernel
theorem dX7_piece_0 : decode cX7_piece 0 = .ok (.aload_n 0, 1) := by decide +kernel
theorem dX7_piece_1 : decode cX7_piece 1 = .ok (.getfield 13, 3) := by decide +kernel
theorem dX7_piece_4 : decode cX7_piece 4 = .ok (.aload_n 0, 1) := by decide +kernel
theorem dX7_piece_5 : decode cX7_piece 5 = .ok (.getfield 54, 3) := by decide +kernel
theorem dX7_piece_8 : decode cX7_piece 8 = .ok (.iload_n 1, 1) := by decide +kernel
theorem dX7_piece_9 : decode cX7_piece 9 = .ok (.iastore, 1) := by decide +kernel
theorem dX7_piece_10 : decode cX7_piece 10 = .ok (.aload_n 0, 1) := by decide +kernel
theorem dX7_piece_11 : decode cX7_piece 11 = .ok (.getfield 17, 3) := by decide +kernel
theorem dX7_piece_14 : decode cX7_piece 14 = .ok (.aload_n 0, 1) := by decide +kernel
theorem dX7_piece_15 : decode cX7_piece 15 = .ok (.getfield 54, 3) := by decide +kernel
theorem dX7_piece_18 : decode cX7_piece 18 = .ok (.iload_n 2, 1) := by decide +kernel
theorem dX7_piece_19 : decode cX7_piece 19 = .ok (.iastore, 1) := by decide +kernel
theorem dX7_piece_20 : decode cX7_piece 20 = .ok (.aload_n 0, 1) := by decide +kernel
theorem dX7_piece_21 : decode cX7_piece 21 = .ok (.getfield 20, 3) := by decide +kernel
theorem dX7_piece_24 : decode cX7_piece 24 = .ok (.aload_n 0, 1) := by decide +kernel
theorem dX7_piece_25 : decode cX7_piece 25 = .ok (.getfield 54, 3) := by decide +kernel
theorem dX7_piece_28 : decode cX7_piece 28 = .ok (.iload_n 3, 1) := by decide +kernel
theorem dX7_piece_29 : decode cX7_piece 29 = .ok (.iastore, 1) := by decide +kernel
theorem dX7_piece_30 : decode cX7_piece 30 = .ok (.aload_n 0, 1) := by decide +kernel
theorem dX7_piece_31 : decode cX7_piece 31 = .ok (.getfield 23, 3) := by decide +kernel
theorem dX7_piece_34 : decode cX7_piece 34 = .ok (.aload_n 0, 1) := by decide +kernel
theorem dX7_piece_35 : decode cX7_piece 35 = .ok (.getfield 54, 3) := by decide +kernel
theorem dX7_piece_38 : decode cX7_piece 38 = .ok (.iload 4, 2) := by decide +kernel
theorem dX7_piece_40 : decode cX7_piece 40 = .ok (.iastore, 1) := by decide +kernel
theorem dX7_piece_41 : decode cX7_piece 41 = .ok (.aload_n 0, 1) := by decide +kernel
theorem dX7_piece_42 : decode cX7_piece 42 = .ok (.getfield 26, 3) := by decide +kernel
theorem dX7_piece_45 : decode cX7_piece 45 = .ok (.aload_n 0, 1) := by decide +kernel
theorem dX7_piece_46 : decode cX7_piece 46 = .ok (.getfield 54, 3) := by decide +kernel
theorem dX7_piece_49 : decode cX7_piece 49 = .ok (.iload 5, 2) := by decide +kernel
theorem dX7_piece_51 : decode cX7_piece 51 = .ok (.iastore, 1) := by decide +kernel
theorem dX7_piece_52 : decode cX7_piece 52 = .ok (.aload_n 0, 1) := by decide +kernel
theorem dX7_piece_53 : decode cX7_piece 53 = .ok (.dup, 1) := by decide +kernel
theorem dX7_piece_54 : decode cX7_piece 54 = .ok (.getfield 54, 3) := by decide +kernel
theorem dX7_piece_57 : decode cX7_piece 57 = .ok (.iconst 1, 1) := by decide +kernel
theorem dX7_piece_58 : decode cX7_piece 58 = .ok (.iadd, 1) := by decide +kernel
theorem dX7_piece_59 : decode cX7_piece 59 = .ok (.putfield 54, 3) := by decide +kernel
theorem dX7_piece_62 : decode cX7_piece 62 = .ok (.aload_n 0, 1) := by decide +kernel
theorem dX7_piece_63 : decode cX7_piece 63 = .ok (.getfield 54, 3) := by decide +kernel
theorem dX7_piece_66 : decode cX7_piece 66 = .ok (.iconst 1, 1) := by decide +kernel
theorem dX7_piece_67 : decode cX7_piece 67 = .ok (.isub, 1) := by decide +kernel
theorem dX7_piece_68 : decode cX7_piece 68 = .ok (.ireturn, 1) := by decide +kernel
theorem dX7_ended_0 : decode cX7_ended 0 = .ok (.iload_n 1, 1) := by decide +kernel
theorem dX7_ended_1 : decode cX7_ended 1 = .ok (.istore_n 2, 1) := by decide +kernel
theorem dX7_ended_2 : decode cX7_ended 2 = .ok (.iload_n 2, 1) := by decide +kernel
theorem dX7_ended_3 : decode cX7_ended 3 = .ok (.ifCond .lt 23, 3) := by decide +kernel
theorem dX7_ended_6 : decode cX7_ended 6 = .ok (.aload_n 0, 1) := by decide +kernel
theorem dX7_ended_7 : decode cX7_ended 7 = .ok (.getfield 13, 3) := by decide +kernel
theorem dX7_ended_10 : decode cX7_ended 10 = .ok (.iload_n 2, 1) := by decide +kernel
theorem dX7_ended_11 : decode cX7_ended 11 = .ok (.iaload, 1) := by decide +kernel
theorem dX7_ended_12 : decode cX7_ended 12 = .ok (.iconst 2, 1) := by decide +kernel
theorem dX7_ended_13 : decode cX7_ended 13 = .ok (.if_icmp .ne 13, 3) := by decide +kernel
theorem dX7_ended_16 : decode cX7_ended 16 = .ok (.aload_n 0, 1) := by decide +kernel
theorem dX7_ended_17 : decode cX7_ended 17 = .ok (.getfield 23, 3) := by decide +kernel
theorem dX7_ended_20 : decode cX7_ended 20 = .ok (.iload_n 2, 1) := by decide +kernel
theorem dX7_ended_21 : decode cX7_ended 21 = .ok (.iaload, 1) := by decide +kernel
theorem dX7_ended_22 : decode cX7_ended 22 = .ok (.istore_n 2, 1) := by decide +kernel
theorem dX7_ended_23 : decode cX7_ended 23 = .ok (.goto (-21), 3) := by decide +kernel
theorem dX7_ended_26 : decode cX7_ended 26 = .ok (.iload_n 2, 1) := by decide +kernel
theorem dX7_ended_27 : decode cX7_ended 27 = .ok (.ireturn, 1) := by decide +kernel
theorem dX7_afterStart_0 : decode cX7_afterStart 0 = .ok (.iload_n 0, 1) := by decide +kernel
theorem dX7_afterStart_1 : decode cX7_afterStart 1 = .ok (.bipush 101, 2) := by decide +kernel
theorem dX7_afterStart_3 : decode cX7_afterStart 3 = .ok (.if_icmp .eq 10, 3) := by decide +kernel
theorem dX7_afterStart_6 : decode cX7_afterStart 6 = .ok (.iload_n 0, 1) := by decide +kernel
theorem dX7_afterStart_7 : decode cX7_afterStart 7 = .ok (.invokestatic 57, 3) := by decide +kernel
theorem dX7_afterStart_10 : decode cX7_afterStart 10 = .ok (.ifCond .eq 8, 3) := by decide +kernel
theorem dX7_afterStart_13 : decode cX7_afterStart 13 = .ok (.bipush 6, 2) := by decide +kernel
theorem dX7_afterStart_15 : decode cX7_afterStart 15 = .ok (.goto 25, 3) := by decide +kernel
theorem dX7_afterStart_18 : decode cX7_afterStart 18 = .ok (.iload_n 0, 1) := by decide +kernel
theorem dX7_afterStart_19 : decode cX7_afterStart 19 = .ok (.bipush 109, 2) := by decide +kernel
theorem dX7_afterStart_21 : decode cX7_afterStart 21 = .ok (.if_icmp .ne 7, 3) := by decide +kernel
theorem dX7_afterStart_24 : decode cX7_afterStart 24 = .ok (.iconst 1, 1) := by decide +kernel
theorem dX7_afterStart_25 : decode cX7_afterStart 25 = .ok (.goto 15, 3) := by decide +kernel
theorem dX7_afterStart_28 : decode cX7_afterStart 28 = .ok (.iload_n 0, 1) := by decide +kernel
theorem dX7_afterStart_29 : decode cX7_afterStart 29 = .ok (.invokestatic 61, 3) := by decide +kernel
theorem dX7_afterStart_32 : decode cX7_afterStart 32 = .ok (.ifCond .eq 7, 3) := by decide +kernel
theorem dX7_afterStart_35 : decode cX7_afterStart 35 = .ok (.iconst 3, 1) := by decide +kernel
theorem dX7_afterStart_36 : decode cX7_afterStart 36 = .ok (.goto 4, 3) := by decide +kernel
theorem dX7_afterStart_39 : decode cX7_afterStart 39 = .ok (.iconst (-1), 1) := by decide +kernel
theorem dX7_afterStart_40 : decode cX7_afterStart 40 = .ok (.ireturn, 1) := by decide +kernel
theorem dX7_read_0 : decode cX7_read 0 = .ok (.aload_n 0, 1) := by decide +kernel
theorem dX7_read_1 : decode cX7_read 1 = .ok (.iconst 0, 1) := by decide +kernel
theorem dX7_read_2 : decode cX7_read 2 = .ok (.putfield 54, 3) := by decide +kernel
theorem dX7_read_5 : decode cX7_read 5 = .ok (.iconst 0, 1) := by decide +kernel
theorem dX7_read_6 : decode cX7_read 6 = .ok (.istore_n 1, 1) := by decide +kernel
theorem dX7_read_7 : decode cX7_read 7 = .ok (.iconst (-1), 1) := by decide +kernel
theorem dX7_read_8 : decode cX7_read 8 = .ok (.istore_n 2, 1) := by decide +kernel
theorem dX7_read_9 : decode cX7_read 9 = .ok (.iconst 0, 1) := by decide +kernel
theorem dX7_read_10 : decode cX7_read 10 = .ok (.istore_n 3, 1) := by decide +kernel
theorem dX7_read_11 : decode cX7_read 11 = .ok (.iconst 0, 1) := by decide +kernel
theorem dX7_read_12 : decode cX7_read 12 = .ok (.istore 4, 2) := by decide +kernel
theorem dX7_read_14 : decode cX7_read 14 = .ok (.iconst 0, 1) := by decide +kernel
theorem dX7_read_15 : decode cX7_read 15 = .ok (.istore 5, 2) := by decide +kernel
theorem dX7_read_17 : decode cX7_read 17 = .ok (.iconst 0, 1) := by decide +kernel
theorem dX7_read_18 : decode cX7_read 18 = .ok (.istore 6, 2) := by decide +kernel
theorem dX7_read_20 : decode cX7_read 20 = .ok (.iload 6, 2) := by decide +kernel
theorem dX7_read_22 : decode cX7_read 22 = .ok (.aload_n 0, 1) := by decide +kernel
theorem dX7_read_23 : decode cX7_read 23 = .ok (.getfield 50, 3) := by decide +kernel
theorem dX7_read_26 : decode cX7_read 26 = .ok (.if_icmp .ge 283, 3) := by decide +kernel
theorem dX7_read_29 : decode cX7_read 29 = .ok (.aload_n 0, 1) := by decide +kernel
theorem dX7_read_30 : decode cX7_read 30 = .ok (.getfield 7, 3) := by decide +kernel
theorem dX7_read_33 : decode cX7_read 33 = .ok (.iload 6, 2) := by decide +kernel
theorem dX7_read_35 : decode cX7_read 35 = .ok (.caload, 1) := by decide +kernel
theorem dX7_read_36 : decode cX7_read 36 = .ok (.istore 7, 2) := by decide +kernel
theorem dX7_read_38 : decode cX7_read 38 = .ok (.iconst (-1), 1) := by decide +kernel
theorem dX7_read_39 : decode cX7_read 39 = .ok (.istore 8, 2) := by decide +kernel
theorem dX7_read_41 : decode cX7_read 41 = .ok (.iload_n 1, 1) := by decide +kernel
theorem dX7_read_42 : decode cX7_read 42 = .ok (.ifCond .ne 66, 3) := by decide +kernel
theorem dX7_read_45 : decode cX7_read 45 = .ok (.iload 7, 2) := by decide +kernel
theorem dX7_read_47 : decode cX7_read 47 = .ok (.invokestatic 64, 3) := by decide +kernel
theorem dX7_read_50 : decode cX7_read 50 = .ok (.istore 8, 2) := by decide +kernel
theorem dX7_read_52 : decode cX7_read 52 = .ok (.iload 7, 2) := by decide +kernel
theorem dX7_read_54 : decode cX7_read 54 = .ok (.bipush 109, 2) := by decide +kernel
theorem dX7_read_56 : decode cX7_read 56 = .ok (.if_icmp .ne 7, 3) := by decide +kernel
theorem dX7_read_59 : decode cX7_read 59 = .ok (.iconst 1, 1) := by decide +kernel
theorem dX7_read_60 : decode cX7_read 60 = .ok (.goto 4, 3) := by decide +kernel
theorem dX7_read_63 : decode cX7_read 63 = .ok (.iconst 0, 1) := by decide +kernel
theorem dX7_read_64 : decode cX7_read 64 = .ok (.istore 5, 2) := by decide +kernel
theorem dX7_read_66 : decode cX7_read 66 = .ok (.iload 7, 2) := by decide +kernel
theorem dX7_read_68 : decode cX7_read 68 = .ok (.istore_n 3, 1) := by decide +kernel
theorem dX7_read_69 : decode cX7_read 69 = .ok (.iload 8, 2) := by decide +kernel
theorem dX7_read_71 : decode cX7_read 71 = .ok (.bipush 6, 2) := by decide +kernel
theorem dX7_read_73 : decode cX7_read 73 = .ok (.if_icmp .ne 203, 3) := by decide +kernel
theorem dX7_read_76 : decode cX7_read 76 = .ok (.aload_n 0, 1) := by decide +kernel
theorem dX7_read_77 : decode cX7_read 77 = .ok (.iload 7, 2) := by decide +kernel
theorem dX7_read_79 : decode cX7_read 79 = .ok (.bipush 101, 2) := by decide +kernel
theorem dX7_read_81 : decode cX7_read 81 = .ok (.if_icmp .ne 7, 3) := by decide +kernel
theorem dX7_read_84 : decode cX7_read 84 = .ok (.iconst 0, 1) := by decide +kernel
theorem dX7_read_85 : decode cX7_read 85 = .ok (.goto 4, 3) := by decide +kernel
theorem dX7_read_88 : decode cX7_read 88 = .ok (.iconst 1, 1) := by decide +kernel
theorem dX7_read_89 : decode cX7_read 89 = .ok (.iload 7, 2) := by decide +kernel
theorem dX7_read_91 : decode cX7_read 91 = .ok (.iconst 0, 1) := by decide +kernel
theorem dX7_read_92 : decode cX7_read 92 = .ok (.iload_n 2, 1) := by decide +kernel
theorem dX7_read_93 : decode cX7_read 93 = .ok (.iload 4, 2) := by decide +kernel
theorem dX7_read_95 : decode cX7_read 95 = .ok (.invokevirtual 68, 3) := by decide +kernel
theorem dX7_read_98 : decode cX7_read 98 = .ok (.pop, 1) := by decide +kernel
theorem dX7_read_99 : decode cX7_read 99 = .ok (.aload_n 0, 1) := by decide +kernel
theorem dX7_read_100 : decode cX7_read 100 = .ok (.iload_n 2, 1) := by decide +kernel
theorem dX7_read_101 : decode cX7_read 101 = .ok (.invokevirtual 72, 3) := by decide +kernel
theorem dX7_read_104 : decode cX7_read 104 = .ok (.istore_n 2, 1) := by decide +kernel
theorem dX7_read_105 : decode cX7_read 105 = .ok (.goto 171, 3) := by decide +kernel
theorem dX7_read_108 : decode cX7_read 108 = .ok (.iload_n 1, 1) := by decide +kernel
theorem dX7_read_109 : decode cX7_read 109 = .ok (.iconst 1, 1) := by decide +kernel
theorem dX7_read_110 : decode cX7_read 110 = .ok (.if_icmp .ne 29, 3) := by decide +kernel
theorem dX7_read_113 : decode cX7_read 113 = .ok (.iload 7, 2) := by decide +kernel
theorem dX7_read_115 : decode cX7_read 115 = .ok (.invokestatic 57, 3) := by decide +kernel
theorem dX7_read_118 : decode cX7_read 118 = .ok (.ifCond .eq 21, 3) := by decide +kernel
theorem dX7_read_121 : decode cX7_read 121 = .ok (.aload_n 0, 1) := by decide +kernel
theorem dX7_read_122 : decode cX7_read 122 = .ok (.iconst 2, 1) := by decide +kernel
theorem dX7_read_123 : decode cX7_read 123 = .ok (.iload 7, 2) := by decide +kernel
theorem dX7_read_125 : decode cX7_read 125 = .ok (.iconst 0, 1) := by decide +kernel
theorem dX7_read_126 : decode cX7_read 126 = .ok (.iload_n 2, 1) := by decide +kernel
theorem dX7_read_127 : decode cX7_read 127 = .ok (.iload 4, 2) := by decide +kernel
theorem dX7_read_129 : decode cX7_read 129 = .ok (.invokevirtual 68, 3) := by decide +kernel
theorem dX7_read_132 : decode cX7_read 132 = .ok (.istore_n 2, 1) := by decide +kernel
theorem dX7_read_133 : decode cX7_read 133 = .ok (.iconst 2, 1) := by decide +kernel
theorem dX7_read_134 : decode cX7_read 134 = .ok (.istore 8, 2) := by decide +kernel
theorem dX7_read_136 : decode cX7_read 136 = .ok (.goto 140, 3) := by decide +kernel
theorem dX7_read_139 : decode cX7_read 139 = .ok (.iload_n 1, 1) := by decide +kernel
theorem dX7_read_140 : decode cX7_read 140 = .ok (.iconst 3, 1) := by decide +kernel
theorem dX7_read_141 : decode cX7_read 141 = .ok (.if_icmp .ne 29, 3) := by decide +kernel
theorem dX7_read_144 : decode cX7_read 144 = .ok (.iload 7, 2) := by decide +kernel
theorem dX7_read_146 : decode cX7_read 146 = .ok (.invokestatic 61, 3) := by decide +kernel
theorem dX7_read_149 : decode cX7_read 149 = .ok (.ifCond .eq 21, 3) := by decide +kernel
theorem dX7_read_152 : decode cX7_read 152 = .ok (.aload_n 0, 1) := by decide +kernel
theorem dX7_read_153 : decode cX7_read 153 = .ok (.iconst 3, 1) := by decide +kernel
theorem dX7_read_154 : decode cX7_read 154 = .ok (.iload_n 3, 1) := by decide +kernel
theorem dX7_read_155 : decode cX7_read 155 = .ok (.iload 7, 2) := by decide +kernel
theorem dX7_read_157 : decode cX7_read 157 = .ok (.iload_n 2, 1) := by decide +kernel
theorem dX7_read_158 : decode cX7_read 158 = .ok (.iload 4, 2) := by decide +kernel
theorem dX7_read_160 : decode cX7_read 160 = .ok (.invokevirtual 68, 3) := by decide +kernel
theorem dX7_read_163 : decode cX7_read 163 = .ok (.istore_n 2, 1) := by decide +kernel
theorem dX7_read_164 : decode cX7_read 164 = .ok (.iconst 4, 1) := by decide +kernel
theorem dX7_read_165 : decode cX7_read 165 = .ok (.istore 8, 2) := by decide +kernel
theorem dX7_read_167 : decode cX7_read 167 = .ok (.goto 109, 3) := by decide +kernel
theorem dX7_read_170 : decode cX7_read 170 = .ok (.iload_n 1, 1) := by decide +kernel
theorem dX7_read_171 : decode cX7_read 171 = .ok (.iconst 2, 1) := by decide +kernel
theorem dX7_read_172 : decode cX7_read 172 = .ok (.if_icmp .ne 16, 3) := by decide +kernel
theorem dX7_read_175 : decode cX7_read 175 = .ok (.iload 7, 2) := by decide +kernel
theorem dX7_read_177 : decode cX7_read 177 = .ok (.bipush 46, 2) := by decide +kernel
theorem dX7_read_179 : decode cX7_read 179 = .ok (.if_icmp .ne 9, 3) := by decide +kernel
theorem dX7_read_182 : decode cX7_read 182 = .ok (.iconst 0, 1) := by decide +kernel
theorem dX7_read_183 : decode cX7_read 183 = .ok (.istore 8, 2) := by decide +kernel
theorem dX7_read_185 : decode cX7_read 185 = .ok (.goto 91, 3) := by decide +kernel
theorem dX7_read_188 : decode cX7_read 188 = .ok (.iload_n 1, 1) := by decide +kernel
theorem dX7_read_189 : decode cX7_read 189 = .ok (.iconst 4, 1) := by decide +kernel
theorem dX7_read_190 : decode cX7_read 190 = .ok (.if_icmp .ne 16, 3) := by decide +kernel
theorem dX7_read_193 : decode cX7_read 193 = .ok (.iload 7, 2) := by decide +kernel
theorem dX7_read_195 : decode cX7_read 195 = .ok (.bipush 123, 2) := by decide +kernel
theorem dX7_read_197 : decode cX7_read 197 = .ok (.if_icmp .ne 9, 3) := by decide +kernel
theorem dX7_read_200 : decode cX7_read 200 = .ok (.iconst 5, 1) := by decide +kernel
theorem dX7_read_201 : decode cX7_read 201 = .ok (.istore 8, 2) := by decide +kernel
theorem dX7_read_203 : decode cX7_read 203 = .ok (.goto 73, 3) := by decide +kernel
theorem dX7_read_206 : decode cX7_read 206 = .ok (.iload_n 1, 1) := by decide +kernel
theorem dX7_read_207 : decode cX7_read 207 = .ok (.iconst 5, 1) := by decide +kernel
theorem dX7_read_208 : decode cX7_read 208 = .ok (.if_icmp .ne 21, 3) := by decide +kernel
theorem dX7_read_211 : decode cX7_read 211 = .ok (.iload 7, 2) := by decide +kernel
theorem dX7_read_213 : decode cX7_read 213 = .ok (.invokestatic 75, 3) := by decide +kernel
theorem dX7_read_216 : decode cX7_read 216 = .ok (.ifCond .eq 13, 3) := by decide +kernel
theorem dX7_read_219 : decode cX7_read 219 = .ok (.iload 7, 2) := by decide +kernel
theorem dX7_read_221 : decode cX7_read 221 = .ok (.istore 4, 2) := by decide +kernel
theorem dX7_read_223 : decode cX7_read 223 = .ok (.iconst 2, 1) := by decide +kernel
theorem dX7_read_224 : decode cX7_read 224 = .ok (.istore 8, 2) := by decide +kernel
theorem dX7_read_226 : decode cX7_read 226 = .ok (.goto 50, 3) := by decide +kernel
theorem dX7_read_229 : decode cX7_read 229 = .ok (.iload_n 1, 1) := by decide +kernel
theorem dX7_read_230 : decode cX7_read 230 = .ok (.bipush 6, 2) := by decide +kernel
theorem dX7_read_232 : decode cX7_read 232 = .ok (.if_icmp .ne 16, 3) := by decide +kernel
theorem dX7_read_235 : decode cX7_read 235 = .ok (.iload 7, 2) := by decide +kernel
theorem dX7_read_237 : decode cX7_read 237 = .ok (.bipush 44, 2) := by decide +kernel
theorem dX7_read_239 : decode cX7_read 239 = .ok (.if_icmp .ne 9, 3) := by decide +kernel
theorem dX7_read_242 : decode cX7_read 242 = .ok (.iconst 5, 1) := by decide +kernel
theorem dX7_read_243 : decode cX7_read 243 = .ok (.istore 8, 2) := by decide +kernel
theorem dX7_read_245 : decode cX7_read 245 = .ok (.goto 31, 3) := by decide +kernel
theorem dX7_read_248 : decode cX7_read 248 = .ok (.iload_n 1, 1) := by decide +kernel
theorem dX7_read_249 : decode cX7_read 249 = .ok (.bipush 6, 2) := by decide +kernel
theorem dX7_read_251 : decode cX7_read 251 = .ok (.if_icmp .ne 25, 3) := by decide +kernel
theorem dX7_read_254 : decode cX7_read 254 = .ok (.iload 7, 2) := by decide +kernel
theorem dX7_read_256 : decode cX7_read 256 = .ok (.bipush 125, 2) := by decide +kernel
theorem dX7_read_258 : decode cX7_read 258 = .ok (.if_icmp .ne 18, 3) := by decide +kernel
theorem dX7_read_261 : decode cX7_read 261 = .ok (.aload_n 0, 1) := by decide +kernel
theorem dX7_read_262 : decode cX7_read 262 = .ok (.aload_n 0, 1) := by decide +kernel
theorem dX7_read_263 : decode cX7_read 263 = .ok (.getfield 23, 3) := by decide +kernel
theorem dX7_read_266 : decode cX7_read 266 = .ok (.iload_n 2, 1) := by decide +kernel
theorem dX7_read_267 : decode cX7_read 267 = .ok (.iaload, 1) := by decide +kernel
theorem dX7_read_268 : decode cX7_read 268 = .ok (.invokevirtual 72, 3) := by decide +kernel
theorem dX7_read_271 : decode cX7_read 271 = .ok (.istore_n 2, 1) := by decide +kernel
theorem dX7_read_272 : decode cX7_read 272 = .ok (.bipush 6, 2) := by decide +kernel
theorem dX7_read_274 : decode cX7_read 274 = .ok (.istore 8, 2) := by decide +kernel
theorem dX7_read_276 : decode cX7_read 276 = .ok (.iload 8, 2) := by decide +kernel
theorem dX7_read_278 : decode cX7_read 278 = .ok (.ifCond .ge 6, 3) := by decide +kernel
theorem dX7_read_281 : decode cX7_read 281 = .ok (.iload 6, 2) := by decide +kernel
theorem dX7_read_283 : decode cX7_read 283 = .ok (.ireturn, 1) := by decide +kernel
theorem dX7_read_284 : decode cX7_read 284 = .ok (.iload 8, 2) := by decide +kernel
theorem dX7_read_286 : decode cX7_read 286 = .ok (.bipush 6, 2) := by decide +kernel
theorem dX7_read_288 : decode cX7_read 288 = .ok (.if_icmp .ne 12, 3) := by decide +kernel
theorem dX7_read_291 : decode cX7_read 291 = .ok (.iload_n 2, 1) := by decide +kernel
theorem dX7_read_292 : decode cX7_read 292 = .ok (.ifCond .ge 8, 3) := by decide +kernel
theorem dX7_read_295 : decode cX7_read 295 = .ok (.bipush 7, 2) := by decide +kernel
theorem dX7_read_297 : decode cX7_read 297 = .ok (.goto 5, 3) := by decide +kernel
theorem dX7_read_300 : decode cX7_read 300 = .ok (.iload 8, 2) := by decide +kernel
theorem dX7_read_302 : decode cX7_read 302 = .ok (.istore_n 1, 1) := by decide +kernel
theorem dX7_read_303 : decode cX7_read 303 = .ok (.iinc 6 1, 3) := by decide +kernel
theorem dX7_read_306 : decode cX7_read 306 = .ok (.goto (-286), 3) := by decide +kernel
theorem dX7_read_309 : decode cX7_read 309 = .ok (.iload_n 1, 1) := by decide +kernel
theorem dX7_read_310 : decode cX7_read 310 = .ok (.bipush 7, 2) := by decide +kernel
theorem dX7_read_312 : decode cX7_read 312 = .ok (.if_icmp .ne 7, 3) := by decide +kernel
theorem dX7_read_315 : decode cX7_read 315 = .ok (.iconst (-1), 1) := by decide +kernel
theorem dX7_read_316 : decode cX7_read 316 = .ok (.goto 7, 3) := by decide +kernel
theorem dX7_read_319 : decode cX7_read 319 = .ok (.aload_n 0, 1) := by decide +kernel
theorem dX7_read_320 : decode cX7_read 320 = .ok (.getfield 50, 3) := by decide +kernel
theorem dX7_read_323 : decode cX7_read 323 = .ok (.ireturn, 1) := by decide +kernel
theorem dX7_bound_0 : decode cX7_bound 0 = .ok (.iconst 0, 1) := by decide +kernel
theorem dX7_bound_1 : decode cX7_bound 1 = .ok (.istore_n 2, 1) := by decide +kernel
theorem dX7_bound_2 : decode cX7_bound 2 = .ok (.aload_n 0, 1) := by decide +kernel
theorem dX7_bound_3 : decode cX7_bound 3 = .ok (.getfield 23, 3) := by decide +kernel
theorem dX7_bound_6 : decode cX7_bound 6 = .ok (.iload_n 1, 1) := by decide +kernel
theorem dX7_bound_7 : decode cX7_bound 7 = .ok (.iaload, 1) := by decide +kernel
theorem dX7_bound_8 : decode cX7_bound 8 = .ok (.istore_n 3, 1) := by decide +kernel
theorem dX7_bound_9 : decode cX7_bound 9 = .ok (.iload_n 3, 1) := by decide +kernel
theorem dX7_bound_10 : decode cX7_bound 10 = .ok (.ifCond .lt 60, 3) := by decide +kernel
theorem dX7_bound_13 : decode cX7_bound 13 = .ok (.aload_n 0, 1) := by decide +kernel
theorem dX7_bound_14 : decode cX7_bound 14 = .ok (.getfield 13, 3) := by decide +kernel
theorem dX7_bound_17 : decode cX7_bound 17 = .ok (.iload_n 3, 1) := by decide +kernel
theorem dX7_bound_18 : decode cX7_bound 18 = .ok (.iaload, 1) := by decide +kernel
theorem dX7_bound_19 : decode cX7_bound 19 = .ok (.iconst 2, 1) := by decide +kernel
theorem dX7_bound_20 : decode cX7_bound 20 = .ok (.if_icmp .ne 20, 3) := by decide +kernel
theorem dX7_bound_23 : decode cX7_bound 23 = .ok (.aload_n 0, 1) := by decide +kernel
theorem dX7_bound_24 : decode cX7_bound 24 = .ok (.getfield 17, 3) := by decide +kernel
theorem dX7_bound_27 : decode cX7_bound 27 = .ok (.iload_n 3, 1) := by decide +kernel
theorem dX7_bound_28 : decode cX7_bound 28 = .ok (.iaload, 1) := by decide +kernel
theorem dX7_bound_29 : decode cX7_bound 29 = .ok (.aload_n 0, 1) := by decide +kernel
theorem dX7_bound_30 : decode cX7_bound 30 = .ok (.getfield 17, 3) := by decide +kernel
theorem dX7_bound_33 : decode cX7_bound 33 = .ok (.iload_n 1, 1) := by decide +kernel
theorem dX7_bound_34 : decode cX7_bound 34 = .ok (.iaload, 1) := by decide +kernel
theorem dX7_bound_35 : decode cX7_bound 35 = .ok (.if_icmp .ne 5, 3) := by decide +kernel
theorem dX7_bound_38 : decode cX7_bound 38 = .ok (.iload_n 2, 1) := by decide +kernel
theorem dX7_bound_39 : decode cX7_bound 39 = .ok (.ireturn, 1) := by decide +kernel
theorem dX7_bound_40 : decode cX7_bound 40 = .ok (.iload_n 2, 1) := by decide +kernel
theorem dX7_bound_41 : decode cX7_bound 41 = .ok (.ifCond .ne 13, 3) := by decide +kernel
theorem dX7_bound_44 : decode cX7_bound 44 = .ok (.aload_n 0, 1) := by decide +kernel
theorem dX7_bound_45 : decode cX7_bound 45 = .ok (.getfield 13, 3) := by decide +kernel
theorem dX7_bound_48 : decode cX7_bound 48 = .ok (.iload_n 3, 1) := by decide +kernel
theorem dX7_bound_49 : decode cX7_bound 49 = .ok (.iaload, 1) := by decide +kernel
theorem dX7_bound_50 : decode cX7_bound 50 = .ok (.iconst 3, 1) := by decide +kernel
theorem dX7_bound_51 : decode cX7_bound 51 = .ok (.if_icmp .ne 7, 3) := by decide +kernel
theorem dX7_bound_54 : decode cX7_bound 54 = .ok (.iconst 1, 1) := by decide +kernel
theorem dX7_bound_55 : decode cX7_bound 55 = .ok (.goto 4, 3) := by decide +kernel
theorem dX7_bound_58 : decode cX7_bound 58 = .ok (.iconst 0, 1) := by decide +kernel
theorem dX7_bound_59 : decode cX7_bound 59 = .ok (.istore_n 2, 1) := by decide +kernel
theorem dX7_bound_60 : decode cX7_bound 60 = .ok (.aload_n 0, 1) := by decide +kernel
theorem dX7_bound_61 : decode cX7_bound 61 = .ok (.getfield 23, 3) := by decide +kernel
theorem dX7_bound_64 : decode cX7_bound 64 = .ok (.iload_n 3, 1) := by decide +kernel
theorem dX7_bound_65 : decode cX7_bound 65 = .ok (.iaload, 1) := by decide +kernel
theorem dX7_bound_66 : decode cX7_bound 66 = .ok (.istore_n 3, 1) := by decide +kernel
theorem dX7_bound_67 : decode cX7_bound 67 = .ok (.goto (-58), 3) := by decide +kernel
theorem dX7_bound_70 : decode cX7_bound 70 = .ok (.iconst 0, 1) := by decide +kernel
theorem dX7_bound_71 : decode cX7_bound 71 = .ok (.ireturn, 1) := by decide +kernel
theorem dX7_single_0 : decode cX7_single 0 = .ok (.aload_n 0, 1) := by decide +kernel
theorem dX7_single_1 : decode cX7_single 1 = .ok (.getfield 23, 3) := by decide +kernel
theorem dX7_single_4 : decode cX7_single 4 = .ok (.iload_n 1, 1) := by decide +kernel
theorem dX7_single_5 : decode cX7_single 5 = .ok (.iaload, 1) := by decide +kernel
theorem dX7_single_6 : decode cX7_single 6 = .ok (.istore_n 2, 1) := by decide +kernel
theorem dX7_single_7 : decode cX7_single 7 = .ok (.iload_n 2, 1) := by decide +kernel
theorem dX7_single_8 : decode cX7_single 8 = .ok (.ifCond .lt 40, 3) := by decide +kernel
theorem dX7_single_11 : decode cX7_single 11 = .ok (.aload_n 0, 1) := by decide +kernel
theorem dX7_single_12 : decode cX7_single 12 = .ok (.getfield 13, 3) := by decide +kernel
theorem dX7_single_15 : decode cX7_single 15 = .ok (.iload_n 2, 1) := by decide +kernel
theorem dX7_single_16 : decode cX7_single 16 = .ok (.iaload, 1) := by decide +kernel
theorem dX7_single_17 : decode cX7_single 17 = .ok (.iconst 2, 1) := by decide +kernel
theorem dX7_single_18 : decode cX7_single 18 = .ok (.if_icmp .ne 20, 3) := by decide +kernel
theorem dX7_single_21 : decode cX7_single 21 = .ok (.aload_n 0, 1) := by decide +kernel
theorem dX7_single_22 : decode cX7_single 22 = .ok (.getfield 17, 3) := by decide +kernel
theorem dX7_single_25 : decode cX7_single 25 = .ok (.iload_n 2, 1) := by decide +kernel
theorem dX7_single_26 : decode cX7_single 26 = .ok (.iaload, 1) := by decide +kernel
theorem dX7_single_27 : decode cX7_single 27 = .ok (.aload_n 0, 1) := by decide +kernel
theorem dX7_single_28 : decode cX7_single 28 = .ok (.getfield 17, 3) := by decide +kernel
theorem dX7_single_31 : decode cX7_single 31 = .ok (.iload_n 1, 1) := by decide +kernel
theorem dX7_single_32 : decode cX7_single 32 = .ok (.iaload, 1) := by decide +kernel
theorem dX7_single_33 : decode cX7_single 33 = .ok (.if_icmp .ne 5, 3) := by decide +kernel
theorem dX7_single_36 : decode cX7_single 36 = .ok (.iconst 0, 1) := by decide +kernel
theorem dX7_single_37 : decode cX7_single 37 = .ok (.ireturn, 1) := by decide +kernel
theorem dX7_single_38 : decode cX7_single 38 = .ok (.aload_n 0, 1) := by decide +kernel
theorem dX7_single_39 : decode cX7_single 39 = .ok (.getfield 23, 3) := by decide +kernel
theorem dX7_single_42 : decode cX7_single 42 = .ok (.iload_n 2, 1) := by decide +kernel
theorem dX7_single_43 : decode cX7_single 43 = .ok (.iaload, 1) := by decide +kernel
theorem dX7_single_44 : decode cX7_single 44 = .ok (.istore_n 2, 1) := by decide +kernel
theorem dX7_single_45 : decode cX7_single 45 = .ok (.goto (-38), 3) := by decide +kernel
theorem dX7_single_48 : decode cX7_single 48 = .ok (.iconst 1, 1) := by decide +kernel
theorem dX7_single_49 : decode cX7_single 49 = .ok (.ireturn, 1) := by decide +kernel
theorem dX7_apart_0 : decode cX7_apart 0 = .ok (.iconst 0, 1) := by decide +kernel
theorem dX7_apart_1 : decode cX7_apart 1 = .ok (.istore_n 2, 1) := by decide +kernel
theorem dX7_apart_2 : decode cX7_apart 2 = .ok (.iload_n 2, 1) := by decide +kernel
theorem dX7_apart_3 : decode cX7_apart 3 = .ok (.aload_n 0, 1) := by decide +kernel
theorem dX7_apart_4 : decode cX7_apart 4 = .ok (.getfield 54, 3) := by decide +kernel
theorem dX7_apart_7 : decode cX7_apart 7 = .ok (.if_icmp .ge 46, 3) := by decide +kernel
theorem dX7_apart_10 : decode cX7_apart 10 = .ok (.iload_n 2, 1) := by decide +kernel
theorem dX7_apart_11 : decode cX7_apart 11 = .ok (.iload_n 1, 1) := by decide +kernel
theorem dX7_apart_12 : decode cX7_apart 12 = .ok (.if_icmp .eq 35, 3) := by decide +kernel
theorem dX7_apart_15 : decode cX7_apart 15 = .ok (.aload_n 0, 1) := by decide +kernel
theorem dX7_apart_16 : decode cX7_apart 16 = .ok (.getfield 23, 3) := by decide +kernel
theorem dX7_apart_19 : decode cX7_apart 19 = .ok (.iload_n 2, 1) := by decide +kernel
theorem dX7_apart_20 : decode cX7_apart 20 = .ok (.iaload, 1) := by decide +kernel
theorem dX7_apart_21 : decode cX7_apart 21 = .ok (.aload_n 0, 1) := by decide +kernel
theorem dX7_apart_22 : decode cX7_apart 22 = .ok (.getfield 23, 3) := by decide +kernel
theorem dX7_apart_25 : decode cX7_apart 25 = .ok (.iload_n 1, 1) := by decide +kernel
theorem dX7_apart_26 : decode cX7_apart 26 = .ok (.iaload, 1) := by decide +kernel
theorem dX7_apart_27 : decode cX7_apart 27 = .ok (.if_icmp .ne 20, 3) := by decide +kernel
theorem dX7_apart_30 : decode cX7_apart 30 = .ok (.aload_n 0, 1) := by decide +kernel
theorem dX7_apart_31 : decode cX7_apart 31 = .ok (.getfield 26, 3) := by decide +kernel
theorem dX7_apart_34 : decode cX7_apart 34 = .ok (.iload_n 2, 1) := by decide +kernel
theorem dX7_apart_35 : decode cX7_apart 35 = .ok (.iaload, 1) := by decide +kernel
theorem dX7_apart_36 : decode cX7_apart 36 = .ok (.aload_n 0, 1) := by decide +kernel
theorem dX7_apart_37 : decode cX7_apart 37 = .ok (.getfield 26, 3) := by decide +kernel
theorem dX7_apart_40 : decode cX7_apart 40 = .ok (.iload_n 1, 1) := by decide +kernel
theorem dX7_apart_41 : decode cX7_apart 41 = .ok (.iaload, 1) := by decide +kernel
theorem dX7_apart_42 : decode cX7_apart 42 = .ok (.if_icmp .ne 5, 3) := by decide +kernel
theorem dX7_apart_45 : decode cX7_apart 45 = .ok (.iconst 0, 1) := by decide +kernel
theorem dX7_apart_46 : decode cX7_apart 46 = .ok (.ireturn, 1) := by decide +kernel
theorem dX7_apart_47 : decode cX7_apart 47 = .ok (.iinc 2 1, 3) := by decide +kernel
theorem dX7_apart_50 : decode cX7_apart 50 = .ok (.goto (-48), 3) := by decide +kernel
theorem dX7_apart_53 : decode cX7_apart 53 = .ok (.iconst 1, 1) := by decide +kernel
theorem dX7_apart_54 : decode cX7_apart 54 = .ok (.ireturn, 1) := by decide +kernel
theorem dX7_sound_0 : decode cX7_sound 0 = .ok (.iconst 0, 1) := by decide +kernel
theorem dX7_sound_1 : decode cX7_sound 1 = .ok (.istore_n 1, 1) := by decide +kernel
theorem dX7_sound_2 : decode cX7_sound 2 = .ok (.iload_n 1, 1) := by decide +kernel
theorem dX7_sound_3 : decode cX7_sound 3 = .ok (.aload_n 0, 1) := by decide +kernel
theorem dX7_sound_4 : decode cX7_sound 4 = .ok (.getfield 54, 3) := by decide +kernel
theorem dX7_sound_7 : decode cX7_sound 7 = .ok (.if_icmp .ge 106, 3) := by decide +kernel
theorem dX7_sound_10 : decode cX7_sound 10 = .ok (.aload_n 0, 1) := by decide +kernel
theorem dX7_sound_11 : decode cX7_sound 11 = .ok (.getfield 13, 3) := by decide +kernel
theorem dX7_sound_14 : decode cX7_sound 14 = .ok (.iload_n 1, 1) := by decide +kernel
theorem dX7_sound_15 : decode cX7_sound 15 = .ok (.iaload, 1) := by decide +kernel
theorem dX7_sound_16 : decode cX7_sound 16 = .ok (.iconst 1, 1) := by decide +kernel
theorem dX7_sound_17 : decode cX7_sound 17 = .ok (.if_icmp .ne 11, 3) := by decide +kernel
theorem dX7_sound_20 : decode cX7_sound 20 = .ok (.aload_n 0, 1) := by decide +kernel
theorem dX7_sound_21 : decode cX7_sound 21 = .ok (.iload_n 1, 1) := by decide +kernel
theorem dX7_sound_22 : decode cX7_sound 22 = .ok (.invokevirtual 78, 3) := by decide +kernel
theorem dX7_sound_25 : decode cX7_sound 25 = .ok (.ifCond .eq 46, 3) := by decide +kernel
theorem dX7_sound_28 : decode cX7_sound 28 = .ok (.aload_n 0, 1) := by decide +kernel
theorem dX7_sound_29 : decode cX7_sound 29 = .ok (.getfield 13, 3) := by decide +kernel
theorem dX7_sound_32 : decode cX7_sound 32 = .ok (.iload_n 1, 1) := by decide +kernel
theorem dX7_sound_33 : decode cX7_sound 33 = .ok (.iaload, 1) := by decide +kernel
theorem dX7_sound_34 : decode cX7_sound 34 = .ok (.iconst 2, 1) := by decide +kernel
theorem dX7_sound_35 : decode cX7_sound 35 = .ok (.if_icmp .ne 11, 3) := by decide +kernel
theorem dX7_sound_38 : decode cX7_sound 38 = .ok (.aload_n 0, 1) := by decide +kernel
theorem dX7_sound_39 : decode cX7_sound 39 = .ok (.iload_n 1, 1) := by decide +kernel
theorem dX7_sound_40 : decode cX7_sound 40 = .ok (.invokevirtual 81, 3) := by decide +kernel
theorem dX7_sound_43 : decode cX7_sound 43 = .ok (.ifCond .eq 28, 3) := by decide +kernel
theorem dX7_sound_46 : decode cX7_sound 46 = .ok (.aload_n 0, 1) := by decide +kernel
theorem dX7_sound_47 : decode cX7_sound 47 = .ok (.getfield 13, 3) := by decide +kernel
theorem dX7_sound_50 : decode cX7_sound 50 = .ok (.iload_n 1, 1) := by decide +kernel
theorem dX7_sound_51 : decode cX7_sound 51 = .ok (.iaload, 1) := by decide +kernel
theorem dX7_sound_52 : decode cX7_sound 52 = .ok (.iconst 3, 1) := by decide +kernel
theorem dX7_sound_53 : decode cX7_sound 53 = .ok (.if_icmp .ne 20, 3) := by decide +kernel
theorem dX7_sound_56 : decode cX7_sound 56 = .ok (.aload_n 0, 1) := by decide +kernel
theorem dX7_sound_57 : decode cX7_sound 57 = .ok (.getfield 17, 3) := by decide +kernel
theorem dX7_sound_60 : decode cX7_sound 60 = .ok (.iload_n 1, 1) := by decide +kernel
theorem dX7_sound_61 : decode cX7_sound 61 = .ok (.iaload, 1) := by decide +kernel
theorem dX7_sound_62 : decode cX7_sound 62 = .ok (.aload_n 0, 1) := by decide +kernel
theorem dX7_sound_63 : decode cX7_sound 63 = .ok (.getfield 20, 3) := by decide +kernel
theorem dX7_sound_66 : decode cX7_sound 66 = .ok (.iload_n 1, 1) := by decide +kernel
theorem dX7_sound_67 : decode cX7_sound 67 = .ok (.iaload, 1) := by decide +kernel
theorem dX7_sound_68 : decode cX7_sound 68 = .ok (.if_icmp .ne 5, 3) := by decide +kernel
theorem dX7_sound_71 : decode cX7_sound 71 = .ok (.iconst 0, 1) := by decide +kernel
theorem dX7_sound_72 : decode cX7_sound 72 = .ok (.ireturn, 1) := by decide +kernel
theorem dX7_sound_73 : decode cX7_sound 73 = .ok (.aload_n 0, 1) := by decide +kernel
theorem dX7_sound_74 : decode cX7_sound 74 = .ok (.getfield 23, 3) := by decide +kernel
theorem dX7_sound_77 : decode cX7_sound 77 = .ok (.iload_n 1, 1) := by decide +kernel
theorem dX7_sound_78 : decode cX7_sound 78 = .ok (.iaload, 1) := by decide +kernel
theorem dX7_sound_79 : decode cX7_sound 79 = .ok (.ifCond .lt 28, 3) := by decide +kernel
theorem dX7_sound_82 : decode cX7_sound 82 = .ok (.aload_n 0, 1) := by decide +kernel
theorem dX7_sound_83 : decode cX7_sound 83 = .ok (.getfield 13, 3) := by decide +kernel
theorem dX7_sound_86 : decode cX7_sound 86 = .ok (.aload_n 0, 1) := by decide +kernel
theorem dX7_sound_87 : decode cX7_sound 87 = .ok (.getfield 23, 3) := by decide +kernel
theorem dX7_sound_90 : decode cX7_sound 90 = .ok (.iload_n 1, 1) := by decide +kernel
theorem dX7_sound_91 : decode cX7_sound 91 = .ok (.iaload, 1) := by decide +kernel
theorem dX7_sound_92 : decode cX7_sound 92 = .ok (.iaload, 1) := by decide +kernel
theorem dX7_sound_93 : decode cX7_sound 93 = .ok (.iconst 3, 1) := by decide +kernel
theorem dX7_sound_94 : decode cX7_sound 94 = .ok (.if_icmp .ne 13, 3) := by decide +kernel
theorem dX7_sound_97 : decode cX7_sound 97 = .ok (.aload_n 0, 1) := by decide +kernel
theorem dX7_sound_98 : decode cX7_sound 98 = .ok (.iload_n 1, 1) := by decide +kernel
theorem dX7_sound_99 : decode cX7_sound 99 = .ok (.invokevirtual 84, 3) := by decide +kernel
theorem dX7_sound_102 : decode cX7_sound 102 = .ok (.ifCond .ne 5, 3) := by decide +kernel
theorem dX7_sound_105 : decode cX7_sound 105 = .ok (.iconst 0, 1) := by decide +kernel
theorem dX7_sound_106 : decode cX7_sound 106 = .ok (.ireturn, 1) := by decide +kernel
theorem dX7_sound_107 : decode cX7_sound 107 = .ok (.iinc 1 1, 3) := by decide +kernel
theorem dX7_sound_110 : decode cX7_sound 110 = .ok (.goto (-108), 3) := by decide +kernel
theorem dX7_sound_113 : decode cX7_sound 113 = .ok (.iconst 1, 1) := by decide +kernel
theorem dX7_sound_114 : decode cX7_sound 114 = .ok (.ireturn, 1) := by decide +kernel
theorem dX7_put_0 : decode cX7_put 0 = .ok (.aload_n 0, 1) := by decide +kernel
theorem dX7_put_1 : decode cX7_put 1 = .ok (.getfield 29, 3) := by decide +kernel
theorem dX7_put_4 : decode cX7_put 4 = .ok (.bipush 60, 2) := by decide +kernel
theorem dX7_put_6 : decode cX7_put 6 = .ok (.iload_n 1, 1) := by decide +kernel
theorem dX7_put_7 : decode cX7_put 7 = .ok (.imul, 1) := by decide +kernel
theorem dX7_put_8 : decode cX7_put 8 = .ok (.aload_n 0, 1) := by decide +kernel
theorem dX7_put_9 : decode cX7_put 9 = .ok (.getfield 32, 3) := by decide +kernel
theorem dX7_put_12 : decode cX7_put 12 = .ok (.iload_n 1, 1) := by decide +kernel
theorem dX7_put_13 : decode cX7_put 13 = .ok (.iaload, 1) := by decide +kernel
theorem dX7_put_14 : decode cX7_put 14 = .ok (.iadd, 1) := by decide +kernel
theorem dX7_put_15 : decode cX7_put 15 = .ok (.iload_n 2, 1) := by decide +kernel
theorem dX7_put_16 : decode cX7_put 16 = .ok (.i2c, 1) := by decide +kernel
theorem dX7_put_17 : decode cX7_put 17 = .ok (.castore, 1) := by decide +kernel
theorem dX7_put_18 : decode cX7_put 18 = .ok (.aload_n 0, 1) := by decide +kernel
theorem dX7_put_19 : decode cX7_put 19 = .ok (.getfield 32, 3) := by decide +kernel
theorem dX7_put_22 : decode cX7_put 22 = .ok (.iload_n 1, 1) := by decide +kernel
theorem dX7_put_23 : decode cX7_put 23 = .ok (.dup2, 1) := by decide +kernel
theorem dX7_put_24 : decode cX7_put 24 = .ok (.iaload, 1) := by decide +kernel
theorem dX7_put_25 : decode cX7_put 25 = .ok (.iconst 1, 1) := by decide +kernel
theorem dX7_put_26 : decode cX7_put 26 = .ok (.iadd, 1) := by decide +kernel
theorem dX7_put_27 : decode cX7_put 27 = .ok (.iastore, 1) := by decide +kernel
theorem dX7_put_28 : decode cX7_put 28 = .ok (.return_, 1) := by decide +kernel
theorem dX7_copy_0 : decode cX7_copy 0 = .ok (.iconst 0, 1) := by decide +kernel
theorem dX7_copy_1 : decode cX7_copy 1 = .ok (.istore_n 3, 1) := by decide +kernel
theorem dX7_copy_2 : decode cX7_copy 2 = .ok (.iload_n 3, 1) := by decide +kernel
theorem dX7_copy_3 : decode cX7_copy 3 = .ok (.aload_n 0, 1) := by decide +kernel
theorem dX7_copy_4 : decode cX7_copy 4 = .ok (.getfield 32, 3) := by decide +kernel
theorem dX7_copy_7 : decode cX7_copy 7 = .ok (.iload_n 1, 1) := by decide +kernel
theorem dX7_copy_8 : decode cX7_copy 8 = .ok (.iaload, 1) := by decide +kernel
theorem dX7_copy_9 : decode cX7_copy 9 = .ok (.if_icmp .ge 25, 3) := by decide +kernel
theorem dX7_copy_12 : decode cX7_copy 12 = .ok (.aload_n 0, 1) := by decide +kernel
theorem dX7_copy_13 : decode cX7_copy 13 = .ok (.iload_n 2, 1) := by decide +kernel
theorem dX7_copy_14 : decode cX7_copy 14 = .ok (.aload_n 0, 1) := by decide +kernel
theorem dX7_copy_15 : decode cX7_copy 15 = .ok (.getfield 29, 3) := by decide +kernel
theorem dX7_copy_18 : decode cX7_copy 18 = .ok (.bipush 60, 2) := by decide +kernel
theorem dX7_copy_20 : decode cX7_copy 20 = .ok (.iload_n 1, 1) := by decide +kernel
theorem dX7_copy_21 : decode cX7_copy 21 = .ok (.imul, 1) := by decide +kernel
theorem dX7_copy_22 : decode cX7_copy 22 = .ok (.iload_n 3, 1) := by decide +kernel
theorem dX7_copy_23 : decode cX7_copy 23 = .ok (.iadd, 1) := by decide +kernel
theorem dX7_copy_24 : decode cX7_copy 24 = .ok (.caload, 1) := by decide +kernel
theorem dX7_copy_25 : decode cX7_copy 25 = .ok (.invokevirtual 87, 3) := by decide +kernel
theorem dX7_copy_28 : decode cX7_copy 28 = .ok (.iinc 3 1, 3) := by decide +kernel
theorem dX7_copy_31 : decode cX7_copy 31 = .ok (.goto (-29), 3) := by decide +kernel
theorem dX7_copy_34 : decode cX7_copy 34 = .ok (.return_, 1) := by decide +kernel
theorem dX7_same_0 : decode cX7_same 0 = .ok (.aload_n 0, 1) := by decide +kernel
theorem dX7_same_1 : decode cX7_same 1 = .ok (.getfield 32, 3) := by decide +kernel
theorem dX7_same_4 : decode cX7_same 4 = .ok (.iload_n 1, 1) := by decide +kernel
theorem dX7_same_5 : decode cX7_same 5 = .ok (.iaload, 1) := by decide +kernel
theorem dX7_same_6 : decode cX7_same 6 = .ok (.aload_n 0, 1) := by decide +kernel
theorem dX7_same_7 : decode cX7_same 7 = .ok (.getfield 32, 3) := by decide +kernel
theorem dX7_same_10 : decode cX7_same 10 = .ok (.iload_n 2, 1) := by decide +kernel
theorem dX7_same_11 : decode cX7_same 11 = .ok (.iaload, 1) := by decide +kernel
theorem dX7_same_12 : decode cX7_same 12 = .ok (.if_icmp .ne 7, 3) := by decide +kernel
theorem dX7_same_15 : decode cX7_same 15 = .ok (.iconst 1, 1) := by decide +kernel
theorem dX7_same_16 : decode cX7_same 16 = .ok (.goto 4, 3) := by decide +kernel
theorem dX7_same_19 : decode cX7_same 19 = .ok (.iconst 0, 1) := by decide +kernel
theorem dX7_same_20 : decode cX7_same 20 = .ok (.istore_n 3, 1) := by decide +kernel
theorem dX7_same_21 : decode cX7_same 21 = .ok (.iconst 0, 1) := by decide +kernel
theorem dX7_same_22 : decode cX7_same 22 = .ok (.istore 4, 2) := by decide +kernel
theorem dX7_same_24 : decode cX7_same 24 = .ok (.iload 4, 2) := by decide +kernel
theorem dX7_same_26 : decode cX7_same 26 = .ok (.aload_n 0, 1) := by decide +kernel
theorem dX7_same_27 : decode cX7_same 27 = .ok (.getfield 32, 3) := by decide +kernel
theorem dX7_same_30 : decode cX7_same 30 = .ok (.iload_n 1, 1) := by decide +kernel
theorem dX7_same_31 : decode cX7_same 31 = .ok (.iaload, 1) := by decide +kernel
theorem dX7_same_32 : decode cX7_same 32 = .ok (.if_icmp .ge 46, 3) := by decide +kernel
theorem dX7_same_35 : decode cX7_same 35 = .ok (.iload_n 3, 1) := by decide +kernel
theorem dX7_same_36 : decode cX7_same 36 = .ok (.ifCond .eq 42, 3) := by decide +kernel
theorem dX7_same_39 : decode cX7_same 39 = .ok (.aload_n 0, 1) := by decide +kernel
theorem dX7_same_40 : decode cX7_same 40 = .ok (.getfield 29, 3) := by decide +kernel
theorem dX7_same_43 : decode cX7_same 43 = .ok (.bipush 60, 2) := by decide +kernel
theorem dX7_same_45 : decode cX7_same 45 = .ok (.iload_n 1, 1) := by decide +kernel
theorem dX7_same_46 : decode cX7_same 46 = .ok (.imul, 1) := by decide +kernel
theorem dX7_same_47 : decode cX7_same 47 = .ok (.iload 4, 2) := by decide +kernel
theorem dX7_same_49 : decode cX7_same 49 = .ok (.iadd, 1) := by decide +kernel
theorem dX7_same_50 : decode cX7_same 50 = .ok (.caload, 1) := by decide +kernel
theorem dX7_same_51 : decode cX7_same 51 = .ok (.aload_n 0, 1) := by decide +kernel
theorem dX7_same_52 : decode cX7_same 52 = .ok (.getfield 29, 3) := by decide +kernel
theorem dX7_same_55 : decode cX7_same 55 = .ok (.bipush 60, 2) := by decide +kernel
theorem dX7_same_57 : decode cX7_same 57 = .ok (.iload_n 2, 1) := by decide +kernel
theorem dX7_same_58 : decode cX7_same 58 = .ok (.imul, 1) := by decide +kernel
theorem dX7_same_59 : decode cX7_same 59 = .ok (.iload 4, 2) := by decide +kernel
theorem dX7_same_61 : decode cX7_same 61 = .ok (.iadd, 1) := by decide +kernel
theorem dX7_same_62 : decode cX7_same 62 = .ok (.caload, 1) := by decide +kernel
theorem dX7_same_63 : decode cX7_same 63 = .ok (.if_icmp .ne 7, 3) := by decide +kernel
theorem dX7_same_66 : decode cX7_same 66 = .ok (.iconst 1, 1) := by decide +kernel
theorem dX7_same_67 : decode cX7_same 67 = .ok (.goto 4, 3) := by decide +kernel
theorem dX7_same_70 : decode cX7_same 70 = .ok (.iconst 0, 1) := by decide +kernel
theorem dX7_same_71 : decode cX7_same 71 = .ok (.istore_n 3, 1) := by decide +kernel
theorem dX7_same_72 : decode cX7_same 72 = .ok (.iinc 4 1, 3) := by decide +kernel
theorem dX7_same_75 : decode cX7_same 75 = .ok (.goto (-51), 3) := by decide +kernel
theorem dX7_same_78 : decode cX7_same 78 = .ok (.iload_n 3, 1) := by decide +kernel
theorem dX7_same_79 : decode cX7_same 79 = .ok (.ireturn, 1) := by decide +kernel
theorem dX7_loopPart_0 : decode cX7_loopPart 0 = .ok (.iconst 4, 1) := by decide +kernel
theorem dX7_loopPart_1 : decode cX7_loopPart 1 = .ok (.iload_n 1, 1) := by decide +kernel
theorem dX7_loopPart_2 : decode cX7_loopPart 2 = .ok (.imul, 1) := by decide +kernel
theorem dX7_loopPart_3 : decode cX7_loopPart 3 = .ok (.iload_n 2, 1) := by decide +kernel
theorem dX7_loopPart_4 : decode cX7_loopPart 4 = .ok (.iadd, 1) := by decide +kernel
theorem dX7_loopPart_5 : decode cX7_loopPart 5 = .ok (.istore_n 3, 1) := by decide +kernel
theorem dX7_loopPart_6 : decode cX7_loopPart 6 = .ok (.iconst 4, 1) := by decide +kernel
theorem dX7_loopPart_7 : decode cX7_loopPart 7 = .ok (.iload_n 1, 1) := by decide +kernel
theorem dX7_loopPart_8 : decode cX7_loopPart 8 = .ok (.iconst 1, 1) := by decide +kernel
theorem dX7_loopPart_9 : decode cX7_loopPart 9 = .ok (.iadd, 1) := by decide +kernel
theorem dX7_loopPart_10 : decode cX7_loopPart 10 = .ok (.imul, 1) := by decide +kernel
theorem dX7_loopPart_11 : decode cX7_loopPart 11 = .ok (.iload_n 2, 1) := by decide +kernel
theorem dX7_loopPart_12 : decode cX7_loopPart 12 = .ok (.iadd, 1) := by decide +kernel
theorem dX7_loopPart_13 : decode cX7_loopPart 13 = .ok (.istore 4, 2) := by decide +kernel
theorem dX7_loopPart_15 : decode cX7_loopPart 15 = .ok (.iconst 0, 1) := by decide +kernel
theorem dX7_loopPart_16 : decode cX7_loopPart 16 = .ok (.istore 5, 2) := by decide +kernel
theorem dX7_loopPart_18 : decode cX7_loopPart 18 = .ok (.iconst 0, 1) := by decide +kernel
theorem dX7_loopPart_19 : decode cX7_loopPart 19 = .ok (.istore 6, 2) := by decide +kernel
theorem dX7_loopPart_21 : decode cX7_loopPart 21 = .ok (.iload 6, 2) := by decide +kernel
theorem dX7_loopPart_23 : decode cX7_loopPart 23 = .ok (.aload_n 0, 1) := by decide +kernel
theorem dX7_loopPart_24 : decode cX7_loopPart 24 = .ok (.getfield 32, 3) := by decide +kernel
theorem dX7_loopPart_27 : decode cX7_loopPart 27 = .ok (.iload 4, 2) := by decide +kernel
theorem dX7_loopPart_29 : decode cX7_loopPart 29 = .ok (.iaload, 1) := by decide +kernel
theorem dX7_loopPart_30 : decode cX7_loopPart 30 = .ok (.if_icmp .ge 43, 3) := by decide +kernel
theorem dX7_loopPart_33 : decode cX7_loopPart 33 = .ok (.iload 5, 2) := by decide +kernel
theorem dX7_loopPart_35 : decode cX7_loopPart 35 = .ok (.ifCond .ne 25, 3) := by decide +kernel
theorem dX7_loopPart_38 : decode cX7_loopPart 38 = .ok (.aload_n 0, 1) := by decide +kernel
theorem dX7_loopPart_39 : decode cX7_loopPart 39 = .ok (.getfield 29, 3) := by decide +kernel
theorem dX7_loopPart_42 : decode cX7_loopPart 42 = .ok (.bipush 60, 2) := by decide +kernel
theorem dX7_loopPart_44 : decode cX7_loopPart 44 = .ok (.iload 4, 2) := by decide +kernel
theorem dX7_loopPart_46 : decode cX7_loopPart 46 = .ok (.imul, 1) := by decide +kernel
theorem dX7_loopPart_47 : decode cX7_loopPart 47 = .ok (.iload 6, 2) := by decide +kernel
theorem dX7_loopPart_49 : decode cX7_loopPart 49 = .ok (.iadd, 1) := by decide +kernel
theorem dX7_loopPart_50 : decode cX7_loopPart 50 = .ok (.caload, 1) := by decide +kernel
theorem dX7_loopPart_51 : decode cX7_loopPart 51 = .ok (.aload_n 0, 1) := by decide +kernel
theorem dX7_loopPart_52 : decode cX7_loopPart 52 = .ok (.getfield 17, 3) := by decide +kernel
theorem dX7_loopPart_55 : decode cX7_loopPart 55 = .ok (.iload_n 1, 1) := by decide +kernel
theorem dX7_loopPart_56 : decode cX7_loopPart 56 = .ok (.iaload, 1) := by decide +kernel
theorem dX7_loopPart_57 : decode cX7_loopPart 57 = .ok (.if_icmp .ne 7, 3) := by decide +kernel
theorem dX7_loopPart_60 : decode cX7_loopPart 60 = .ok (.iconst 1, 1) := by decide +kernel
theorem dX7_loopPart_61 : decode cX7_loopPart 61 = .ok (.goto 4, 3) := by decide +kernel
theorem dX7_loopPart_64 : decode cX7_loopPart 64 = .ok (.iconst 0, 1) := by decide +kernel
theorem dX7_loopPart_65 : decode cX7_loopPart 65 = .ok (.istore 5, 2) := by decide +kernel
theorem dX7_loopPart_67 : decode cX7_loopPart 67 = .ok (.iinc 6 1, 3) := by decide +kernel
theorem dX7_loopPart_70 : decode cX7_loopPart 70 = .ok (.goto (-49), 3) := by decide +kernel
theorem dX7_loopPart_73 : decode cX7_loopPart 73 = .ok (.aload_n 0, 1) := by decide +kernel
theorem dX7_loopPart_74 : decode cX7_loopPart 74 = .ok (.getfield 32, 3) := by decide +kernel
theorem dX7_loopPart_77 : decode cX7_loopPart 77 = .ok (.iload 4, 2) := by decide +kernel
theorem dX7_loopPart_79 : decode cX7_loopPart 79 = .ok (.iaload, 1) := by decide +kernel
theorem dX7_loopPart_80 : decode cX7_loopPart 80 = .ok (.ifCond .ge 13, 3) := by decide +kernel
theorem dX7_loopPart_83 : decode cX7_loopPart 83 = .ok (.aload_n 0, 1) := by decide +kernel
theorem dX7_loopPart_84 : decode cX7_loopPart 84 = .ok (.getfield 32, 3) := by decide +kernel
theorem dX7_loopPart_87 : decode cX7_loopPart 87 = .ok (.iload_n 3, 1) := by decide +kernel
theorem dX7_loopPart_88 : decode cX7_loopPart 88 = .ok (.iconst (-1), 1) := by decide +kernel
theorem dX7_loopPart_89 : decode cX7_loopPart 89 = .ok (.iastore, 1) := by decide +kernel
theorem dX7_loopPart_90 : decode cX7_loopPart 90 = .ok (.goto 66, 3) := by decide +kernel
theorem dX7_loopPart_93 : decode cX7_loopPart 93 = .ok (.iload 5, 2) := by decide +kernel
theorem dX7_loopPart_95 : decode cX7_loopPart 95 = .ok (.ifCond .eq 24, 3) := by decide +kernel
theorem dX7_loopPart_98 : decode cX7_loopPart 98 = .ok (.aload_n 0, 1) := by decide +kernel
theorem dX7_loopPart_99 : decode cX7_loopPart 99 = .ok (.getfield 32, 3) := by decide +kernel
theorem dX7_loopPart_102 : decode cX7_loopPart 102 = .ok (.iload 4, 2) := by decide +kernel
theorem dX7_loopPart_104 : decode cX7_loopPart 104 = .ok (.iaload, 1) := by decide +kernel
theorem dX7_loopPart_105 : decode cX7_loopPart 105 = .ok (.iconst 1, 1) := by decide +kernel
theorem dX7_loopPart_106 : decode cX7_loopPart 106 = .ok (.if_icmp .ne 13, 3) := by decide +kernel
theorem dX7_loopPart_109 : decode cX7_loopPart 109 = .ok (.aload_n 0, 1) := by decide +kernel
theorem dX7_loopPart_110 : decode cX7_loopPart 110 = .ok (.iload_n 3, 1) := by decide +kernel
theorem dX7_loopPart_111 : decode cX7_loopPart 111 = .ok (.bipush 101, 2) := by decide +kernel
theorem dX7_loopPart_113 : decode cX7_loopPart 113 = .ok (.invokevirtual 87, 3) := by decide +kernel
theorem dX7_loopPart_116 : decode cX7_loopPart 116 = .ok (.goto 40, 3) := by decide +kernel
theorem dX7_loopPart_119 : decode cX7_loopPart 119 = .ok (.iload 5, 2) := by decide +kernel
theorem dX7_loopPart_121 : decode cX7_loopPart 121 = .ok (.ifCond .eq 28, 3) := by decide +kernel
theorem dX7_loopPart_124 : decode cX7_loopPart 124 = .ok (.aload_n 0, 1) := by decide +kernel
theorem dX7_loopPart_125 : decode cX7_loopPart 125 = .ok (.iload_n 3, 1) := by decide +kernel
theorem dX7_loopPart_126 : decode cX7_loopPart 126 = .ok (.bipush 109, 2) := by decide +kernel
theorem dX7_loopPart_128 : decode cX7_loopPart 128 = .ok (.invokevirtual 87, 3) := by decide +kernel
theorem dX7_loopPart_131 : decode cX7_loopPart 131 = .ok (.aload_n 0, 1) := by decide +kernel
theorem dX7_loopPart_132 : decode cX7_loopPart 132 = .ok (.iload_n 3, 1) := by decide +kernel
theorem dX7_loopPart_133 : decode cX7_loopPart 133 = .ok (.aload_n 0, 1) := by decide +kernel
theorem dX7_loopPart_134 : decode cX7_loopPart 134 = .ok (.getfield 17, 3) := by decide +kernel
theorem dX7_loopPart_137 : decode cX7_loopPart 137 = .ok (.iload_n 1, 1) := by decide +kernel
theorem dX7_loopPart_138 : decode cX7_loopPart 138 = .ok (.iaload, 1) := by decide +kernel
theorem dX7_loopPart_139 : decode cX7_loopPart 139 = .ok (.invokevirtual 87, 3) := by decide +kernel
theorem dX7_loopPart_142 : decode cX7_loopPart 142 = .ok (.aload_n 0, 1) := by decide +kernel
theorem dX7_loopPart_143 : decode cX7_loopPart 143 = .ok (.iload_n 3, 1) := by decide +kernel
theorem dX7_loopPart_144 : decode cX7_loopPart 144 = .ok (.bipush 46, 2) := by decide +kernel
theorem dX7_loopPart_146 : decode cX7_loopPart 146 = .ok (.invokevirtual 87, 3) := by decide +kernel
theorem dX7_loopPart_149 : decode cX7_loopPart 149 = .ok (.aload_n 0, 1) := by decide +kernel
theorem dX7_loopPart_150 : decode cX7_loopPart 150 = .ok (.iload 4, 2) := by decide +kernel
theorem dX7_loopPart_152 : decode cX7_loopPart 152 = .ok (.iload_n 3, 1) := by decide +kernel
theorem dX7_loopPart_153 : decode cX7_loopPart 153 = .ok (.invokevirtual 91, 3) := by decide +kernel
theorem dX7_loopPart_156 : decode cX7_loopPart 156 = .ok (.return_, 1) := by decide +kernel
theorem dX7_messagePart_0 : decode cX7_messagePart 0 = .ok (.iconst 4, 1) := by decide +kernel
theorem dX7_messagePart_1 : decode cX7_messagePart 1 = .ok (.iload_n 1, 1) := by decide +kernel
theorem dX7_messagePart_2 : decode cX7_messagePart 2 = .ok (.imul, 1) := by decide +kernel
theorem dX7_messagePart_3 : decode cX7_messagePart 3 = .ok (.iload_n 2, 1) := by decide +kernel
theorem dX7_messagePart_4 : decode cX7_messagePart 4 = .ok (.iadd, 1) := by decide +kernel
theorem dX7_messagePart_5 : decode cX7_messagePart 5 = .ok (.istore_n 3, 1) := by decide +kernel
theorem dX7_messagePart_6 : decode cX7_messagePart 6 = .ok (.aload_n 0, 1) := by decide +kernel
theorem dX7_messagePart_7 : decode cX7_messagePart 7 = .ok (.getfield 17, 3) := by decide +kernel
theorem dX7_messagePart_10 : decode cX7_messagePart 10 = .ok (.iload_n 1, 1) := by decide +kernel
theorem dX7_messagePart_11 : decode cX7_messagePart 11 = .ok (.iaload, 1) := by decide +kernel
theorem dX7_messagePart_12 : decode cX7_messagePart 12 = .ok (.bipush 65, 2) := by decide +kernel
theorem dX7_messagePart_14 : decode cX7_messagePart 14 = .ok (.iload_n 2, 1) := by decide +kernel
theorem dX7_messagePart_15 : decode cX7_messagePart 15 = .ok (.iadd, 1) := by decide +kernel
theorem dX7_messagePart_16 : decode cX7_messagePart 16 = .ok (.if_icmp .ne 7, 3) := by decide +kernel
theorem dX7_messagePart_19 : decode cX7_messagePart 19 = .ok (.iconst 1, 1) := by decide +kernel
theorem dX7_messagePart_20 : decode cX7_messagePart 20 = .ok (.goto 4, 3) := by decide +kernel
theorem dX7_messagePart_23 : decode cX7_messagePart 23 = .ok (.iconst 0, 1) := by decide +kernel
theorem dX7_messagePart_24 : decode cX7_messagePart 24 = .ok (.istore 4, 2) := by decide +kernel
theorem dX7_messagePart_26 : decode cX7_messagePart 26 = .ok (.iload 4, 2) := by decide +kernel
theorem dX7_messagePart_28 : decode cX7_messagePart 28 = .ok (.ifCond .ne 16, 3) := by decide +kernel
theorem dX7_messagePart_31 : decode cX7_messagePart 31 = .ok (.aload_n 0, 1) := by decide +kernel
theorem dX7_messagePart_32 : decode cX7_messagePart 32 = .ok (.getfield 20, 3) := by decide +kernel
theorem dX7_messagePart_35 : decode cX7_messagePart 35 = .ok (.iload_n 1, 1) := by decide +kernel
theorem dX7_messagePart_36 : decode cX7_messagePart 36 = .ok (.iaload, 1) := by decide +kernel
theorem dX7_messagePart_37 : decode cX7_messagePart 37 = .ok (.bipush 65, 2) := by decide +kernel
end
section
theorem dX7_messagePart_39 : decode cX7_messagePart 39 = .ok (.iload_n 2, 1) := by decide +kernel
theorem dX7_messagePart_40 : decode cX7_messagePart 40 = .ok (.iadd, 1) := by decide +kernel
theorem dX7_messagePart_41 : decode cX7_messagePart 41 = .ok (.if_icmp .ne 7, 3) := by decide +kernel
theorem dX7_messagePart_44 : decode cX7_messagePart 44 = .ok (.iconst 1, 1) := by decide +kernel
theorem dX7_messagePart_45 : decode cX7_messagePart 45 = .ok (.goto 4, 3) := by decide +kernel
theorem dX7_messagePart_48 : decode cX7_messagePart 48 = .ok (.iconst 0, 1) := by decide +kernel
theorem dX7_messagePart_49 : decode cX7_messagePart 49 = .ok (.istore 5, 2) := by decide +kernel
theorem dX7_messagePart_51 : decode cX7_messagePart 51 = .ok (.iconst (-1), 1) := by decide +kernel
theorem dX7_messagePart_52 : decode cX7_messagePart 52 = .ok (.istore 6, 2) := by decide +kernel
theorem dX7_messagePart_54 : decode cX7_messagePart 54 = .ok (.iconst 1, 1) := by decide +kernel
theorem dX7_messagePart_55 : decode cX7_messagePart 55 = .ok (.istore 7, 2) := by decide +kernel
theorem dX7_messagePart_57 : decode cX7_messagePart 57 = .ok (.iload 5, 2) := by decide +kernel
theorem dX7_messagePart_59 : decode cX7_messagePart 59 = .ok (.ifCond .eq 45, 3) := by decide +kernel
theorem dX7_messagePart_62 : decode cX7_messagePart 62 = .ok (.aload_n 0, 1) := by decide +kernel
theorem dX7_messagePart_63 : decode cX7_messagePart 63 = .ok (.iload_n 3, 1) := by decide +kernel
theorem dX7_messagePart_64 : decode cX7_messagePart 64 = .ok (.iload 4, 2) := by decide +kernel
theorem dX7_messagePart_66 : decode cX7_messagePart 66 = .ok (.ifCond .eq 12, 3) := by decide +kernel
theorem dX7_messagePart_69 : decode cX7_messagePart 69 = .ok (.aload_n 0, 1) := by decide +kernel
theorem dX7_messagePart_70 : decode cX7_messagePart 70 = .ok (.getfield 20, 3) := by decide +kernel
theorem dX7_messagePart_73 : decode cX7_messagePart 73 = .ok (.iload_n 1, 1) := by decide +kernel
theorem dX7_messagePart_74 : decode cX7_messagePart 74 = .ok (.iaload, 1) := by decide +kernel
theorem dX7_messagePart_75 : decode cX7_messagePart 75 = .ok (.goto 9, 3) := by decide +kernel
theorem dX7_messagePart_78 : decode cX7_messagePart 78 = .ok (.aload_n 0, 1) := by decide +kernel
theorem dX7_messagePart_79 : decode cX7_messagePart 79 = .ok (.getfield 17, 3) := by decide +kernel
theorem dX7_messagePart_82 : decode cX7_messagePart 82 = .ok (.iload_n 1, 1) := by decide +kernel
theorem dX7_messagePart_83 : decode cX7_messagePart 83 = .ok (.iaload, 1) := by decide +kernel
theorem dX7_messagePart_84 : decode cX7_messagePart 84 = .ok (.invokevirtual 87, 3) := by decide +kernel
theorem dX7_messagePart_87 : decode cX7_messagePart 87 = .ok (.aload_n 0, 1) := by decide +kernel
theorem dX7_messagePart_88 : decode cX7_messagePart 88 = .ok (.iload_n 3, 1) := by decide +kernel
theorem dX7_messagePart_89 : decode cX7_messagePart 89 = .ok (.iload 4, 2) := by decide +kernel
theorem dX7_messagePart_91 : decode cX7_messagePart 91 = .ok (.ifCond .eq 8, 3) := by decide +kernel
theorem dX7_messagePart_94 : decode cX7_messagePart 94 = .ok (.bipush 33, 2) := by decide +kernel
theorem dX7_messagePart_96 : decode cX7_messagePart 96 = .ok (.goto 5, 3) := by decide +kernel
theorem dX7_messagePart_99 : decode cX7_messagePart 99 = .ok (.bipush 63, 2) := by decide +kernel
theorem dX7_messagePart_101 : decode cX7_messagePart 101 = .ok (.invokevirtual 87, 3) := by decide +kernel
theorem dX7_messagePart_104 : decode cX7_messagePart 104 = .ok (.iload_n 1, 1) := by decide +kernel
theorem dX7_messagePart_105 : decode cX7_messagePart 105 = .ok (.iconst 1, 1) := by decide +kernel
theorem dX7_messagePart_106 : decode cX7_messagePart 106 = .ok (.iadd, 1) := by decide +kernel
theorem dX7_messagePart_107 : decode cX7_messagePart 107 = .ok (.istore 8, 2) := by decide +kernel
theorem dX7_messagePart_109 : decode cX7_messagePart 109 = .ok (.iload 8, 2) := by decide +kernel
theorem dX7_messagePart_111 : decode cX7_messagePart 111 = .ok (.aload_n 0, 1) := by decide +kernel
theorem dX7_messagePart_112 : decode cX7_messagePart 112 = .ok (.getfield 54, 3) := by decide +kernel
theorem dX7_messagePart_115 : decode cX7_messagePart 115 = .ok (.if_icmp .ge 131, 3) := by decide +kernel
theorem dX7_messagePart_118 : decode cX7_messagePart 118 = .ok (.iload 7, 2) := by decide +kernel
theorem dX7_messagePart_120 : decode cX7_messagePart 120 = .ok (.ifCond .eq 126, 3) := by decide +kernel
theorem dX7_messagePart_123 : decode cX7_messagePart 123 = .ok (.aload_n 0, 1) := by decide +kernel
theorem dX7_messagePart_124 : decode cX7_messagePart 124 = .ok (.getfield 23, 3) := by decide +kernel
theorem dX7_messagePart_127 : decode cX7_messagePart 127 = .ok (.iload 8, 2) := by decide +kernel
theorem dX7_messagePart_129 : decode cX7_messagePart 129 = .ok (.iaload, 1) := by decide +kernel
theorem dX7_messagePart_130 : decode cX7_messagePart 130 = .ok (.iload_n 1, 1) := by decide +kernel
theorem dX7_messagePart_131 : decode cX7_messagePart 131 = .ok (.if_icmp .eq 6, 3) := by decide +kernel
theorem dX7_messagePart_134 : decode cX7_messagePart 134 = .ok (.goto 106, 3) := by decide +kernel
theorem dX7_messagePart_137 : decode cX7_messagePart 137 = .ok (.iconst 4, 1) := by decide +kernel
theorem dX7_messagePart_138 : decode cX7_messagePart 138 = .ok (.iload 8, 2) := by decide +kernel
theorem dX7_messagePart_140 : decode cX7_messagePart 140 = .ok (.imul, 1) := by decide +kernel
theorem dX7_messagePart_141 : decode cX7_messagePart 141 = .ok (.iload_n 2, 1) := by decide +kernel
theorem dX7_messagePart_142 : decode cX7_messagePart 142 = .ok (.iadd, 1) := by decide +kernel
theorem dX7_messagePart_143 : decode cX7_messagePart 143 = .ok (.istore 9, 2) := by decide +kernel
theorem dX7_messagePart_145 : decode cX7_messagePart 145 = .ok (.aload_n 0, 1) := by decide +kernel
theorem dX7_messagePart_146 : decode cX7_messagePart 146 = .ok (.getfield 32, 3) := by decide +kernel
theorem dX7_messagePart_149 : decode cX7_messagePart 149 = .ok (.iload 9, 2) := by decide +kernel
theorem dX7_messagePart_151 : decode cX7_messagePart 151 = .ok (.iaload, 1) := by decide +kernel
theorem dX7_messagePart_152 : decode cX7_messagePart 152 = .ok (.ifCond .lt 28, 3) := by decide +kernel
theorem dX7_messagePart_155 : decode cX7_messagePart 155 = .ok (.iload 5, 2) := by decide +kernel
theorem dX7_messagePart_157 : decode cX7_messagePart 157 = .ok (.ifCond .ne 19, 3) := by decide +kernel
theorem dX7_messagePart_160 : decode cX7_messagePart 160 = .ok (.iload 6, 2) := by decide +kernel
theorem dX7_messagePart_162 : decode cX7_messagePart 162 = .ok (.ifCond .lt 14, 3) := by decide +kernel
theorem dX7_messagePart_165 : decode cX7_messagePart 165 = .ok (.aload_n 0, 1) := by decide +kernel
theorem dX7_messagePart_166 : decode cX7_messagePart 166 = .ok (.iload 6, 2) := by decide +kernel
theorem dX7_messagePart_168 : decode cX7_messagePart 168 = .ok (.iload 9, 2) := by decide +kernel
theorem dX7_messagePart_170 : decode cX7_messagePart 170 = .ok (.invokevirtual 94, 3) := by decide +kernel
theorem dX7_messagePart_173 : decode cX7_messagePart 173 = .ok (.ifCond .eq 7, 3) := by decide +kernel
theorem dX7_messagePart_176 : decode cX7_messagePart 176 = .ok (.iconst 1, 1) := by decide +kernel
theorem dX7_messagePart_177 : decode cX7_messagePart 177 = .ok (.goto 4, 3) := by decide +kernel
theorem dX7_messagePart_180 : decode cX7_messagePart 180 = .ok (.iconst 0, 1) := by decide +kernel
theorem dX7_messagePart_181 : decode cX7_messagePart 181 = .ok (.istore 7, 2) := by decide +kernel
theorem dX7_messagePart_183 : decode cX7_messagePart 183 = .ok (.iload 5, 2) := by decide +kernel
theorem dX7_messagePart_185 : decode cX7_messagePart 185 = .ok (.ifCond .eq 51, 3) := by decide +kernel
theorem dX7_messagePart_188 : decode cX7_messagePart 188 = .ok (.iload 7, 2) := by decide +kernel
theorem dX7_messagePart_190 : decode cX7_messagePart 190 = .ok (.ifCond .eq 46, 3) := by decide +kernel
theorem dX7_messagePart_193 : decode cX7_messagePart 193 = .ok (.aload_n 0, 1) := by decide +kernel
theorem dX7_messagePart_194 : decode cX7_messagePart 194 = .ok (.iload_n 3, 1) := by decide +kernel
theorem dX7_messagePart_195 : decode cX7_messagePart 195 = .ok (.iload 6, 2) := by decide +kernel
theorem dX7_messagePart_197 : decode cX7_messagePart 197 = .ok (.ifCond .ge 8, 3) := by decide +kernel
theorem dX7_messagePart_200 : decode cX7_messagePart 200 = .ok (.bipush 123, 2) := by decide +kernel
theorem dX7_messagePart_202 : decode cX7_messagePart 202 = .ok (.goto 5, 3) := by decide +kernel
theorem dX7_messagePart_205 : decode cX7_messagePart 205 = .ok (.bipush 44, 2) := by decide +kernel
theorem dX7_messagePart_207 : decode cX7_messagePart 207 = .ok (.invokevirtual 87, 3) := by decide +kernel
theorem dX7_messagePart_210 : decode cX7_messagePart 210 = .ok (.aload_n 0, 1) := by decide +kernel
theorem dX7_messagePart_211 : decode cX7_messagePart 211 = .ok (.iload_n 3, 1) := by decide +kernel
theorem dX7_messagePart_212 : decode cX7_messagePart 212 = .ok (.aload_n 0, 1) := by decide +kernel
theorem dX7_messagePart_213 : decode cX7_messagePart 213 = .ok (.getfield 26, 3) := by decide +kernel
theorem dX7_messagePart_216 : decode cX7_messagePart 216 = .ok (.iload 8, 2) := by decide +kernel
theorem dX7_messagePart_218 : decode cX7_messagePart 218 = .ok (.iaload, 1) := by decide +kernel
theorem dX7_messagePart_219 : decode cX7_messagePart 219 = .ok (.invokevirtual 87, 3) := by decide +kernel
theorem dX7_messagePart_222 : decode cX7_messagePart 222 = .ok (.aload_n 0, 1) := by decide +kernel
theorem dX7_messagePart_223 : decode cX7_messagePart 223 = .ok (.iload_n 3, 1) := by decide +kernel
theorem dX7_messagePart_224 : decode cX7_messagePart 224 = .ok (.bipush 46, 2) := by decide +kernel
theorem dX7_messagePart_226 : decode cX7_messagePart 226 = .ok (.invokevirtual 87, 3) := by decide +kernel
theorem dX7_messagePart_229 : decode cX7_messagePart 229 = .ok (.aload_n 0, 1) := by decide +kernel
theorem dX7_messagePart_230 : decode cX7_messagePart 230 = .ok (.iload 9, 2) := by decide +kernel
theorem dX7_messagePart_232 : decode cX7_messagePart 232 = .ok (.iload_n 3, 1) := by decide +kernel
theorem dX7_messagePart_233 : decode cX7_messagePart 233 = .ok (.invokevirtual 91, 3) := by decide +kernel
theorem dX7_messagePart_236 : decode cX7_messagePart 236 = .ok (.iload 9, 2) := by decide +kernel
theorem dX7_messagePart_238 : decode cX7_messagePart 238 = .ok (.istore 6, 2) := by decide +kernel
theorem dX7_messagePart_240 : decode cX7_messagePart 240 = .ok (.iinc 8 1, 3) := by decide +kernel
theorem dX7_messagePart_243 : decode cX7_messagePart 243 = .ok (.goto (-134), 3) := by decide +kernel
theorem dX7_messagePart_246 : decode cX7_messagePart 246 = .ok (.iload 7, 2) := by decide +kernel
theorem dX7_messagePart_248 : decode cX7_messagePart 248 = .ok (.ifCond .ne 13, 3) := by decide +kernel
theorem dX7_messagePart_251 : decode cX7_messagePart 251 = .ok (.aload_n 0, 1) := by decide +kernel
theorem dX7_messagePart_252 : decode cX7_messagePart 252 = .ok (.getfield 32, 3) := by decide +kernel
theorem dX7_messagePart_255 : decode cX7_messagePart 255 = .ok (.iload_n 3, 1) := by decide +kernel
theorem dX7_messagePart_256 : decode cX7_messagePart 256 = .ok (.iconst (-1), 1) := by decide +kernel
theorem dX7_messagePart_257 : decode cX7_messagePart 257 = .ok (.iastore, 1) := by decide +kernel
theorem dX7_messagePart_258 : decode cX7_messagePart 258 = .ok (.goto 25, 3) := by decide +kernel
theorem dX7_messagePart_261 : decode cX7_messagePart 261 = .ok (.iload 5, 2) := by decide +kernel
theorem dX7_messagePart_263 : decode cX7_messagePart 263 = .ok (.ifCond .eq 13, 3) := by decide +kernel
theorem dX7_messagePart_266 : decode cX7_messagePart 266 = .ok (.aload_n 0, 1) := by decide +kernel
theorem dX7_messagePart_267 : decode cX7_messagePart 267 = .ok (.iload_n 3, 1) := by decide +kernel
theorem dX7_messagePart_268 : decode cX7_messagePart 268 = .ok (.bipush 125, 2) := by decide +kernel
theorem dX7_messagePart_270 : decode cX7_messagePart 270 = .ok (.invokevirtual 87, 3) := by decide +kernel
theorem dX7_messagePart_273 : decode cX7_messagePart 273 = .ok (.goto 10, 3) := by decide +kernel
theorem dX7_messagePart_276 : decode cX7_messagePart 276 = .ok (.aload_n 0, 1) := by decide +kernel
theorem dX7_messagePart_277 : decode cX7_messagePart 277 = .ok (.iload 6, 2) := by decide +kernel
theorem dX7_messagePart_279 : decode cX7_messagePart 279 = .ok (.iload_n 3, 1) := by decide +kernel
theorem dX7_messagePart_280 : decode cX7_messagePart 280 = .ok (.invokevirtual 91, 3) := by decide +kernel
theorem dX7_messagePart_283 : decode cX7_messagePart 283 = .ok (.return_, 1) := by decide +kernel
theorem dX7_project_0 : decode cX7_project 0 = .ok (.aload_n 0, 1) := by decide +kernel
theorem dX7_project_1 : decode cX7_project 1 = .ok (.getfield 54, 3) := by decide +kernel
theorem dX7_project_4 : decode cX7_project 4 = .ok (.iconst 1, 1) := by decide +kernel
theorem dX7_project_5 : decode cX7_project 5 = .ok (.isub, 1) := by decide +kernel
theorem dX7_project_6 : decode cX7_project 6 = .ok (.istore_n 1, 1) := by decide +kernel
theorem dX7_project_7 : decode cX7_project 7 = .ok (.iload_n 1, 1) := by decide +kernel
theorem dX7_project_8 : decode cX7_project 8 = .ok (.ifCond .lt 86, 3) := by decide +kernel
theorem dX7_project_11 : decode cX7_project 11 = .ok (.iconst 0, 1) := by decide +kernel
theorem dX7_project_12 : decode cX7_project 12 = .ok (.istore_n 2, 1) := by decide +kernel
theorem dX7_project_13 : decode cX7_project 13 = .ok (.iload_n 2, 1) := by decide +kernel
theorem dX7_project_14 : decode cX7_project 14 = .ok (.iconst 4, 1) := by decide +kernel
theorem dX7_project_15 : decode cX7_project 15 = .ok (.if_icmp .ge 73, 3) := by decide +kernel
theorem dX7_project_18 : decode cX7_project 18 = .ok (.aload_n 0, 1) := by decide +kernel
theorem dX7_project_19 : decode cX7_project 19 = .ok (.getfield 32, 3) := by decide +kernel
theorem dX7_project_22 : decode cX7_project 22 = .ok (.iconst 4, 1) := by decide +kernel
theorem dX7_project_23 : decode cX7_project 23 = .ok (.iload_n 1, 1) := by decide +kernel
theorem dX7_project_24 : decode cX7_project 24 = .ok (.imul, 1) := by decide +kernel
theorem dX7_project_25 : decode cX7_project 25 = .ok (.iload_n 2, 1) := by decide +kernel
theorem dX7_project_26 : decode cX7_project 26 = .ok (.iadd, 1) := by decide +kernel
theorem dX7_project_27 : decode cX7_project 27 = .ok (.iconst 0, 1) := by decide +kernel
theorem dX7_project_28 : decode cX7_project 28 = .ok (.iastore, 1) := by decide +kernel
theorem dX7_project_29 : decode cX7_project 29 = .ok (.aload_n 0, 1) := by decide +kernel
theorem dX7_project_30 : decode cX7_project 30 = .ok (.getfield 13, 3) := by decide +kernel
theorem dX7_project_33 : decode cX7_project 33 = .ok (.iload_n 1, 1) := by decide +kernel
theorem dX7_project_34 : decode cX7_project 34 = .ok (.iaload, 1) := by decide +kernel
theorem dX7_project_35 : decode cX7_project 35 = .ok (.iconst 2, 1) := by decide +kernel
theorem dX7_project_36 : decode cX7_project 36 = .ok (.if_icmp .ne 12, 3) := by decide +kernel
theorem dX7_project_39 : decode cX7_project 39 = .ok (.aload_n 0, 1) := by decide +kernel
theorem dX7_project_40 : decode cX7_project 40 = .ok (.iload_n 1, 1) := by decide +kernel
theorem dX7_project_41 : decode cX7_project 41 = .ok (.iload_n 2, 1) := by decide +kernel
theorem dX7_project_42 : decode cX7_project 42 = .ok (.invokevirtual 98, 3) := by decide +kernel
theorem dX7_project_45 : decode cX7_project 45 = .ok (.goto 37, 3) := by decide +kernel
theorem dX7_project_48 : decode cX7_project 48 = .ok (.aload_n 0, 1) := by decide +kernel
theorem dX7_project_49 : decode cX7_project 49 = .ok (.getfield 13, 3) := by decide +kernel
theorem dX7_project_52 : decode cX7_project 52 = .ok (.iload_n 1, 1) := by decide +kernel
theorem dX7_project_53 : decode cX7_project 53 = .ok (.iaload, 1) := by decide +kernel
theorem dX7_project_54 : decode cX7_project 54 = .ok (.iconst 3, 1) := by decide +kernel
theorem dX7_project_55 : decode cX7_project 55 = .ok (.if_icmp .ne 12, 3) := by decide +kernel
theorem dX7_project_58 : decode cX7_project 58 = .ok (.aload_n 0, 1) := by decide +kernel
theorem dX7_project_59 : decode cX7_project 59 = .ok (.iload_n 1, 1) := by decide +kernel
theorem dX7_project_60 : decode cX7_project 60 = .ok (.iload_n 2, 1) := by decide +kernel
theorem dX7_project_61 : decode cX7_project 61 = .ok (.invokevirtual 101, 3) := by decide +kernel
theorem dX7_project_64 : decode cX7_project 64 = .ok (.goto 18, 3) := by decide +kernel
theorem dX7_project_67 : decode cX7_project 67 = .ok (.aload_n 0, 1) := by decide +kernel
theorem dX7_project_68 : decode cX7_project 68 = .ok (.iconst 4, 1) := by decide +kernel
theorem dX7_project_69 : decode cX7_project 69 = .ok (.iload_n 1, 1) := by decide +kernel
theorem dX7_project_70 : decode cX7_project 70 = .ok (.imul, 1) := by decide +kernel
theorem dX7_project_71 : decode cX7_project 71 = .ok (.iload_n 2, 1) := by decide +kernel
theorem dX7_project_72 : decode cX7_project 72 = .ok (.iadd, 1) := by decide +kernel
theorem dX7_project_73 : decode cX7_project 73 = .ok (.aload_n 0, 1) := by decide +kernel
theorem dX7_project_74 : decode cX7_project 74 = .ok (.getfield 17, 3) := by decide +kernel
theorem dX7_project_77 : decode cX7_project 77 = .ok (.iload_n 1, 1) := by decide +kernel
theorem dX7_project_78 : decode cX7_project 78 = .ok (.iaload, 1) := by decide +kernel
theorem dX7_project_79 : decode cX7_project 79 = .ok (.invokevirtual 87, 3) := by decide +kernel
theorem dX7_project_82 : decode cX7_project 82 = .ok (.iinc 2 1, 3) := by decide +kernel
theorem dX7_project_85 : decode cX7_project 85 = .ok (.goto (-72), 3) := by decide +kernel
theorem dX7_project_88 : decode cX7_project 88 = .ok (.iinc 1 (-1), 3) := by decide +kernel
theorem dX7_project_91 : decode cX7_project 91 = .ok (.goto (-84), 3) := by decide +kernel
theorem dX7_project_94 : decode cX7_project 94 = .ok (.return_, 1) := by decide +kernel
theorem dX7_define_0 : decode cX7_define 0 = .ok (.aload_n 0, 1) := by decide +kernel
theorem dX7_define_1 : decode cX7_define 1 = .ok (.invokevirtual 104, 3) := by decide +kernel
theorem dX7_define_4 : decode cX7_define 4 = .ok (.istore_n 1, 1) := by decide +kernel
theorem dX7_define_5 : decode cX7_define 5 = .ok (.aload_n 0, 1) := by decide +kernel
theorem dX7_define_6 : decode cX7_define 6 = .ok (.iconst 0, 1) := by decide +kernel
theorem dX7_define_7 : decode cX7_define 7 = .ok (.putfield 50, 3) := by decide +kernel
theorem dX7_define_10 : decode cX7_define 10 = .ok (.iload_n 1, 1) := by decide +kernel
theorem dX7_define_11 : decode cX7_define 11 = .ok (.ifCond .lt 5, 3) := by decide +kernel
theorem dX7_define_14 : decode cX7_define 14 = .ok (.iload_n 1, 1) := by decide +kernel
theorem dX7_define_15 : decode cX7_define 15 = .ok (.ireturn, 1) := by decide +kernel
theorem dX7_define_16 : decode cX7_define 16 = .ok (.aload_n 0, 1) := by decide +kernel
theorem dX7_define_17 : decode cX7_define 17 = .ok (.invokevirtual 108, 3) := by decide +kernel
theorem dX7_define_20 : decode cX7_define 20 = .ok (.ifCond .ne 6, 3) := by decide +kernel
theorem dX7_define_23 : decode cX7_define 23 = .ok (.bipush (-2), 2) := by decide +kernel
theorem dX7_define_25 : decode cX7_define 25 = .ok (.ireturn, 1) := by decide +kernel
theorem dX7_define_26 : decode cX7_define 26 = .ok (.aload_n 0, 1) := by decide +kernel
theorem dX7_define_27 : decode cX7_define 27 = .ok (.invokevirtual 112, 3) := by decide +kernel
theorem dX7_define_30 : decode cX7_define 30 = .ok (.aload_n 0, 1) := by decide +kernel
theorem dX7_define_31 : decode cX7_define 31 = .ok (.iconst 0, 1) := by decide +kernel
theorem dX7_define_32 : decode cX7_define 32 = .ok (.putfield 115, 3) := by decide +kernel
theorem dX7_define_35 : decode cX7_define 35 = .ok (.iconst 0, 1) := by decide +kernel
theorem dX7_define_36 : decode cX7_define 36 = .ok (.istore_n 2, 1) := by decide +kernel
theorem dX7_define_37 : decode cX7_define 37 = .ok (.iload_n 2, 1) := by decide +kernel
theorem dX7_define_38 : decode cX7_define 38 = .ok (.aload_n 0, 1) := by decide +kernel
theorem dX7_define_39 : decode cX7_define 39 = .ok (.getfield 54, 3) := by decide +kernel
theorem dX7_define_42 : decode cX7_define 42 = .ok (.if_icmp .ge 33, 3) := by decide +kernel
theorem dX7_define_45 : decode cX7_define 45 = .ok (.aload_n 0, 1) := by decide +kernel
theorem dX7_define_46 : decode cX7_define 46 = .ok (.dup, 1) := by decide +kernel
theorem dX7_define_47 : decode cX7_define 47 = .ok (.getfield 115, 3) := by decide +kernel
theorem dX7_define_50 : decode cX7_define 50 = .ok (.aload_n 0, 1) := by decide +kernel
theorem dX7_define_51 : decode cX7_define 51 = .ok (.getfield 13, 3) := by decide +kernel
theorem dX7_define_54 : decode cX7_define 54 = .ok (.iload_n 2, 1) := by decide +kernel
theorem dX7_define_55 : decode cX7_define 55 = .ok (.iaload, 1) := by decide +kernel
theorem dX7_define_56 : decode cX7_define 56 = .ok (.iconst 3, 1) := by decide +kernel
theorem dX7_define_57 : decode cX7_define 57 = .ok (.if_icmp .ne 7, 3) := by decide +kernel
theorem dX7_define_60 : decode cX7_define 60 = .ok (.iconst 1, 1) := by decide +kernel
theorem dX7_define_61 : decode cX7_define 61 = .ok (.goto 4, 3) := by decide +kernel
theorem dX7_define_64 : decode cX7_define 64 = .ok (.iconst 0, 1) := by decide +kernel
theorem dX7_define_65 : decode cX7_define 65 = .ok (.iadd, 1) := by decide +kernel
theorem dX7_define_66 : decode cX7_define 66 = .ok (.putfield 115, 3) := by decide +kernel
theorem dX7_define_69 : decode cX7_define 69 = .ok (.iinc 2 1, 3) := by decide +kernel
theorem dX7_define_72 : decode cX7_define 72 = .ok (.goto (-35), 3) := by decide +kernel
theorem dX7_define_75 : decode cX7_define 75 = .ok (.iconst 0, 1) := by decide +kernel
theorem dX7_define_76 : decode cX7_define 76 = .ok (.istore_n 2, 1) := by decide +kernel
theorem dX7_define_77 : decode cX7_define 77 = .ok (.iload_n 2, 1) := by decide +kernel
theorem dX7_define_78 : decode cX7_define 78 = .ok (.iconst 4, 1) := by decide +kernel
theorem dX7_define_79 : decode cX7_define 79 = .ok (.if_icmp .ge 61, 3) := by decide +kernel
theorem dX7_define_82 : decode cX7_define 82 = .ok (.aload_n 0, 1) := by decide +kernel
theorem dX7_define_83 : decode cX7_define 83 = .ok (.getfield 38, 3) := by decide +kernel
theorem dX7_define_86 : decode cX7_define 86 = .ok (.iload_n 2, 1) := by decide +kernel
theorem dX7_define_87 : decode cX7_define 87 = .ok (.aload_n 0, 1) := by decide +kernel
theorem dX7_define_88 : decode cX7_define 88 = .ok (.getfield 32, 3) := by decide +kernel
theorem dX7_define_91 : decode cX7_define 91 = .ok (.iload_n 2, 1) := by decide +kernel
theorem dX7_define_92 : decode cX7_define 92 = .ok (.iaload, 1) := by decide +kernel
theorem dX7_define_93 : decode cX7_define 93 = .ok (.iastore, 1) := by decide +kernel
theorem dX7_define_94 : decode cX7_define 94 = .ok (.iconst 0, 1) := by decide +kernel
theorem dX7_define_95 : decode cX7_define 95 = .ok (.istore_n 3, 1) := by decide +kernel
theorem dX7_define_96 : decode cX7_define 96 = .ok (.iload_n 3, 1) := by decide +kernel
theorem dX7_define_97 : decode cX7_define 97 = .ok (.aload_n 0, 1) := by decide +kernel
theorem dX7_define_98 : decode cX7_define 98 = .ok (.getfield 32, 3) := by decide +kernel
theorem dX7_define_101 : decode cX7_define 101 = .ok (.iload_n 2, 1) := by decide +kernel
theorem dX7_define_102 : decode cX7_define 102 = .ok (.iaload, 1) := by decide +kernel
theorem dX7_define_103 : decode cX7_define 103 = .ok (.if_icmp .ge 31, 3) := by decide +kernel
theorem dX7_define_106 : decode cX7_define 106 = .ok (.aload_n 0, 1) := by decide +kernel
theorem dX7_define_107 : decode cX7_define 107 = .ok (.getfield 35, 3) := by decide +kernel
theorem dX7_define_110 : decode cX7_define 110 = .ok (.bipush 60, 2) := by decide +kernel
theorem dX7_define_112 : decode cX7_define 112 = .ok (.iload_n 2, 1) := by decide +kernel
theorem dX7_define_113 : decode cX7_define 113 = .ok (.imul, 1) := by decide +kernel
theorem dX7_define_114 : decode cX7_define 114 = .ok (.iload_n 3, 1) := by decide +kernel
theorem dX7_define_115 : decode cX7_define 115 = .ok (.iadd, 1) := by decide +kernel
theorem dX7_define_116 : decode cX7_define 116 = .ok (.aload_n 0, 1) := by decide +kernel
theorem dX7_define_117 : decode cX7_define 117 = .ok (.getfield 29, 3) := by decide +kernel
theorem dX7_define_120 : decode cX7_define 120 = .ok (.bipush 60, 2) := by decide +kernel
theorem dX7_define_122 : decode cX7_define 122 = .ok (.iload_n 2, 1) := by decide +kernel
theorem dX7_define_123 : decode cX7_define 123 = .ok (.imul, 1) := by decide +kernel
theorem dX7_define_124 : decode cX7_define 124 = .ok (.iload_n 3, 1) := by decide +kernel
theorem dX7_define_125 : decode cX7_define 125 = .ok (.iadd, 1) := by decide +kernel
theorem dX7_define_126 : decode cX7_define 126 = .ok (.caload, 1) := by decide +kernel
theorem dX7_define_127 : decode cX7_define 127 = .ok (.castore, 1) := by decide +kernel
theorem dX7_define_128 : decode cX7_define 128 = .ok (.iinc 3 1, 3) := by decide +kernel
theorem dX7_define_131 : decode cX7_define 131 = .ok (.goto (-35), 3) := by decide +kernel
theorem dX7_define_134 : decode cX7_define 134 = .ok (.iinc 2 1, 3) := by decide +kernel
theorem dX7_define_137 : decode cX7_define 137 = .ok (.goto (-60), 3) := by decide +kernel
theorem dX7_define_140 : decode cX7_define 140 = .ok (.aload_n 0, 1) := by decide +kernel
theorem dX7_define_141 : decode cX7_define 141 = .ok (.iconst 1, 1) := by decide +kernel
theorem dX7_define_142 : decode cX7_define 142 = .ok (.putfield 118, 3) := by decide +kernel
theorem dX7_define_145 : decode cX7_define 145 = .ok (.aload_n 0, 1) := by decide +kernel
theorem dX7_define_146 : decode cX7_define 146 = .ok (.iconst 0, 1) := by decide +kernel
theorem dX7_define_147 : decode cX7_define 147 = .ok (.putfield 122, 3) := by decide +kernel
theorem dX7_define_150 : decode cX7_define 150 = .ok (.iconst (-1), 1) := by decide +kernel
theorem dX7_define_151 : decode cX7_define 151 = .ok (.ireturn, 1) := by decide +kernel
theorem dX7_isNumber_0 : decode cX7_isNumber 0 = .ok (.iload_n 0, 1) := by decide +kernel
theorem dX7_isNumber_1 : decode cX7_isNumber 1 = .ok (.ifCond .lt 12, 3) := by decide +kernel
theorem dX7_isNumber_4 : decode cX7_isNumber 4 = .ok (.iload_n 0, 1) := by decide +kernel
theorem dX7_isNumber_5 : decode cX7_isNumber 5 = .ok (.iconst 3, 1) := by decide +kernel
theorem dX7_isNumber_6 : decode cX7_isNumber 6 = .ok (.if_icmp .gt 7, 3) := by decide +kernel
theorem dX7_isNumber_9 : decode cX7_isNumber 9 = .ok (.iconst 1, 1) := by decide +kernel
theorem dX7_isNumber_10 : decode cX7_isNumber 10 = .ok (.goto 4, 3) := by decide +kernel
theorem dX7_isNumber_13 : decode cX7_isNumber 13 = .ok (.iconst 0, 1) := by decide +kernel
theorem dX7_isNumber_14 : decode cX7_isNumber 14 = .ok (.ireturn, 1) := by decide +kernel
theorem dX7_messages_0 : decode cX7_messages 0 = .ok (.aload_n 0, 1) := by decide +kernel
theorem dX7_messages_1 : decode cX7_messages 1 = .ok (.getfield 118, 3) := by decide +kernel
theorem dX7_messages_4 : decode cX7_messages 4 = .ok (.ifCond .eq 10, 3) := by decide +kernel
theorem dX7_messages_7 : decode cX7_messages 7 = .ok (.aload_n 0, 1) := by decide +kernel
theorem dX7_messages_8 : decode cX7_messages 8 = .ok (.getfield 115, 3) := by decide +kernel
theorem dX7_messages_11 : decode cX7_messages 11 = .ok (.goto 4, 3) := by decide +kernel
theorem dX7_messages_14 : decode cX7_messages 14 = .ok (.iconst (-1), 1) := by decide +kernel
theorem dX7_messages_15 : decode cX7_messages 15 = .ok (.ireturn, 1) := by decide +kernel
theorem dX7_length_0 : decode cX7_length 0 = .ok (.aload_n 0, 1) := by decide +kernel
theorem dX7_length_1 : decode cX7_length 1 = .ok (.getfield 118, 3) := by decide +kernel
theorem dX7_length_4 : decode cX7_length 4 = .ok (.ifCond .eq 19, 3) := by decide +kernel
theorem dX7_length_7 : decode cX7_length 7 = .ok (.iload_n 1, 1) := by decide +kernel
theorem dX7_length_8 : decode cX7_length 8 = .ok (.invokestatic 125, 3) := by decide +kernel
theorem dX7_length_11 : decode cX7_length 11 = .ok (.ifCond .eq 12, 3) := by decide +kernel
theorem dX7_length_14 : decode cX7_length 14 = .ok (.aload_n 0, 1) := by decide +kernel
theorem dX7_length_15 : decode cX7_length 15 = .ok (.getfield 38, 3) := by decide +kernel
theorem dX7_length_18 : decode cX7_length 18 = .ok (.iload_n 1, 1) := by decide +kernel
theorem dX7_length_19 : decode cX7_length 19 = .ok (.iaload, 1) := by decide +kernel
theorem dX7_length_20 : decode cX7_length 20 = .ok (.goto 4, 3) := by decide +kernel
theorem dX7_length_23 : decode cX7_length 23 = .ok (.iconst (-1), 1) := by decide +kernel
theorem dX7_length_24 : decode cX7_length 24 = .ok (.ireturn, 1) := by decide +kernel
theorem dX7_charAt_0 : decode cX7_charAt 0 = .ok (.aload_n 0, 1) := by decide +kernel
theorem dX7_charAt_1 : decode cX7_charAt 1 = .ok (.getfield 118, 3) := by decide +kernel
theorem dX7_charAt_4 : decode cX7_charAt 4 = .ok (.ifCond .eq 38, 3) := by decide +kernel
theorem dX7_charAt_7 : decode cX7_charAt 7 = .ok (.iload_n 1, 1) := by decide +kernel
theorem dX7_charAt_8 : decode cX7_charAt 8 = .ok (.invokestatic 125, 3) := by decide +kernel
theorem dX7_charAt_11 : decode cX7_charAt 11 = .ok (.ifCond .eq 31, 3) := by decide +kernel
theorem dX7_charAt_14 : decode cX7_charAt 14 = .ok (.iload_n 2, 1) := by decide +kernel
theorem dX7_charAt_15 : decode cX7_charAt 15 = .ok (.ifCond .lt 27, 3) := by decide +kernel
theorem dX7_charAt_18 : decode cX7_charAt 18 = .ok (.iload_n 2, 1) := by decide +kernel
theorem dX7_charAt_19 : decode cX7_charAt 19 = .ok (.aload_n 0, 1) := by decide +kernel
theorem dX7_charAt_20 : decode cX7_charAt 20 = .ok (.getfield 38, 3) := by decide +kernel
theorem dX7_charAt_23 : decode cX7_charAt 23 = .ok (.iload_n 1, 1) := by decide +kernel
theorem dX7_charAt_24 : decode cX7_charAt 24 = .ok (.iaload, 1) := by decide +kernel
theorem dX7_charAt_25 : decode cX7_charAt 25 = .ok (.if_icmp .ge 17, 3) := by decide +kernel
theorem dX7_charAt_28 : decode cX7_charAt 28 = .ok (.aload_n 0, 1) := by decide +kernel
theorem dX7_charAt_29 : decode cX7_charAt 29 = .ok (.getfield 35, 3) := by decide +kernel
theorem dX7_charAt_32 : decode cX7_charAt 32 = .ok (.bipush 60, 2) := by decide +kernel
theorem dX7_charAt_34 : decode cX7_charAt 34 = .ok (.iload_n 1, 1) := by decide +kernel
theorem dX7_charAt_35 : decode cX7_charAt 35 = .ok (.imul, 1) := by decide +kernel
theorem dX7_charAt_36 : decode cX7_charAt 36 = .ok (.iload_n 2, 1) := by decide +kernel
theorem dX7_charAt_37 : decode cX7_charAt 37 = .ok (.iadd, 1) := by decide +kernel
theorem dX7_charAt_38 : decode cX7_charAt 38 = .ok (.caload, 1) := by decide +kernel
theorem dX7_charAt_39 : decode cX7_charAt 39 = .ok (.goto 4, 3) := by decide +kernel
theorem dX7_charAt_42 : decode cX7_charAt 42 = .ok (.iconst (-1), 1) := by decide +kernel
theorem dX7_charAt_43 : decode cX7_charAt 43 = .ok (.ireturn, 1) := by decide +kernel
theorem dX7_sign_0 : decode cX7_sign 0 = .ok (.iload_n 2, 1) := by decide +kernel
theorem dX7_sign_1 : decode cX7_sign 1 = .ok (.aload_n 0, 1) := by decide +kernel
theorem dX7_sign_2 : decode cX7_sign 2 = .ok (.getfield 38, 3) := by decide +kernel
theorem dX7_sign_5 : decode cX7_sign 5 = .ok (.iload_n 1, 1) := by decide +kernel
theorem dX7_sign_6 : decode cX7_sign 6 = .ok (.iaload, 1) := by decide +kernel
theorem dX7_sign_7 : decode cX7_sign 7 = .ok (.if_icmp .ge 17, 3) := by decide +kernel
theorem dX7_sign_10 : decode cX7_sign 10 = .ok (.aload_n 0, 1) := by decide +kernel
theorem dX7_sign_11 : decode cX7_sign 11 = .ok (.getfield 35, 3) := by decide +kernel
theorem dX7_sign_14 : decode cX7_sign 14 = .ok (.bipush 60, 2) := by decide +kernel
theorem dX7_sign_16 : decode cX7_sign 16 = .ok (.iload_n 1, 1) := by decide +kernel
theorem dX7_sign_17 : decode cX7_sign 17 = .ok (.imul, 1) := by decide +kernel
theorem dX7_sign_18 : decode cX7_sign 18 = .ok (.iload_n 2, 1) := by decide +kernel
theorem dX7_sign_19 : decode cX7_sign 19 = .ok (.iadd, 1) := by decide +kernel
theorem dX7_sign_20 : decode cX7_sign 20 = .ok (.caload, 1) := by decide +kernel
theorem dX7_sign_21 : decode cX7_sign 21 = .ok (.goto 4, 3) := by decide +kernel
theorem dX7_sign_24 : decode cX7_sign 24 = .ok (.iconst 0, 1) := by decide +kernel
theorem dX7_sign_25 : decode cX7_sign 25 = .ok (.ireturn, 1) := by decide +kernel
theorem dX7_loopOf_0 : decode cX7_loopOf 0 = .ok (.iconst 0, 1) := by decide +kernel
theorem dX7_loopOf_1 : decode cX7_loopOf 1 = .ok (.istore 4, 2) := by decide +kernel
theorem dX7_loopOf_3 : decode cX7_loopOf 3 = .ok (.iconst 0, 1) := by decide +kernel
theorem dX7_loopOf_4 : decode cX7_loopOf 4 = .ok (.istore 5, 2) := by decide +kernel
theorem dX7_loopOf_6 : decode cX7_loopOf 6 = .ok (.iload_n 2, 1) := by decide +kernel
theorem dX7_loopOf_7 : decode cX7_loopOf 7 = .ok (.iconst 1, 1) := by decide +kernel
theorem dX7_loopOf_8 : decode cX7_loopOf 8 = .ok (.isub, 1) := by decide +kernel
theorem dX7_loopOf_9 : decode cX7_loopOf 9 = .ok (.istore 6, 2) := by decide +kernel
theorem dX7_loopOf_11 : decode cX7_loopOf 11 = .ok (.iload 6, 2) := by decide +kernel
theorem dX7_loopOf_13 : decode cX7_loopOf 13 = .ok (.ifCond .lt 113, 3) := by decide +kernel
theorem dX7_loopOf_16 : decode cX7_loopOf 16 = .ok (.aload_n 0, 1) := by decide +kernel
theorem dX7_loopOf_17 : decode cX7_loopOf 17 = .ok (.iload_n 1, 1) := by decide +kernel
theorem dX7_loopOf_18 : decode cX7_loopOf 18 = .ok (.iload 6, 2) := by decide +kernel
theorem dX7_loopOf_20 : decode cX7_loopOf 20 = .ok (.invokevirtual 128, 3) := by decide +kernel
theorem dX7_loopOf_23 : decode cX7_loopOf 23 = .ok (.istore 7, 2) := by decide +kernel
theorem dX7_loopOf_25 : decode cX7_loopOf 25 = .ok (.iload 7, 2) := by decide +kernel
theorem dX7_loopOf_27 : decode cX7_loopOf 27 = .ok (.bipush 125, 2) := by decide +kernel
theorem dX7_loopOf_29 : decode cX7_loopOf 29 = .ok (.if_icmp .ne 9, 3) := by decide +kernel
theorem dX7_loopOf_32 : decode cX7_loopOf 32 = .ok (.iinc 4 1, 3) := by decide +kernel
theorem dX7_loopOf_35 : decode cX7_loopOf 35 = .ok (.goto 85, 3) := by decide +kernel
theorem dX7_loopOf_38 : decode cX7_loopOf 38 = .ok (.iload 7, 2) := by decide +kernel
theorem dX7_loopOf_40 : decode cX7_loopOf 40 = .ok (.bipush 123, 2) := by decide +kernel
theorem dX7_loopOf_42 : decode cX7_loopOf 42 = .ok (.if_icmp .ne 14, 3) := by decide +kernel
theorem dX7_loopOf_45 : decode cX7_loopOf 45 = .ok (.iload 4, 2) := by decide +kernel
theorem dX7_loopOf_47 : decode cX7_loopOf 47 = .ok (.ifCond .le 9, 3) := by decide +kernel
theorem dX7_loopOf_50 : decode cX7_loopOf 50 = .ok (.iinc 4 (-1), 3) := by decide +kernel
theorem dX7_loopOf_53 : decode cX7_loopOf 53 = .ok (.goto 67, 3) := by decide +kernel
theorem dX7_loopOf_56 : decode cX7_loopOf 56 = .ok (.iload 7, 2) := by decide +kernel
theorem dX7_loopOf_58 : decode cX7_loopOf 58 = .ok (.bipush 123, 2) := by decide +kernel
theorem dX7_loopOf_60 : decode cX7_loopOf 60 = .ok (.if_icmp .ne 9, 3) := by decide +kernel
theorem dX7_loopOf_63 : decode cX7_loopOf 63 = .ok (.iconst 0, 1) := by decide +kernel
theorem dX7_loopOf_64 : decode cX7_loopOf 64 = .ok (.istore 5, 2) := by decide +kernel
theorem dX7_loopOf_66 : decode cX7_loopOf 66 = .ok (.goto 54, 3) := by decide +kernel
theorem dX7_loopOf_69 : decode cX7_loopOf 69 = .ok (.iload 7, 2) := by decide +kernel
theorem dX7_loopOf_71 : decode cX7_loopOf 71 = .ok (.bipush 44, 2) := by decide +kernel
theorem dX7_loopOf_73 : decode cX7_loopOf 73 = .ok (.if_icmp .ne 14, 3) := by decide +kernel
theorem dX7_loopOf_76 : decode cX7_loopOf 76 = .ok (.iload 4, 2) := by decide +kernel
theorem dX7_loopOf_78 : decode cX7_loopOf 78 = .ok (.ifCond .ne 9, 3) := by decide +kernel
theorem dX7_loopOf_81 : decode cX7_loopOf 81 = .ok (.iconst 1, 1) := by decide +kernel
theorem dX7_loopOf_82 : decode cX7_loopOf 82 = .ok (.istore 5, 2) := by decide +kernel
theorem dX7_loopOf_84 : decode cX7_loopOf 84 = .ok (.goto 36, 3) := by decide +kernel
theorem dX7_loopOf_87 : decode cX7_loopOf 87 = .ok (.iload 7, 2) := by decide +kernel
theorem dX7_loopOf_89 : decode cX7_loopOf 89 = .ok (.bipush 109, 2) := by decide +kernel
theorem dX7_loopOf_91 : decode cX7_loopOf 91 = .ok (.if_icmp .ne 29, 3) := by decide +kernel
theorem dX7_loopOf_94 : decode cX7_loopOf 94 = .ok (.iload 4, 2) := by decide +kernel
theorem dX7_loopOf_96 : decode cX7_loopOf 96 = .ok (.ifCond .ne 24, 3) := by decide +kernel
theorem dX7_loopOf_99 : decode cX7_loopOf 99 = .ok (.iload 5, 2) := by decide +kernel
theorem dX7_loopOf_101 : decode cX7_loopOf 101 = .ok (.ifCond .ne 19, 3) := by decide +kernel
theorem dX7_loopOf_104 : decode cX7_loopOf 104 = .ok (.aload_n 0, 1) := by decide +kernel
theorem dX7_loopOf_105 : decode cX7_loopOf 105 = .ok (.iload_n 1, 1) := by decide +kernel
theorem dX7_loopOf_106 : decode cX7_loopOf 106 = .ok (.iload 6, 2) := by decide +kernel
theorem dX7_loopOf_108 : decode cX7_loopOf 108 = .ok (.iconst 1, 1) := by decide +kernel
theorem dX7_loopOf_109 : decode cX7_loopOf 109 = .ok (.iadd, 1) := by decide +kernel
theorem dX7_loopOf_110 : decode cX7_loopOf 110 = .ok (.invokevirtual 128, 3) := by decide +kernel
theorem dX7_loopOf_113 : decode cX7_loopOf 113 = .ok (.iload_n 3, 1) := by decide +kernel
theorem dX7_loopOf_114 : decode cX7_loopOf 114 = .ok (.if_icmp .ne 6, 3) := by decide +kernel
theorem dX7_loopOf_117 : decode cX7_loopOf 117 = .ok (.iload 6, 2) := by decide +kernel
theorem dX7_loopOf_119 : decode cX7_loopOf 119 = .ok (.ireturn, 1) := by decide +kernel
theorem dX7_loopOf_120 : decode cX7_loopOf 120 = .ok (.iinc 6 (-1), 3) := by decide +kernel
theorem dX7_loopOf_123 : decode cX7_loopOf 123 = .ok (.goto (-112), 3) := by decide +kernel
theorem dX7_loopOf_126 : decode cX7_loopOf 126 = .ok (.iconst 0, 1) := by decide +kernel
theorem dX7_loopOf_127 : decode cX7_loopOf 127 = .ok (.ireturn, 1) := by decide +kernel
theorem dX7_settle_0 : decode cX7_settle 0 = .ok (.iload_n 2, 1) := by decide +kernel
theorem dX7_settle_1 : decode cX7_settle 1 = .ok (.istore_n 3, 1) := by decide +kernel
theorem dX7_settle_2 : decode cX7_settle 2 = .ok (.iconst 0, 1) := by decide +kernel
theorem dX7_settle_3 : decode cX7_settle 3 = .ok (.istore 4, 2) := by decide +kernel
theorem dX7_settle_5 : decode cX7_settle 5 = .ok (.iload 4, 2) := by decide +kernel
theorem dX7_settle_7 : decode cX7_settle 7 = .ok (.bipush 100, 2) := by decide +kernel
theorem dX7_settle_9 : decode cX7_settle 9 = .ok (.if_icmp .ge 47, 3) := by decide +kernel
theorem dX7_settle_12 : decode cX7_settle 12 = .ok (.aload_n 0, 1) := by decide +kernel
theorem dX7_settle_13 : decode cX7_settle 13 = .ok (.iload_n 1, 1) := by decide +kernel
theorem dX7_settle_14 : decode cX7_settle 14 = .ok (.iload_n 3, 1) := by decide +kernel
theorem dX7_settle_15 : decode cX7_settle 15 = .ok (.invokevirtual 128, 3) := by decide +kernel
theorem dX7_settle_18 : decode cX7_settle 18 = .ok (.istore 5, 2) := by decide +kernel
theorem dX7_settle_20 : decode cX7_settle 20 = .ok (.iload 5, 2) := by decide +kernel
theorem dX7_settle_22 : decode cX7_settle 22 = .ok (.bipush 109, 2) := by decide +kernel
theorem dX7_settle_24 : decode cX7_settle 24 = .ok (.if_icmp .ne 9, 3) := by decide +kernel
theorem dX7_settle_27 : decode cX7_settle 27 = .ok (.iinc 3 3, 3) := by decide +kernel
theorem dX7_settle_30 : decode cX7_settle 30 = .ok (.goto 20, 3) := by decide +kernel
theorem dX7_settle_33 : decode cX7_settle 33 = .ok (.iload 5, 2) := by decide +kernel
theorem dX7_settle_35 : decode cX7_settle 35 = .ok (.invokestatic 57, 3) := by decide +kernel
theorem dX7_settle_38 : decode cX7_settle 38 = .ok (.ifCond .eq 12, 3) := by decide +kernel
theorem dX7_settle_41 : decode cX7_settle 41 = .ok (.aload_n 0, 1) := by decide +kernel
theorem dX7_settle_42 : decode cX7_settle 42 = .ok (.iload_n 1, 1) := by decide +kernel
theorem dX7_settle_43 : decode cX7_settle 43 = .ok (.iload_n 3, 1) := by decide +kernel
theorem dX7_settle_44 : decode cX7_settle 44 = .ok (.iload 5, 2) := by decide +kernel
theorem dX7_settle_46 : decode cX7_settle 46 = .ok (.invokevirtual 132, 3) := by decide +kernel
theorem dX7_settle_49 : decode cX7_settle 49 = .ok (.istore_n 3, 1) := by decide +kernel
theorem dX7_settle_50 : decode cX7_settle 50 = .ok (.iinc 4 1, 3) := by decide +kernel
theorem dX7_settle_53 : decode cX7_settle 53 = .ok (.goto (-48), 3) := by decide +kernel
theorem dX7_settle_56 : decode cX7_settle 56 = .ok (.aload_n 0, 1) := by decide +kernel
theorem dX7_settle_57 : decode cX7_settle 57 = .ok (.getfield 41, 3) := by decide +kernel
theorem dX7_settle_60 : decode cX7_settle 60 = .ok (.iload_n 1, 1) := by decide +kernel
theorem dX7_settle_61 : decode cX7_settle 61 = .ok (.iload_n 3, 1) := by decide +kernel
theorem dX7_settle_62 : decode cX7_settle 62 = .ok (.iastore, 1) := by decide +kernel
theorem dX7_settle_63 : decode cX7_settle 63 = .ok (.return_, 1) := by decide +kernel
theorem dX7_begin_0 : decode cX7_begin 0 = .ok (.aload_n 0, 1) := by decide +kernel
theorem dX7_begin_1 : decode cX7_begin 1 = .ok (.getfield 118, 3) := by decide +kernel
theorem dX7_begin_4 : decode cX7_begin 4 = .ok (.istore_n 1, 1) := by decide +kernel
theorem dX7_begin_5 : decode cX7_begin 5 = .ok (.iconst 0, 1) := by decide +kernel
theorem dX7_begin_6 : decode cX7_begin 6 = .ok (.istore_n 2, 1) := by decide +kernel
theorem dX7_begin_7 : decode cX7_begin 7 = .ok (.iload_n 2, 1) := by decide +kernel
theorem dX7_begin_8 : decode cX7_begin 8 = .ok (.iconst 4, 1) := by decide +kernel
theorem dX7_begin_9 : decode cX7_begin 9 = .ok (.if_icmp .ge 28, 3) := by decide +kernel
theorem dX7_begin_12 : decode cX7_begin 12 = .ok (.iload_n 1, 1) := by decide +kernel
theorem dX7_begin_13 : decode cX7_begin 13 = .ok (.ifCond .eq 16, 3) := by decide +kernel
theorem dX7_begin_16 : decode cX7_begin 16 = .ok (.aload_n 0, 1) := by decide +kernel
theorem dX7_begin_17 : decode cX7_begin 17 = .ok (.getfield 38, 3) := by decide +kernel
theorem dX7_begin_20 : decode cX7_begin 20 = .ok (.iload_n 2, 1) := by decide +kernel
theorem dX7_begin_21 : decode cX7_begin 21 = .ok (.iaload, 1) := by decide +kernel
theorem dX7_begin_22 : decode cX7_begin 22 = .ok (.ifCond .lt 7, 3) := by decide +kernel
theorem dX7_begin_25 : decode cX7_begin 25 = .ok (.iconst 1, 1) := by decide +kernel
theorem dX7_begin_26 : decode cX7_begin 26 = .ok (.goto 4, 3) := by decide +kernel
theorem dX7_begin_29 : decode cX7_begin 29 = .ok (.iconst 0, 1) := by decide +kernel
theorem dX7_begin_30 : decode cX7_begin 30 = .ok (.istore_n 1, 1) := by decide +kernel
theorem dX7_begin_31 : decode cX7_begin 31 = .ok (.iinc 2 1, 3) := by decide +kernel
theorem dX7_begin_34 : decode cX7_begin 34 = .ok (.goto (-27), 3) := by decide +kernel
theorem dX7_begin_37 : decode cX7_begin 37 = .ok (.iload_n 1, 1) := by decide +kernel
theorem dX7_begin_38 : decode cX7_begin 38 = .ok (.ifCond .ne 5, 3) := by decide +kernel
theorem dX7_begin_41 : decode cX7_begin 41 = .ok (.iconst 0, 1) := by decide +kernel
theorem dX7_begin_42 : decode cX7_begin 42 = .ok (.ireturn, 1) := by decide +kernel
theorem dX7_begin_43 : decode cX7_begin 43 = .ok (.aload_n 0, 1) := by decide +kernel
theorem dX7_begin_44 : decode cX7_begin 44 = .ok (.iconst 1, 1) := by decide +kernel
theorem dX7_begin_45 : decode cX7_begin 45 = .ok (.putfield 122, 3) := by decide +kernel
theorem dX7_begin_48 : decode cX7_begin 48 = .ok (.aload_n 0, 1) := by decide +kernel
theorem dX7_begin_49 : decode cX7_begin 49 = .ok (.iconst 0, 1) := by decide +kernel
theorem dX7_begin_50 : decode cX7_begin 50 = .ok (.putfield 136, 3) := by decide +kernel
theorem dX7_begin_53 : decode cX7_begin 53 = .ok (.iconst 0, 1) := by decide +kernel
theorem dX7_begin_54 : decode cX7_begin 54 = .ok (.istore_n 2, 1) := by decide +kernel
theorem dX7_begin_55 : decode cX7_begin 55 = .ok (.iload_n 2, 1) := by decide +kernel
theorem dX7_begin_56 : decode cX7_begin 56 = .ok (.iconst 4, 1) := by decide +kernel
theorem dX7_begin_57 : decode cX7_begin 57 = .ok (.if_icmp .ge 15, 3) := by decide +kernel
theorem dX7_begin_60 : decode cX7_begin 60 = .ok (.aload_n 0, 1) := by decide +kernel
theorem dX7_begin_61 : decode cX7_begin 61 = .ok (.iload_n 2, 1) := by decide +kernel
theorem dX7_begin_62 : decode cX7_begin 62 = .ok (.iconst 0, 1) := by decide +kernel
theorem dX7_begin_63 : decode cX7_begin 63 = .ok (.invokevirtual 139, 3) := by decide +kernel
theorem dX7_begin_66 : decode cX7_begin 66 = .ok (.iinc 2 1, 3) := by decide +kernel
theorem dX7_begin_69 : decode cX7_begin 69 = .ok (.goto (-14), 3) := by decide +kernel
theorem dX7_begin_72 : decode cX7_begin 72 = .ok (.iconst 0, 1) := by decide +kernel
theorem dX7_begin_73 : decode cX7_begin 73 = .ok (.istore_n 2, 1) := by decide +kernel
theorem dX7_begin_74 : decode cX7_begin 74 = .ok (.iload_n 2, 1) := by decide +kernel
theorem dX7_begin_75 : decode cX7_begin 75 = .ok (.bipush 16, 2) := by decide +kernel
theorem dX7_begin_77 : decode cX7_begin 77 = .ok (.if_icmp .ge 16, 3) := by decide +kernel
theorem dX7_begin_80 : decode cX7_begin 80 = .ok (.aload_n 0, 1) := by decide +kernel
theorem dX7_begin_81 : decode cX7_begin 81 = .ok (.getfield 47, 3) := by decide +kernel
theorem dX7_begin_84 : decode cX7_begin 84 = .ok (.iload_n 2, 1) := by decide +kernel
theorem dX7_begin_85 : decode cX7_begin 85 = .ok (.iconst 0, 1) := by decide +kernel
theorem dX7_begin_86 : decode cX7_begin 86 = .ok (.iastore, 1) := by decide +kernel
theorem dX7_begin_87 : decode cX7_begin 87 = .ok (.iinc 2 1, 3) := by decide +kernel
theorem dX7_begin_90 : decode cX7_begin 90 = .ok (.goto (-16), 3) := by decide +kernel
theorem dX7_begin_93 : decode cX7_begin 93 = .ok (.iconst 1, 1) := by decide +kernel
theorem dX7_begin_94 : decode cX7_begin 94 = .ok (.ireturn, 1) := by decide +kernel
theorem dX7_act_0 : decode cX7_act 0 = .ok (.aload_n 0, 1) := by decide +kernel
theorem dX7_act_1 : decode cX7_act 1 = .ok (.getfield 122, 3) := by decide +kernel
theorem dX7_act_4 : decode cX7_act 4 = .ok (.ifCond .eq 10, 3) := by decide +kernel
theorem dX7_act_7 : decode cX7_act 7 = .ok (.iload_n 1, 1) := by decide +kernel
theorem dX7_act_8 : decode cX7_act 8 = .ok (.invokestatic 125, 3) := by decide +kernel
theorem dX7_act_11 : decode cX7_act 11 = .ok (.ifCond .ne 5, 3) := by decide +kernel
theorem dX7_act_14 : decode cX7_act 14 = .ok (.iconst (-1), 1) := by decide +kernel
theorem dX7_act_15 : decode cX7_act 15 = .ok (.ireturn, 1) := by decide +kernel
theorem dX7_act_16 : decode cX7_act 16 = .ok (.aload_n 0, 1) := by decide +kernel
theorem dX7_act_17 : decode cX7_act 17 = .ok (.iload_n 1, 1) := by decide +kernel
theorem dX7_act_18 : decode cX7_act 18 = .ok (.aload_n 0, 1) := by decide +kernel
theorem dX7_act_19 : decode cX7_act 19 = .ok (.getfield 41, 3) := by decide +kernel
theorem dX7_act_22 : decode cX7_act 22 = .ok (.iload_n 1, 1) := by decide +kernel
theorem dX7_act_23 : decode cX7_act 23 = .ok (.iaload, 1) := by decide +kernel
theorem dX7_act_24 : decode cX7_act 24 = .ok (.iconst 1, 1) := by decide +kernel
theorem dX7_act_25 : decode cX7_act 25 = .ok (.iadd, 1) := by decide +kernel
theorem dX7_act_26 : decode cX7_act 26 = .ok (.invokevirtual 128, 3) := by decide +kernel
theorem dX7_act_29 : decode cX7_act 29 = .ok (.istore_n 2, 1) := by decide +kernel
theorem dX7_act_30 : decode cX7_act 30 = .ok (.aload_n 0, 1) := by decide +kernel
theorem dX7_act_31 : decode cX7_act 31 = .ok (.iload_n 1, 1) := by decide +kernel
theorem dX7_act_32 : decode cX7_act 32 = .ok (.aload_n 0, 1) := by decide +kernel
theorem dX7_act_33 : decode cX7_act 33 = .ok (.getfield 41, 3) := by decide +kernel
theorem dX7_act_36 : decode cX7_act 36 = .ok (.iload_n 1, 1) := by decide +kernel
theorem dX7_act_37 : decode cX7_act 37 = .ok (.iaload, 1) := by decide +kernel
theorem dX7_act_38 : decode cX7_act 38 = .ok (.invokevirtual 128, 3) := by decide +kernel
theorem dX7_act_41 : decode cX7_act 41 = .ok (.bipush 101, 2) := by decide +kernel
theorem dX7_act_43 : decode cX7_act 43 = .ok (.if_icmp .ne 7, 3) := by decide +kernel
theorem dX7_act_46 : decode cX7_act 46 = .ok (.iconst 0, 1) := by decide +kernel
theorem dX7_act_47 : decode cX7_act 47 = .ok (.goto 14, 3) := by decide +kernel
theorem dX7_act_50 : decode cX7_act 50 = .ok (.iload_n 2, 1) := by decide +kernel
theorem dX7_act_51 : decode cX7_act 51 = .ok (.bipush 33, 2) := by decide +kernel
theorem dX7_act_53 : decode cX7_act 53 = .ok (.if_icmp .ne 7, 3) := by decide +kernel
theorem dX7_act_56 : decode cX7_act 56 = .ok (.iconst 1, 1) := by decide +kernel
theorem dX7_act_57 : decode cX7_act 57 = .ok (.goto 4, 3) := by decide +kernel
theorem dX7_act_60 : decode cX7_act 60 = .ok (.iconst 2, 1) := by decide +kernel
theorem dX7_act_61 : decode cX7_act 61 = .ok (.ireturn, 1) := by decide +kernel
theorem dX7_partner_0 : decode cX7_partner 0 = .ok (.aload_n 0, 1) := by decide +kernel
theorem dX7_partner_1 : decode cX7_partner 1 = .ok (.iload_n 1, 1) := by decide +kernel
theorem dX7_partner_2 : decode cX7_partner 2 = .ok (.invokevirtual 142, 3) := by decide +kernel
theorem dX7_partner_5 : decode cX7_partner 5 = .ok (.iconst 1, 1) := by decide +kernel
theorem dX7_partner_6 : decode cX7_partner 6 = .ok (.if_icmp .ge 7, 3) := by decide +kernel
theorem dX7_partner_9 : decode cX7_partner 9 = .ok (.iconst (-1), 1) := by decide +kernel
theorem dX7_partner_10 : decode cX7_partner 10 = .ok (.goto 17, 3) := by decide +kernel
theorem dX7_partner_13 : decode cX7_partner 13 = .ok (.aload_n 0, 1) := by decide +kernel
theorem dX7_partner_14 : decode cX7_partner 14 = .ok (.iload_n 1, 1) := by decide +kernel
theorem dX7_partner_15 : decode cX7_partner 15 = .ok (.aload_n 0, 1) := by decide +kernel
theorem dX7_partner_16 : decode cX7_partner 16 = .ok (.getfield 41, 3) := by decide +kernel
theorem dX7_partner_19 : decode cX7_partner 19 = .ok (.iload_n 1, 1) := by decide +kernel
theorem dX7_partner_20 : decode cX7_partner 20 = .ok (.iaload, 1) := by decide +kernel
theorem dX7_partner_21 : decode cX7_partner 21 = .ok (.invokevirtual 128, 3) := by decide +kernel
theorem dX7_partner_24 : decode cX7_partner 24 = .ok (.bipush 65, 2) := by decide +kernel
theorem dX7_partner_26 : decode cX7_partner 26 = .ok (.isub, 1) := by decide +kernel
theorem dX7_partner_27 : decode cX7_partner 27 = .ok (.ireturn, 1) := by decide +kernel
theorem dX7_branchOf_0 : decode cX7_branchOf 0 = .ok (.aload_n 0, 1) := by decide +kernel
theorem dX7_branchOf_1 : decode cX7_branchOf 1 = .ok (.iload_n 1, 1) := by decide +kernel
theorem dX7_branchOf_2 : decode cX7_branchOf 2 = .ok (.invokevirtual 142, 3) := by decide +kernel
theorem dX7_branchOf_5 : decode cX7_branchOf 5 = .ok (.iconst 1, 1) := by decide +kernel
theorem dX7_branchOf_6 : decode cX7_branchOf 6 = .ok (.if_icmp .ge 5, 3) := by decide +kernel
theorem dX7_branchOf_9 : decode cX7_branchOf 9 = .ok (.iconst (-1), 1) := by decide +kernel
theorem dX7_branchOf_10 : decode cX7_branchOf 10 = .ok (.ireturn, 1) := by decide +kernel
theorem dX7_branchOf_11 : decode cX7_branchOf 11 = .ok (.iconst 0, 1) := by decide +kernel
theorem dX7_branchOf_12 : decode cX7_branchOf 12 = .ok (.istore_n 3, 1) := by decide +kernel
theorem dX7_branchOf_13 : decode cX7_branchOf 13 = .ok (.aload_n 0, 1) := by decide +kernel
theorem dX7_branchOf_14 : decode cX7_branchOf 14 = .ok (.getfield 41, 3) := by decide +kernel
theorem dX7_branchOf_17 : decode cX7_branchOf 17 = .ok (.iload_n 1, 1) := by decide +kernel
theorem dX7_branchOf_18 : decode cX7_branchOf 18 = .ok (.iaload, 1) := by decide +kernel
theorem dX7_branchOf_19 : decode cX7_branchOf 19 = .ok (.iconst 2, 1) := by decide +kernel
theorem dX7_branchOf_20 : decode cX7_branchOf 20 = .ok (.iadd, 1) := by decide +kernel
theorem dX7_branchOf_21 : decode cX7_branchOf 21 = .ok (.istore 4, 2) := by decide +kernel
theorem dX7_branchOf_23 : decode cX7_branchOf 23 = .ok (.iload 4, 2) := by decide +kernel
theorem dX7_branchOf_25 : decode cX7_branchOf 25 = .ok (.aload_n 0, 1) := by decide +kernel
theorem dX7_branchOf_26 : decode cX7_branchOf 26 = .ok (.getfield 38, 3) := by decide +kernel
theorem dX7_branchOf_29 : decode cX7_branchOf 29 = .ok (.iload_n 1, 1) := by decide +kernel
theorem dX7_branchOf_30 : decode cX7_branchOf 30 = .ok (.iaload, 1) := by decide +kernel
theorem dX7_branchOf_31 : decode cX7_branchOf 31 = .ok (.if_icmp .ge 92, 3) := by decide +kernel
theorem dX7_branchOf_34 : decode cX7_branchOf 34 = .ok (.aload_n 0, 1) := by decide +kernel
theorem dX7_branchOf_35 : decode cX7_branchOf 35 = .ok (.iload_n 1, 1) := by decide +kernel
theorem dX7_branchOf_36 : decode cX7_branchOf 36 = .ok (.iload 4, 2) := by decide +kernel
theorem dX7_branchOf_38 : decode cX7_branchOf 38 = .ok (.invokevirtual 128, 3) := by decide +kernel
theorem dX7_branchOf_41 : decode cX7_branchOf 41 = .ok (.istore 5, 2) := by decide +kernel
theorem dX7_branchOf_43 : decode cX7_branchOf 43 = .ok (.iload 5, 2) := by decide +kernel
theorem dX7_branchOf_45 : decode cX7_branchOf 45 = .ok (.bipush 123, 2) := by decide +kernel
theorem dX7_branchOf_47 : decode cX7_branchOf 47 = .ok (.if_icmp .ne 9, 3) := by decide +kernel
theorem dX7_branchOf_50 : decode cX7_branchOf 50 = .ok (.iload_n 3, 1) := by decide +kernel
theorem dX7_branchOf_51 : decode cX7_branchOf 51 = .ok (.iconst 1, 1) := by decide +kernel
theorem dX7_branchOf_52 : decode cX7_branchOf 52 = .ok (.iadd, 1) := by decide +kernel
theorem dX7_branchOf_53 : decode cX7_branchOf 53 = .ok (.goto 17, 3) := by decide +kernel
theorem dX7_branchOf_56 : decode cX7_branchOf 56 = .ok (.iload 5, 2) := by decide +kernel
theorem dX7_branchOf_58 : decode cX7_branchOf 58 = .ok (.bipush 125, 2) := by decide +kernel
theorem dX7_branchOf_60 : decode cX7_branchOf 60 = .ok (.if_icmp .ne 9, 3) := by decide +kernel
theorem dX7_branchOf_63 : decode cX7_branchOf 63 = .ok (.iload_n 3, 1) := by decide +kernel
theorem dX7_branchOf_64 : decode cX7_branchOf 64 = .ok (.iconst 1, 1) := by decide +kernel
theorem dX7_branchOf_65 : decode cX7_branchOf 65 = .ok (.isub, 1) := by decide +kernel
theorem dX7_branchOf_66 : decode cX7_branchOf 66 = .ok (.goto 4, 3) := by decide +kernel
theorem dX7_branchOf_69 : decode cX7_branchOf 69 = .ok (.iload_n 3, 1) := by decide +kernel
theorem dX7_branchOf_70 : decode cX7_branchOf 70 = .ok (.istore_n 3, 1) := by decide +kernel
theorem dX7_branchOf_71 : decode cX7_branchOf 71 = .ok (.iload_n 3, 1) := by decide +kernel
theorem dX7_branchOf_72 : decode cX7_branchOf 72 = .ok (.ifCond .ne 5, 3) := by decide +kernel
theorem dX7_branchOf_75 : decode cX7_branchOf 75 = .ok (.iconst (-1), 1) := by decide +kernel
theorem dX7_branchOf_76 : decode cX7_branchOf 76 = .ok (.ireturn, 1) := by decide +kernel
theorem dX7_branchOf_77 : decode cX7_branchOf 77 = .ok (.iload_n 3, 1) := by decide +kernel
theorem dX7_branchOf_78 : decode cX7_branchOf 78 = .ok (.iconst 1, 1) := by decide +kernel
theorem dX7_branchOf_79 : decode cX7_branchOf 79 = .ok (.if_icmp .ne 38, 3) := by decide +kernel
theorem dX7_branchOf_82 : decode cX7_branchOf 82 = .ok (.iload 5, 2) := by decide +kernel
theorem dX7_branchOf_84 : decode cX7_branchOf 84 = .ok (.bipush 123, 2) := by decide +kernel
theorem dX7_branchOf_86 : decode cX7_branchOf 86 = .ok (.if_icmp .eq 10, 3) := by decide +kernel
theorem dX7_branchOf_89 : decode cX7_branchOf 89 = .ok (.iload 5, 2) := by decide +kernel
theorem dX7_branchOf_91 : decode cX7_branchOf 91 = .ok (.bipush 44, 2) := by decide +kernel
theorem dX7_branchOf_93 : decode cX7_branchOf 93 = .ok (.if_icmp .ne 24, 3) := by decide +kernel
theorem dX7_branchOf_96 : decode cX7_branchOf 96 = .ok (.aload_n 0, 1) := by decide +kernel
theorem dX7_branchOf_97 : decode cX7_branchOf 97 = .ok (.iload_n 1, 1) := by decide +kernel
theorem dX7_branchOf_98 : decode cX7_branchOf 98 = .ok (.iload 4, 2) := by decide +kernel
theorem dX7_branchOf_100 : decode cX7_branchOf 100 = .ok (.iconst 1, 1) := by decide +kernel
theorem dX7_branchOf_101 : decode cX7_branchOf 101 = .ok (.iadd, 1) := by decide +kernel
theorem dX7_branchOf_102 : decode cX7_branchOf 102 = .ok (.invokevirtual 128, 3) := by decide +kernel
theorem dX7_branchOf_105 : decode cX7_branchOf 105 = .ok (.bipush 112, 2) := by decide +kernel
theorem dX7_branchOf_107 : decode cX7_branchOf 107 = .ok (.iload_n 2, 1) := by decide +kernel
theorem dX7_branchOf_108 : decode cX7_branchOf 108 = .ok (.iadd, 1) := by decide +kernel
theorem dX7_branchOf_109 : decode cX7_branchOf 109 = .ok (.if_icmp .ne 8, 3) := by decide +kernel
theorem dX7_branchOf_112 : decode cX7_branchOf 112 = .ok (.iload 4, 2) := by decide +kernel
theorem dX7_branchOf_114 : decode cX7_branchOf 114 = .ok (.iconst 3, 1) := by decide +kernel
theorem dX7_branchOf_115 : decode cX7_branchOf 115 = .ok (.iadd, 1) := by decide +kernel
theorem dX7_branchOf_116 : decode cX7_branchOf 116 = .ok (.ireturn, 1) := by decide +kernel
theorem dX7_branchOf_117 : decode cX7_branchOf 117 = .ok (.iinc 4 1, 3) := by decide +kernel
theorem dX7_branchOf_120 : decode cX7_branchOf 120 = .ok (.goto (-97), 3) := by decide +kernel
theorem dX7_branchOf_123 : decode cX7_branchOf 123 = .ok (.iconst (-1), 1) := by decide +kernel
theorem dX7_branchOf_124 : decode cX7_branchOf 124 = .ok (.ireturn, 1) := by decide +kernel
theorem dX7_offers_0 : decode cX7_offers 0 = .ok (.iload_n 2, 1) := by decide +kernel
theorem dX7_offers_1 : decode cX7_offers 1 = .ok (.ifCond .lt 21, 3) := by decide +kernel
theorem dX7_offers_4 : decode cX7_offers 4 = .ok (.iload_n 2, 1) := by decide +kernel
theorem dX7_offers_5 : decode cX7_offers 5 = .ok (.iconst 5, 1) := by decide +kernel
theorem dX7_offers_6 : decode cX7_offers 6 = .ok (.if_icmp .gt 16, 3) := by decide +kernel
theorem dX7_offers_9 : decode cX7_offers 9 = .ok (.aload_n 0, 1) := by decide +kernel
theorem dX7_offers_10 : decode cX7_offers 10 = .ok (.iload_n 1, 1) := by decide +kernel
theorem dX7_offers_11 : decode cX7_offers 11 = .ok (.iload_n 2, 1) := by decide +kernel
theorem dX7_offers_12 : decode cX7_offers 12 = .ok (.invokevirtual 145, 3) := by decide +kernel
theorem dX7_offers_15 : decode cX7_offers 15 = .ok (.ifCond .lt 7, 3) := by decide +kernel
theorem dX7_offers_18 : decode cX7_offers 18 = .ok (.iconst 1, 1) := by decide +kernel
theorem dX7_offers_19 : decode cX7_offers 19 = .ok (.goto 4, 3) := by decide +kernel
theorem dX7_offers_22 : decode cX7_offers 22 = .ok (.iconst 0, 1) := by decide +kernel
theorem dX7_offers_23 : decode cX7_offers 23 = .ok (.ireturn, 1) := by decide +kernel
theorem dX7_send_0 : decode cX7_send 0 = .ok (.aload_n 0, 1) := by decide +kernel
theorem dX7_send_1 : decode cX7_send 1 = .ok (.iload_n 1, 1) := by decide +kernel
theorem dX7_send_2 : decode cX7_send 2 = .ok (.invokevirtual 142, 3) := by decide +kernel
theorem dX7_send_5 : decode cX7_send 5 = .ok (.iconst 1, 1) := by decide +kernel
theorem dX7_send_6 : decode cX7_send 6 = .ok (.if_icmp .ne 12, 3) := by decide +kernel
theorem dX7_send_9 : decode cX7_send 9 = .ok (.aload_n 0, 1) := by decide +kernel
theorem dX7_send_10 : decode cX7_send 10 = .ok (.iload_n 1, 1) := by decide +kernel
theorem dX7_send_11 : decode cX7_send 11 = .ok (.iload_n 2, 1) := by decide +kernel
theorem dX7_send_12 : decode cX7_send 12 = .ok (.invokevirtual 148, 3) := by decide +kernel
theorem dX7_send_15 : decode cX7_send 15 = .ok (.ifCond .ne 5, 3) := by decide +kernel
theorem dX7_send_18 : decode cX7_send 18 = .ok (.iconst 0, 1) := by decide +kernel
theorem dX7_send_19 : decode cX7_send 19 = .ok (.ireturn, 1) := by decide +kernel
theorem dX7_send_20 : decode cX7_send 20 = .ok (.iconst 4, 1) := by decide +kernel
theorem dX7_send_21 : decode cX7_send 21 = .ok (.iload_n 1, 1) := by decide +kernel
theorem dX7_send_22 : decode cX7_send 22 = .ok (.imul, 1) := by decide +kernel
theorem dX7_send_23 : decode cX7_send 23 = .ok (.aload_n 0, 1) := by decide +kernel
theorem dX7_send_24 : decode cX7_send 24 = .ok (.iload_n 1, 1) := by decide +kernel
theorem dX7_send_25 : decode cX7_send 25 = .ok (.invokevirtual 151, 3) := by decide +kernel
theorem dX7_send_28 : decode cX7_send 28 = .ok (.iadd, 1) := by decide +kernel
theorem dX7_send_29 : decode cX7_send 29 = .ok (.istore_n 3, 1) := by decide +kernel
theorem dX7_send_30 : decode cX7_send 30 = .ok (.aload_n 0, 1) := by decide +kernel
theorem dX7_send_31 : decode cX7_send 31 = .ok (.getfield 47, 3) := by decide +kernel
theorem dX7_send_34 : decode cX7_send 34 = .ok (.iload_n 3, 1) := by decide +kernel
theorem dX7_send_35 : decode cX7_send 35 = .ok (.iaload, 1) := by decide +kernel
theorem dX7_send_36 : decode cX7_send 36 = .ok (.iconst 3, 1) := by decide +kernel
theorem dX7_send_37 : decode cX7_send 37 = .ok (.if_icmp .ne 5, 3) := by decide +kernel
theorem dX7_send_40 : decode cX7_send 40 = .ok (.iconst 0, 1) := by decide +kernel
theorem dX7_send_41 : decode cX7_send 41 = .ok (.ireturn, 1) := by decide +kernel
theorem dX7_send_42 : decode cX7_send 42 = .ok (.aload_n 0, 1) := by decide +kernel
theorem dX7_send_43 : decode cX7_send 43 = .ok (.getfield 44, 3) := by decide +kernel
theorem dX7_send_46 : decode cX7_send 46 = .ok (.iconst 3, 1) := by decide +kernel
theorem dX7_send_47 : decode cX7_send 47 = .ok (.iload_n 3, 1) := by decide +kernel
theorem dX7_send_48 : decode cX7_send 48 = .ok (.imul, 1) := by decide +kernel
theorem dX7_send_49 : decode cX7_send 49 = .ok (.aload_n 0, 1) := by decide +kernel
theorem dX7_send_50 : decode cX7_send 50 = .ok (.getfield 47, 3) := by decide +kernel
theorem dX7_send_53 : decode cX7_send 53 = .ok (.iload_n 3, 1) := by decide +kernel
theorem dX7_send_54 : decode cX7_send 54 = .ok (.iaload, 1) := by decide +kernel
theorem dX7_send_55 : decode cX7_send 55 = .ok (.iadd, 1) := by decide +kernel
theorem dX7_send_56 : decode cX7_send 56 = .ok (.iload_n 2, 1) := by decide +kernel
theorem dX7_send_57 : decode cX7_send 57 = .ok (.iastore, 1) := by decide +kernel
theorem dX7_send_58 : decode cX7_send 58 = .ok (.aload_n 0, 1) := by decide +kernel
theorem dX7_send_59 : decode cX7_send 59 = .ok (.getfield 47, 3) := by decide +kernel
theorem dX7_send_62 : decode cX7_send 62 = .ok (.iload_n 3, 1) := by decide +kernel
theorem dX7_send_63 : decode cX7_send 63 = .ok (.dup2, 1) := by decide +kernel
theorem dX7_send_64 : decode cX7_send 64 = .ok (.iaload, 1) := by decide +kernel
theorem dX7_send_65 : decode cX7_send 65 = .ok (.iconst 1, 1) := by decide +kernel
theorem dX7_send_66 : decode cX7_send 66 = .ok (.iadd, 1) := by decide +kernel
theorem dX7_send_67 : decode cX7_send 67 = .ok (.iastore, 1) := by decide +kernel
theorem dX7_send_68 : decode cX7_send 68 = .ok (.aload_n 0, 1) := by decide +kernel
theorem dX7_send_69 : decode cX7_send 69 = .ok (.dup, 1) := by decide +kernel
theorem dX7_send_70 : decode cX7_send 70 = .ok (.getfield 136, 3) := by decide +kernel
theorem dX7_send_73 : decode cX7_send 73 = .ok (.iconst 1, 1) := by decide +kernel
theorem dX7_send_74 : decode cX7_send 74 = .ok (.iadd, 1) := by decide +kernel
theorem dX7_send_75 : decode cX7_send 75 = .ok (.putfield 136, 3) := by decide +kernel
theorem dX7_send_78 : decode cX7_send 78 = .ok (.aload_n 0, 1) := by decide +kernel
theorem dX7_send_79 : decode cX7_send 79 = .ok (.iload_n 1, 1) := by decide +kernel
theorem dX7_send_80 : decode cX7_send 80 = .ok (.aload_n 0, 1) := by decide +kernel
theorem dX7_send_81 : decode cX7_send 81 = .ok (.iload_n 1, 1) := by decide +kernel
theorem dX7_send_82 : decode cX7_send 82 = .ok (.iload_n 2, 1) := by decide +kernel
theorem dX7_send_83 : decode cX7_send 83 = .ok (.invokevirtual 145, 3) := by decide +kernel
theorem dX7_send_86 : decode cX7_send 86 = .ok (.invokevirtual 139, 3) := by decide +kernel
theorem dX7_send_89 : decode cX7_send 89 = .ok (.iconst 1, 1) := by decide +kernel
theorem dX7_send_90 : decode cX7_send 90 = .ok (.ireturn, 1) := by decide +kernel
theorem dX7_receive_0 : decode cX7_receive 0 = .ok (.aload_n 0, 1) := by decide +kernel
theorem dX7_receive_1 : decode cX7_receive 1 = .ok (.iload_n 1, 1) := by decide +kernel
theorem dX7_receive_2 : decode cX7_receive 2 = .ok (.invokevirtual 142, 3) := by decide +kernel
theorem dX7_receive_5 : decode cX7_receive 5 = .ok (.iconst 2, 1) := by decide +kernel
theorem dX7_receive_6 : decode cX7_receive 6 = .ok (.if_icmp .eq 5, 3) := by decide +kernel
theorem dX7_receive_9 : decode cX7_receive 9 = .ok (.iconst (-1), 1) := by decide +kernel
theorem dX7_receive_10 : decode cX7_receive 10 = .ok (.ireturn, 1) := by decide +kernel
theorem dX7_receive_11 : decode cX7_receive 11 = .ok (.iconst 4, 1) := by decide +kernel
theorem dX7_receive_12 : decode cX7_receive 12 = .ok (.aload_n 0, 1) := by decide +kernel
theorem dX7_receive_13 : decode cX7_receive 13 = .ok (.iload_n 1, 1) := by decide +kernel
theorem dX7_receive_14 : decode cX7_receive 14 = .ok (.invokevirtual 151, 3) := by decide +kernel
theorem dX7_receive_17 : decode cX7_receive 17 = .ok (.imul, 1) := by decide +kernel
theorem dX7_receive_18 : decode cX7_receive 18 = .ok (.iload_n 1, 1) := by decide +kernel
theorem dX7_receive_19 : decode cX7_receive 19 = .ok (.iadd, 1) := by decide +kernel
theorem dX7_receive_20 : decode cX7_receive 20 = .ok (.istore_n 2, 1) := by decide +kernel
theorem dX7_receive_21 : decode cX7_receive 21 = .ok (.aload_n 0, 1) := by decide +kernel
theorem dX7_receive_22 : decode cX7_receive 22 = .ok (.getfield 47, 3) := by decide +kernel
theorem dX7_receive_25 : decode cX7_receive 25 = .ok (.iload_n 2, 1) := by decide +kernel
theorem dX7_receive_26 : decode cX7_receive 26 = .ok (.iaload, 1) := by decide +kernel
theorem dX7_receive_27 : decode cX7_receive 27 = .ok (.ifCond .ne 5, 3) := by decide +kernel
theorem dX7_receive_30 : decode cX7_receive 30 = .ok (.iconst (-1), 1) := by decide +kernel
theorem dX7_receive_31 : decode cX7_receive 31 = .ok (.ireturn, 1) := by decide +kernel
theorem dX7_receive_32 : decode cX7_receive 32 = .ok (.aload_n 0, 1) := by decide +kernel
theorem dX7_receive_33 : decode cX7_receive 33 = .ok (.getfield 44, 3) := by decide +kernel
theorem dX7_receive_36 : decode cX7_receive 36 = .ok (.iconst 3, 1) := by decide +kernel
theorem dX7_receive_37 : decode cX7_receive 37 = .ok (.iload_n 2, 1) := by decide +kernel
theorem dX7_receive_38 : decode cX7_receive 38 = .ok (.imul, 1) := by decide +kernel
theorem dX7_receive_39 : decode cX7_receive 39 = .ok (.iaload, 1) := by decide +kernel
theorem dX7_receive_40 : decode cX7_receive 40 = .ok (.istore_n 3, 1) := by decide +kernel
theorem dX7_receive_41 : decode cX7_receive 41 = .ok (.aload_n 0, 1) := by decide +kernel
theorem dX7_receive_42 : decode cX7_receive 42 = .ok (.iload_n 1, 1) := by decide +kernel
theorem dX7_receive_43 : decode cX7_receive 43 = .ok (.iload_n 3, 1) := by decide +kernel
theorem dX7_receive_44 : decode cX7_receive 44 = .ok (.invokevirtual 148, 3) := by decide +kernel
theorem dX7_receive_47 : decode cX7_receive 47 = .ok (.ifCond .ne 6, 3) := by decide +kernel
theorem dX7_receive_50 : decode cX7_receive 50 = .ok (.bipush (-2), 2) := by decide +kernel
theorem dX7_receive_52 : decode cX7_receive 52 = .ok (.ireturn, 1) := by decide +kernel
theorem dX7_receive_53 : decode cX7_receive 53 = .ok (.aload_n 0, 1) := by decide +kernel
theorem dX7_receive_54 : decode cX7_receive 54 = .ok (.getfield 44, 3) := by decide +kernel
theorem dX7_receive_57 : decode cX7_receive 57 = .ok (.iconst 3, 1) := by decide +kernel
theorem dX7_receive_58 : decode cX7_receive 58 = .ok (.iload_n 2, 1) := by decide +kernel
theorem dX7_receive_59 : decode cX7_receive 59 = .ok (.imul, 1) := by decide +kernel
theorem dX7_receive_60 : decode cX7_receive 60 = .ok (.aload_n 0, 1) := by decide +kernel
theorem dX7_receive_61 : decode cX7_receive 61 = .ok (.getfield 44, 3) := by decide +kernel
theorem dX7_receive_64 : decode cX7_receive 64 = .ok (.iconst 3, 1) := by decide +kernel
theorem dX7_receive_65 : decode cX7_receive 65 = .ok (.iload_n 2, 1) := by decide +kernel
theorem dX7_receive_66 : decode cX7_receive 66 = .ok (.imul, 1) := by decide +kernel
theorem dX7_receive_67 : decode cX7_receive 67 = .ok (.iconst 1, 1) := by decide +kernel
theorem dX7_receive_68 : decode cX7_receive 68 = .ok (.iadd, 1) := by decide +kernel
theorem dX7_receive_69 : decode cX7_receive 69 = .ok (.iaload, 1) := by decide +kernel
theorem dX7_receive_70 : decode cX7_receive 70 = .ok (.iastore, 1) := by decide +kernel
theorem dX7_receive_71 : decode cX7_receive 71 = .ok (.aload_n 0, 1) := by decide +kernel
theorem dX7_receive_72 : decode cX7_receive 72 = .ok (.getfield 44, 3) := by decide +kernel
theorem dX7_receive_75 : decode cX7_receive 75 = .ok (.iconst 3, 1) := by decide +kernel
theorem dX7_receive_76 : decode cX7_receive 76 = .ok (.iload_n 2, 1) := by decide +kernel
theorem dX7_receive_77 : decode cX7_receive 77 = .ok (.imul, 1) := by decide +kernel
theorem dX7_receive_78 : decode cX7_receive 78 = .ok (.iconst 1, 1) := by decide +kernel
theorem dX7_receive_79 : decode cX7_receive 79 = .ok (.iadd, 1) := by decide +kernel
theorem dX7_receive_80 : decode cX7_receive 80 = .ok (.aload_n 0, 1) := by decide +kernel
theorem dX7_receive_81 : decode cX7_receive 81 = .ok (.getfield 44, 3) := by decide +kernel
theorem dX7_receive_84 : decode cX7_receive 84 = .ok (.iconst 3, 1) := by decide +kernel
theorem dX7_receive_85 : decode cX7_receive 85 = .ok (.iload_n 2, 1) := by decide +kernel
theorem dX7_receive_86 : decode cX7_receive 86 = .ok (.imul, 1) := by decide +kernel
theorem dX7_receive_87 : decode cX7_receive 87 = .ok (.iconst 2, 1) := by decide +kernel
theorem dX7_receive_88 : decode cX7_receive 88 = .ok (.iadd, 1) := by decide +kernel
theorem dX7_receive_89 : decode cX7_receive 89 = .ok (.iaload, 1) := by decide +kernel
theorem dX7_receive_90 : decode cX7_receive 90 = .ok (.iastore, 1) := by decide +kernel
theorem dX7_receive_91 : decode cX7_receive 91 = .ok (.aload_n 0, 1) := by decide +kernel
theorem dX7_receive_92 : decode cX7_receive 92 = .ok (.getfield 47, 3) := by decide +kernel
theorem dX7_receive_95 : decode cX7_receive 95 = .ok (.iload_n 2, 1) := by decide +kernel
theorem dX7_receive_96 : decode cX7_receive 96 = .ok (.dup2, 1) := by decide +kernel
theorem dX7_receive_97 : decode cX7_receive 97 = .ok (.iaload, 1) := by decide +kernel
theorem dX7_receive_98 : decode cX7_receive 98 = .ok (.iconst 1, 1) := by decide +kernel
theorem dX7_receive_99 : decode cX7_receive 99 = .ok (.isub, 1) := by decide +kernel
theorem dX7_receive_100 : decode cX7_receive 100 = .ok (.iastore, 1) := by decide +kernel
theorem dX7_receive_101 : decode cX7_receive 101 = .ok (.aload_n 0, 1) := by decide +kernel
theorem dX7_receive_102 : decode cX7_receive 102 = .ok (.dup, 1) := by decide +kernel
theorem dX7_receive_103 : decode cX7_receive 103 = .ok (.getfield 136, 3) := by decide +kernel
theorem dX7_receive_106 : decode cX7_receive 106 = .ok (.iconst 1, 1) := by decide +kernel
theorem dX7_receive_107 : decode cX7_receive 107 = .ok (.iadd, 1) := by decide +kernel
theorem dX7_receive_108 : decode cX7_receive 108 = .ok (.putfield 136, 3) := by decide +kernel
theorem dX7_receive_111 : decode cX7_receive 111 = .ok (.aload_n 0, 1) := by decide +kernel
theorem dX7_receive_112 : decode cX7_receive 112 = .ok (.iload_n 1, 1) := by decide +kernel
theorem dX7_receive_113 : decode cX7_receive 113 = .ok (.aload_n 0, 1) := by decide +kernel
theorem dX7_receive_114 : decode cX7_receive 114 = .ok (.iload_n 1, 1) := by decide +kernel
theorem dX7_receive_115 : decode cX7_receive 115 = .ok (.iload_n 3, 1) := by decide +kernel
theorem dX7_receive_116 : decode cX7_receive 116 = .ok (.invokevirtual 145, 3) := by decide +kernel
theorem dX7_receive_119 : decode cX7_receive 119 = .ok (.invokevirtual 139, 3) := by decide +kernel
theorem dX7_receive_122 : decode cX7_receive 122 = .ok (.iload_n 3, 1) := by decide +kernel
theorem dX7_receive_123 : decode cX7_receive 123 = .ok (.ireturn, 1) := by decide +kernel
theorem dX7_onTheWay_0 : decode cX7_onTheWay 0 = .ok (.aload_n 0, 1) := by decide +kernel
theorem dX7_onTheWay_1 : decode cX7_onTheWay 1 = .ok (.getfield 122, 3) := by decide +kernel
theorem dX7_onTheWay_4 : decode cX7_onTheWay 4 = .ok (.ifCond .eq 30, 3) := by decide +kernel
theorem dX7_onTheWay_7 : decode cX7_onTheWay 7 = .ok (.iload_n 1, 1) := by decide +kernel
theorem dX7_onTheWay_8 : decode cX7_onTheWay 8 = .ok (.invokestatic 125, 3) := by decide +kernel
theorem dX7_onTheWay_11 : decode cX7_onTheWay 11 = .ok (.ifCond .eq 23, 3) := by decide +kernel
theorem dX7_onTheWay_14 : decode cX7_onTheWay 14 = .ok (.iload_n 2, 1) := by decide +kernel
theorem dX7_onTheWay_15 : decode cX7_onTheWay 15 = .ok (.invokestatic 125, 3) := by decide +kernel
theorem dX7_onTheWay_18 : decode cX7_onTheWay 18 = .ok (.ifCond .eq 16, 3) := by decide +kernel
theorem dX7_onTheWay_21 : decode cX7_onTheWay 21 = .ok (.aload_n 0, 1) := by decide +kernel
theorem dX7_onTheWay_22 : decode cX7_onTheWay 22 = .ok (.getfield 47, 3) := by decide +kernel
theorem dX7_onTheWay_25 : decode cX7_onTheWay 25 = .ok (.iconst 4, 1) := by decide +kernel
theorem dX7_onTheWay_26 : decode cX7_onTheWay 26 = .ok (.iload_n 1, 1) := by decide +kernel
theorem dX7_onTheWay_27 : decode cX7_onTheWay 27 = .ok (.imul, 1) := by decide +kernel
theorem dX7_onTheWay_28 : decode cX7_onTheWay 28 = .ok (.iload_n 2, 1) := by decide +kernel
theorem dX7_onTheWay_29 : decode cX7_onTheWay 29 = .ok (.iadd, 1) := by decide +kernel
theorem dX7_onTheWay_30 : decode cX7_onTheWay 30 = .ok (.iaload, 1) := by decide +kernel
theorem dX7_onTheWay_31 : decode cX7_onTheWay 31 = .ok (.goto 4, 3) := by decide +kernel
theorem dX7_onTheWay_34 : decode cX7_onTheWay 34 = .ok (.iconst (-1), 1) := by decide +kernel
theorem dX7_onTheWay_35 : decode cX7_onTheWay 35 = .ok (.ireturn, 1) := by decide +kernel
theorem dX7_labelAt_0 : decode cX7_labelAt 0 = .ok (.iload_n 3, 1) := by decide +kernel
theorem dX7_labelAt_1 : decode cX7_labelAt 1 = .ok (.ifCond .lt 30, 3) := by decide +kernel
theorem dX7_labelAt_4 : decode cX7_labelAt 4 = .ok (.iload_n 3, 1) := by decide +kernel
theorem dX7_labelAt_5 : decode cX7_labelAt 5 = .ok (.aload_n 0, 1) := by decide +kernel
theorem dX7_labelAt_6 : decode cX7_labelAt 6 = .ok (.iload_n 1, 1) := by decide +kernel
theorem dX7_labelAt_7 : decode cX7_labelAt 7 = .ok (.iload_n 2, 1) := by decide +kernel
theorem dX7_labelAt_8 : decode cX7_labelAt 8 = .ok (.invokevirtual 154, 3) := by decide +kernel
theorem dX7_labelAt_11 : decode cX7_labelAt 11 = .ok (.if_icmp .ge 20, 3) := by decide +kernel
theorem dX7_labelAt_14 : decode cX7_labelAt 14 = .ok (.aload_n 0, 1) := by decide +kernel
theorem dX7_labelAt_15 : decode cX7_labelAt 15 = .ok (.getfield 44, 3) := by decide +kernel
theorem dX7_labelAt_18 : decode cX7_labelAt 18 = .ok (.iconst 3, 1) := by decide +kernel
theorem dX7_labelAt_19 : decode cX7_labelAt 19 = .ok (.iconst 4, 1) := by decide +kernel
theorem dX7_labelAt_20 : decode cX7_labelAt 20 = .ok (.iload_n 1, 1) := by decide +kernel
theorem dX7_labelAt_21 : decode cX7_labelAt 21 = .ok (.imul, 1) := by decide +kernel
theorem dX7_labelAt_22 : decode cX7_labelAt 22 = .ok (.iload_n 2, 1) := by decide +kernel
theorem dX7_labelAt_23 : decode cX7_labelAt 23 = .ok (.iadd, 1) := by decide +kernel
theorem dX7_labelAt_24 : decode cX7_labelAt 24 = .ok (.imul, 1) := by decide +kernel
theorem dX7_labelAt_25 : decode cX7_labelAt 25 = .ok (.iload_n 3, 1) := by decide +kernel
theorem dX7_labelAt_26 : decode cX7_labelAt 26 = .ok (.iadd, 1) := by decide +kernel
theorem dX7_labelAt_27 : decode cX7_labelAt 27 = .ok (.iaload, 1) := by decide +kernel
theorem dX7_labelAt_28 : decode cX7_labelAt 28 = .ok (.goto 4, 3) := by decide +kernel
theorem dX7_labelAt_31 : decode cX7_labelAt 31 = .ok (.iconst (-1), 1) := by decide +kernel
theorem dX7_labelAt_32 : decode cX7_labelAt 32 = .ok (.ireturn, 1) := by decide +kernel
theorem dX7_moves_0 : decode cX7_moves 0 = .ok (.aload_n 0, 1) := by decide +kernel
theorem dX7_moves_1 : decode cX7_moves 1 = .ok (.getfield 122, 3) := by decide +kernel
theorem dX7_moves_4 : decode cX7_moves 4 = .ok (.ifCond .eq 10, 3) := by decide +kernel
theorem dX7_moves_7 : decode cX7_moves 7 = .ok (.aload_n 0, 1) := by decide +kernel
theorem dX7_moves_8 : decode cX7_moves 8 = .ok (.getfield 136, 3) := by decide +kernel
theorem dX7_moves_11 : decode cX7_moves 11 = .ok (.goto 4, 3) := by decide +kernel
theorem dX7_moves_14 : decode cX7_moves 14 = .ok (.iconst (-1), 1) := by decide +kernel
theorem dX7_moves_15 : decode cX7_moves 15 = .ok (.ireturn, 1) := by decide +kernel
theorem dX7_canGo_0 : decode cX7_canGo 0 = .ok (.aload_n 0, 1) := by decide +kernel
theorem dX7_canGo_1 : decode cX7_canGo 1 = .ok (.iload_n 1, 1) := by decide +kernel
theorem dX7_canGo_2 : decode cX7_canGo 2 = .ok (.invokevirtual 142, 3) := by decide +kernel
theorem dX7_canGo_5 : decode cX7_canGo 5 = .ok (.iconst 1, 1) := by decide +kernel
theorem dX7_canGo_6 : decode cX7_canGo 6 = .ok (.if_icmp .ne 27, 3) := by decide +kernel
theorem dX7_canGo_9 : decode cX7_canGo 9 = .ok (.aload_n 0, 1) := by decide +kernel
theorem dX7_canGo_10 : decode cX7_canGo 10 = .ok (.getfield 47, 3) := by decide +kernel
theorem dX7_canGo_13 : decode cX7_canGo 13 = .ok (.iconst 4, 1) := by decide +kernel
theorem dX7_canGo_14 : decode cX7_canGo 14 = .ok (.iload_n 1, 1) := by decide +kernel
theorem dX7_canGo_15 : decode cX7_canGo 15 = .ok (.imul, 1) := by decide +kernel
theorem dX7_canGo_16 : decode cX7_canGo 16 = .ok (.aload_n 0, 1) := by decide +kernel
theorem dX7_canGo_17 : decode cX7_canGo 17 = .ok (.iload_n 1, 1) := by decide +kernel
theorem dX7_canGo_18 : decode cX7_canGo 18 = .ok (.invokevirtual 151, 3) := by decide +kernel
theorem dX7_canGo_21 : decode cX7_canGo 21 = .ok (.iadd, 1) := by decide +kernel
theorem dX7_canGo_22 : decode cX7_canGo 22 = .ok (.iaload, 1) := by decide +kernel
theorem dX7_canGo_23 : decode cX7_canGo 23 = .ok (.iconst 3, 1) := by decide +kernel
theorem dX7_canGo_24 : decode cX7_canGo 24 = .ok (.if_icmp .ge 7, 3) := by decide +kernel
theorem dX7_canGo_27 : decode cX7_canGo 27 = .ok (.iconst 1, 1) := by decide +kernel
theorem dX7_canGo_28 : decode cX7_canGo 28 = .ok (.goto 4, 3) := by decide +kernel
theorem dX7_canGo_31 : decode cX7_canGo 31 = .ok (.iconst 0, 1) := by decide +kernel
theorem dX7_canGo_32 : decode cX7_canGo 32 = .ok (.ireturn, 1) := by decide +kernel
theorem dX7_canGo_33 : decode cX7_canGo 33 = .ok (.aload_n 0, 1) := by decide +kernel
theorem dX7_canGo_34 : decode cX7_canGo 34 = .ok (.iload_n 1, 1) := by decide +kernel
theorem dX7_canGo_35 : decode cX7_canGo 35 = .ok (.invokevirtual 142, 3) := by decide +kernel
theorem dX7_canGo_38 : decode cX7_canGo 38 = .ok (.iconst 2, 1) := by decide +kernel
theorem dX7_canGo_39 : decode cX7_canGo 39 = .ok (.if_icmp .ne 39, 3) := by decide +kernel
theorem dX7_canGo_42 : decode cX7_canGo 42 = .ok (.aload_n 0, 1) := by decide +kernel
theorem dX7_canGo_43 : decode cX7_canGo 43 = .ok (.aload_n 0, 1) := by decide +kernel
theorem dX7_canGo_44 : decode cX7_canGo 44 = .ok (.iload_n 1, 1) := by decide +kernel
theorem dX7_canGo_45 : decode cX7_canGo 45 = .ok (.invokevirtual 151, 3) := by decide +kernel
theorem dX7_canGo_48 : decode cX7_canGo 48 = .ok (.iload_n 1, 1) := by decide +kernel
theorem dX7_canGo_49 : decode cX7_canGo 49 = .ok (.invokevirtual 154, 3) := by decide +kernel
theorem dX7_canGo_52 : decode cX7_canGo 52 = .ok (.ifCond .le 26, 3) := by decide +kernel
theorem dX7_canGo_55 : decode cX7_canGo 55 = .ok (.aload_n 0, 1) := by decide +kernel
theorem dX7_canGo_56 : decode cX7_canGo 56 = .ok (.iload_n 1, 1) := by decide +kernel
theorem dX7_canGo_57 : decode cX7_canGo 57 = .ok (.aload_n 0, 1) := by decide +kernel
theorem dX7_canGo_58 : decode cX7_canGo 58 = .ok (.aload_n 0, 1) := by decide +kernel
theorem dX7_canGo_59 : decode cX7_canGo 59 = .ok (.iload_n 1, 1) := by decide +kernel
theorem dX7_canGo_60 : decode cX7_canGo 60 = .ok (.invokevirtual 151, 3) := by decide +kernel
theorem dX7_canGo_63 : decode cX7_canGo 63 = .ok (.iload_n 1, 1) := by decide +kernel
theorem dX7_canGo_64 : decode cX7_canGo 64 = .ok (.iconst 0, 1) := by decide +kernel
theorem dX7_canGo_65 : decode cX7_canGo 65 = .ok (.invokevirtual 157, 3) := by decide +kernel
theorem dX7_canGo_68 : decode cX7_canGo 68 = .ok (.invokevirtual 148, 3) := by decide +kernel
theorem dX7_canGo_71 : decode cX7_canGo 71 = .ok (.ifCond .eq 7, 3) := by decide +kernel
theorem dX7_canGo_74 : decode cX7_canGo 74 = .ok (.iconst 1, 1) := by decide +kernel
theorem dX7_canGo_75 : decode cX7_canGo 75 = .ok (.goto 4, 3) := by decide +kernel
theorem dX7_canGo_78 : decode cX7_canGo 78 = .ok (.iconst 0, 1) := by decide +kernel
theorem dX7_canGo_79 : decode cX7_canGo 79 = .ok (.ireturn, 1) := by decide +kernel
theorem dX7_ready_0 : decode cX7_ready 0 = .ok (.iconst 0, 1) := by decide +kernel
theorem dX7_ready_1 : decode cX7_ready 1 = .ok (.istore_n 1, 1) := by decide +kernel
theorem dX7_ready_2 : decode cX7_ready 2 = .ok (.iconst 0, 1) := by decide +kernel
theorem dX7_ready_3 : decode cX7_ready 3 = .ok (.istore_n 2, 1) := by decide +kernel
theorem dX7_ready_4 : decode cX7_ready 4 = .ok (.iload_n 2, 1) := by decide +kernel
theorem dX7_ready_5 : decode cX7_ready 5 = .ok (.iconst 4, 1) := by decide +kernel
theorem dX7_ready_6 : decode cX7_ready 6 = .ok (.if_icmp .ge 25, 3) := by decide +kernel
theorem dX7_ready_9 : decode cX7_ready 9 = .ok (.iload_n 1, 1) := by decide +kernel
theorem dX7_ready_10 : decode cX7_ready 10 = .ok (.aload_n 0, 1) := by decide +kernel
theorem dX7_ready_11 : decode cX7_ready 11 = .ok (.iload_n 2, 1) := by decide +kernel
theorem dX7_ready_12 : decode cX7_ready 12 = .ok (.invokevirtual 160, 3) := by decide +kernel
theorem dX7_ready_15 : decode cX7_ready 15 = .ok (.ifCond .eq 7, 3) := by decide +kernel
theorem dX7_ready_18 : decode cX7_ready 18 = .ok (.iconst 1, 1) := by decide +kernel
theorem dX7_ready_19 : decode cX7_ready 19 = .ok (.goto 4, 3) := by decide +kernel
theorem dX7_ready_22 : decode cX7_ready 22 = .ok (.iconst 0, 1) := by decide +kernel
theorem dX7_ready_23 : decode cX7_ready 23 = .ok (.iadd, 1) := by decide +kernel
theorem dX7_ready_24 : decode cX7_ready 24 = .ok (.istore_n 1, 1) := by decide +kernel
theorem dX7_ready_25 : decode cX7_ready 25 = .ok (.iinc 2 1, 3) := by decide +kernel
theorem dX7_ready_28 : decode cX7_ready 28 = .ok (.goto (-24), 3) := by decide +kernel
theorem dX7_ready_31 : decode cX7_ready 31 = .ok (.aload_n 0, 1) := by decide +kernel
theorem dX7_ready_32 : decode cX7_ready 32 = .ok (.getfield 122, 3) := by decide +kernel
theorem dX7_ready_35 : decode cX7_ready 35 = .ok (.ifCond .eq 7, 3) := by decide +kernel
theorem dX7_ready_38 : decode cX7_ready 38 = .ok (.iload_n 1, 1) := by decide +kernel
theorem dX7_ready_39 : decode cX7_ready 39 = .ok (.goto 4, 3) := by decide +kernel
theorem dX7_ready_42 : decode cX7_ready 42 = .ok (.iconst (-1), 1) := by decide +kernel
theorem dX7_ready_43 : decode cX7_ready 43 = .ok (.ireturn, 1) := by decide +kernel
theorem dX7_over_0 : decode cX7_over 0 = .ok (.aload_n 0, 1) := by decide +kernel
theorem dX7_over_1 : decode cX7_over 1 = .ok (.getfield 122, 3) := by decide +kernel
theorem dX7_over_4 : decode cX7_over 4 = .ok (.istore_n 1, 1) := by decide +kernel
theorem dX7_over_5 : decode cX7_over 5 = .ok (.iconst 0, 1) := by decide +kernel
theorem dX7_over_6 : decode cX7_over 6 = .ok (.istore_n 2, 1) := by decide +kernel
theorem dX7_over_7 : decode cX7_over 7 = .ok (.iload_n 2, 1) := by decide +kernel
theorem dX7_over_8 : decode cX7_over 8 = .ok (.iconst 4, 1) := by decide +kernel
theorem dX7_over_9 : decode cX7_over 9 = .ok (.if_icmp .ge 27, 3) := by decide +kernel
theorem dX7_over_12 : decode cX7_over 12 = .ok (.iload_n 1, 1) := by decide +kernel
theorem dX7_over_13 : decode cX7_over 13 = .ok (.ifCond .eq 15, 3) := by decide +kernel
theorem dX7_over_16 : decode cX7_over 16 = .ok (.aload_n 0, 1) := by decide +kernel
theorem dX7_over_17 : decode cX7_over 17 = .ok (.iload_n 2, 1) := by decide +kernel
theorem dX7_over_18 : decode cX7_over 18 = .ok (.invokevirtual 142, 3) := by decide +kernel
theorem dX7_over_21 : decode cX7_over 21 = .ok (.ifCond .ne 7, 3) := by decide +kernel
theorem dX7_over_24 : decode cX7_over 24 = .ok (.iconst 1, 1) := by decide +kernel
theorem dX7_over_25 : decode cX7_over 25 = .ok (.goto 4, 3) := by decide +kernel
theorem dX7_over_28 : decode cX7_over 28 = .ok (.iconst 0, 1) := by decide +kernel
theorem dX7_over_29 : decode cX7_over 29 = .ok (.istore_n 1, 1) := by decide +kernel
theorem dX7_over_30 : decode cX7_over 30 = .ok (.iinc 2 1, 3) := by decide +kernel
theorem dX7_over_33 : decode cX7_over 33 = .ok (.goto (-26), 3) := by decide +kernel
theorem dX7_over_36 : decode cX7_over 36 = .ok (.iconst 0, 1) := by decide +kernel
theorem dX7_over_37 : decode cX7_over 37 = .ok (.istore_n 2, 1) := by decide +kernel
theorem dX7_over_38 : decode cX7_over 38 = .ok (.iload_n 2, 1) := by decide +kernel
theorem dX7_over_39 : decode cX7_over 39 = .ok (.bipush 16, 2) := by decide +kernel
theorem dX7_over_41 : decode cX7_over 41 = .ok (.if_icmp .ge 28, 3) := by decide +kernel
theorem dX7_over_44 : decode cX7_over 44 = .ok (.iload_n 1, 1) := by decide +kernel
theorem dX7_over_45 : decode cX7_over 45 = .ok (.ifCond .eq 16, 3) := by decide +kernel
theorem dX7_over_48 : decode cX7_over 48 = .ok (.aload_n 0, 1) := by decide +kernel
theorem dX7_over_49 : decode cX7_over 49 = .ok (.getfield 47, 3) := by decide +kernel
theorem dX7_over_52 : decode cX7_over 52 = .ok (.iload_n 2, 1) := by decide +kernel
theorem dX7_over_53 : decode cX7_over 53 = .ok (.iaload, 1) := by decide +kernel
theorem dX7_over_54 : decode cX7_over 54 = .ok (.ifCond .ne 7, 3) := by decide +kernel
theorem dX7_over_57 : decode cX7_over 57 = .ok (.iconst 1, 1) := by decide +kernel
theorem dX7_over_58 : decode cX7_over 58 = .ok (.goto 4, 3) := by decide +kernel
theorem dX7_over_61 : decode cX7_over 61 = .ok (.iconst 0, 1) := by decide +kernel
theorem dX7_over_62 : decode cX7_over 62 = .ok (.istore_n 1, 1) := by decide +kernel
theorem dX7_over_63 : decode cX7_over 63 = .ok (.iinc 2 1, 3) := by decide +kernel
theorem dX7_over_66 : decode cX7_over 66 = .ok (.goto (-28), 3) := by decide +kernel
theorem dX7_over_69 : decode cX7_over 69 = .ok (.iload_n 1, 1) := by decide +kernel
theorem dX7_over_70 : decode cX7_over 70 = .ok (.ireturn, 1) := by decide +kernel
theorem dL_law_0 : decode cL_law 0 = .ok (.new 7, 3) := by decide +kernel
theorem dL_law_3 : decode cL_law 3 = .ok (.dup, 1) := by decide +kernel
theorem dL_law_4 : decode cL_law 4 = .ok (.invokespecial 9, 3) := by decide +kernel
theorem dL_law_7 : decode cL_law 7 = .ok (.astore_n 1, 1) := by decide +kernel
theorem dL_law_8 : decode cL_law 8 = .ok (.new 10, 3) := by decide +kernel
theorem dL_law_11 : decode cL_law 11 = .ok (.dup, 1) := by decide +kernel
theorem dL_law_12 : decode cL_law 12 = .ok (.invokespecial 12, 3) := by decide +kernel
theorem dL_law_15 : decode cL_law 15 = .ok (.astore_n 2, 1) := by decide +kernel
theorem dL_law_16 : decode cL_law 16 = .ok (.iconst 0, 1) := by decide +kernel
theorem dL_law_17 : decode cL_law 17 = .ok (.istore_n 3, 1) := by decide +kernel
theorem dL_law_18 : decode cL_law 18 = .ok (.iload_n 3, 1) := by decide +kernel
theorem dL_law_19 : decode cL_law 19 = .ok (.aload_n 0, 1) := by decide +kernel
theorem dL_law_20 : decode cL_law 20 = .ok (.arraylength, 1) := by decide +kernel
theorem dL_law_21 : decode cL_law 21 = .ok (.iconst 4, 1) := by decide +kernel
theorem dL_law_22 : decode cL_law 22 = .ok (.isub, 1) := by decide +kernel
theorem dL_law_23 : decode cL_law 23 = .ok (.if_icmp .gt 465, 3) := by decide +kernel
theorem dL_law_26 : decode cL_law 26 = .ok (.aload_n 0, 1) := by decide +kernel
theorem dL_law_27 : decode cL_law 27 = .ok (.iload_n 3, 1) := by decide +kernel
theorem dL_law_28 : decode cL_law 28 = .ok (.iaload, 1) := by decide +kernel
theorem dL_law_29 : decode cL_law 29 = .ok (.bipush 15, 2) := by decide +kernel
theorem dL_law_31 : decode cL_law 31 = .ok (.iand, 1) := by decide +kernel
theorem dL_law_32 : decode cL_law 32 = .ok (.tableswitch 450 0 15 #[80, 105, 118, 131, 154, 187, 200, 223, 246, 279, 312, 335, 368, 411, 424, 437], 80) := by decide +kernel
theorem dL_law_112 : decode cL_law 112 = .ok (.aload_n 1, 1) := by decide +kernel
theorem dL_law_113 : decode cL_law 113 = .ok (.aload_n 0, 1) := by decide +kernel
theorem dL_law_114 : decode cL_law 114 = .ok (.iload_n 3, 1) := by decide +kernel
theorem dL_law_115 : decode cL_law 115 = .ok (.iconst 1, 1) := by decide +kernel
theorem dL_law_116 : decode cL_law 116 = .ok (.iadd, 1) := by decide +kernel
theorem dL_law_117 : decode cL_law 117 = .ok (.iaload, 1) := by decide +kernel
theorem dL_law_118 : decode cL_law 118 = .ok (.i2c, 1) := by decide +kernel
theorem dL_law_119 : decode cL_law 119 = .ok (.invokevirtual 13, 3) := by decide +kernel
theorem dL_law_122 : decode cL_law 122 = .ok (.aload_n 2, 1) := by decide +kernel
theorem dL_law_123 : decode cL_law 123 = .ok (.aload_n 0, 1) := by decide +kernel
theorem dL_law_124 : decode cL_law 124 = .ok (.iload_n 3, 1) := by decide +kernel
theorem dL_law_125 : decode cL_law 125 = .ok (.iconst 1, 1) := by decide +kernel
theorem dL_law_126 : decode cL_law 126 = .ok (.iadd, 1) := by decide +kernel
theorem dL_law_127 : decode cL_law 127 = .ok (.iaload, 1) := by decide +kernel
theorem dL_law_128 : decode cL_law 128 = .ok (.i2c, 1) := by decide +kernel
theorem dL_law_129 : decode cL_law 129 = .ok (.invokevirtual 17, 3) := by decide +kernel
theorem dL_law_132 : decode cL_law 132 = .ok (.if_icmp .eq 350, 3) := by decide +kernel
theorem dL_law_135 : decode cL_law 135 = .ok (.iconst 0, 1) := by decide +kernel
theorem dL_law_136 : decode cL_law 136 = .ok (.ireturn, 1) := by decide +kernel
theorem dL_law_137 : decode cL_law 137 = .ok (.aload_n 1, 1) := by decide +kernel
theorem dL_law_138 : decode cL_law 138 = .ok (.invokevirtual 18, 3) := by decide +kernel
theorem dL_law_141 : decode cL_law 141 = .ok (.aload_n 2, 1) := by decide +kernel
theorem dL_law_142 : decode cL_law 142 = .ok (.invokevirtual 22, 3) := by decide +kernel
theorem dL_law_145 : decode cL_law 145 = .ok (.if_icmp .eq 337, 3) := by decide +kernel
theorem dL_law_148 : decode cL_law 148 = .ok (.iconst 0, 1) := by decide +kernel
theorem dL_law_149 : decode cL_law 149 = .ok (.ireturn, 1) := by decide +kernel
theorem dL_law_150 : decode cL_law 150 = .ok (.aload_n 1, 1) := by decide +kernel
theorem dL_law_151 : decode cL_law 151 = .ok (.invokevirtual 23, 3) := by decide +kernel
theorem dL_law_154 : decode cL_law 154 = .ok (.aload_n 2, 1) := by decide +kernel
theorem dL_law_155 : decode cL_law 155 = .ok (.invokevirtual 26, 3) := by decide +kernel
theorem dL_law_158 : decode cL_law 158 = .ok (.if_icmp .eq 324, 3) := by decide +kernel
theorem dL_law_161 : decode cL_law 161 = .ok (.iconst 0, 1) := by decide +kernel
theorem dL_law_162 : decode cL_law 162 = .ok (.ireturn, 1) := by decide +kernel
theorem dL_law_163 : decode cL_law 163 = .ok (.aload_n 1, 1) := by decide +kernel
theorem dL_law_164 : decode cL_law 164 = .ok (.aload_n 0, 1) := by decide +kernel
theorem dL_law_165 : decode cL_law 165 = .ok (.iload_n 3, 1) := by decide +kernel
theorem dL_law_166 : decode cL_law 166 = .ok (.iconst 1, 1) := by decide +kernel
theorem dL_law_167 : decode cL_law 167 = .ok (.iadd, 1) := by decide +kernel
theorem dL_law_168 : decode cL_law 168 = .ok (.iaload, 1) := by decide +kernel
theorem dL_law_169 : decode cL_law 169 = .ok (.invokevirtual 27, 3) := by decide +kernel
theorem dL_law_172 : decode cL_law 172 = .ok (.aload_n 2, 1) := by decide +kernel
theorem dL_law_173 : decode cL_law 173 = .ok (.aload_n 0, 1) := by decide +kernel
theorem dL_law_174 : decode cL_law 174 = .ok (.iload_n 3, 1) := by decide +kernel
theorem dL_law_175 : decode cL_law 175 = .ok (.iconst 1, 1) := by decide +kernel
theorem dL_law_176 : decode cL_law 176 = .ok (.iadd, 1) := by decide +kernel
theorem dL_law_177 : decode cL_law 177 = .ok (.iaload, 1) := by decide +kernel
theorem dL_law_178 : decode cL_law 178 = .ok (.invokevirtual 31, 3) := by decide +kernel
theorem dL_law_181 : decode cL_law 181 = .ok (.if_icmp .eq 301, 3) := by decide +kernel
theorem dL_law_184 : decode cL_law 184 = .ok (.iconst 0, 1) := by decide +kernel
theorem dL_law_185 : decode cL_law 185 = .ok (.ireturn, 1) := by decide +kernel
theorem dL_law_186 : decode cL_law 186 = .ok (.aload_n 1, 1) := by decide +kernel
theorem dL_law_187 : decode cL_law 187 = .ok (.aload_n 0, 1) := by decide +kernel
theorem dL_law_188 : decode cL_law 188 = .ok (.iload_n 3, 1) := by decide +kernel
theorem dL_law_189 : decode cL_law 189 = .ok (.iconst 1, 1) := by decide +kernel
theorem dL_law_190 : decode cL_law 190 = .ok (.iadd, 1) := by decide +kernel
theorem dL_law_191 : decode cL_law 191 = .ok (.iaload, 1) := by decide +kernel
theorem dL_law_192 : decode cL_law 192 = .ok (.aload_n 0, 1) := by decide +kernel
theorem dL_law_193 : decode cL_law 193 = .ok (.iload_n 3, 1) := by decide +kernel
theorem dL_law_194 : decode cL_law 194 = .ok (.iconst 2, 1) := by decide +kernel
theorem dL_law_195 : decode cL_law 195 = .ok (.iadd, 1) := by decide +kernel
theorem dL_law_196 : decode cL_law 196 = .ok (.iaload, 1) := by decide +kernel
theorem dL_law_197 : decode cL_law 197 = .ok (.invokevirtual 32, 3) := by decide +kernel
theorem dL_law_200 : decode cL_law 200 = .ok (.aload_n 2, 1) := by decide +kernel
theorem dL_law_201 : decode cL_law 201 = .ok (.aload_n 0, 1) := by decide +kernel
theorem dL_law_202 : decode cL_law 202 = .ok (.iload_n 3, 1) := by decide +kernel
theorem dL_law_203 : decode cL_law 203 = .ok (.iconst 1, 1) := by decide +kernel
theorem dL_law_204 : decode cL_law 204 = .ok (.iadd, 1) := by decide +kernel
theorem dL_law_205 : decode cL_law 205 = .ok (.iaload, 1) := by decide +kernel
theorem dL_law_206 : decode cL_law 206 = .ok (.aload_n 0, 1) := by decide +kernel
theorem dL_law_207 : decode cL_law 207 = .ok (.iload_n 3, 1) := by decide +kernel
theorem dL_law_208 : decode cL_law 208 = .ok (.iconst 2, 1) := by decide +kernel
theorem dL_law_209 : decode cL_law 209 = .ok (.iadd, 1) := by decide +kernel
theorem dL_law_210 : decode cL_law 210 = .ok (.iaload, 1) := by decide +kernel
theorem dL_law_211 : decode cL_law 211 = .ok (.invokevirtual 36, 3) := by decide +kernel
theorem dL_law_214 : decode cL_law 214 = .ok (.if_icmp .eq 268, 3) := by decide +kernel
theorem dL_law_217 : decode cL_law 217 = .ok (.iconst 0, 1) := by decide +kernel
theorem dL_law_218 : decode cL_law 218 = .ok (.ireturn, 1) := by decide +kernel
theorem dL_law_219 : decode cL_law 219 = .ok (.aload_n 1, 1) := by decide +kernel
theorem dL_law_220 : decode cL_law 220 = .ok (.invokevirtual 37, 3) := by decide +kernel
theorem dL_law_223 : decode cL_law 223 = .ok (.aload_n 2, 1) := by decide +kernel
theorem dL_law_224 : decode cL_law 224 = .ok (.invokevirtual 41, 3) := by decide +kernel
theorem dL_law_227 : decode cL_law 227 = .ok (.if_icmp .eq 255, 3) := by decide +kernel
theorem dL_law_230 : decode cL_law 230 = .ok (.iconst 0, 1) := by decide +kernel
theorem dL_law_231 : decode cL_law 231 = .ok (.ireturn, 1) := by decide +kernel
theorem dL_law_232 : decode cL_law 232 = .ok (.aload_n 1, 1) := by decide +kernel
theorem dL_law_233 : decode cL_law 233 = .ok (.aload_n 0, 1) := by decide +kernel
theorem dL_law_234 : decode cL_law 234 = .ok (.iload_n 3, 1) := by decide +kernel
theorem dL_law_235 : decode cL_law 235 = .ok (.iconst 1, 1) := by decide +kernel
theorem dL_law_236 : decode cL_law 236 = .ok (.iadd, 1) := by decide +kernel
theorem dL_law_237 : decode cL_law 237 = .ok (.iaload, 1) := by decide +kernel
theorem dL_law_238 : decode cL_law 238 = .ok (.invokevirtual 42, 3) := by decide +kernel
theorem dL_law_241 : decode cL_law 241 = .ok (.aload_n 2, 1) := by decide +kernel
theorem dL_law_242 : decode cL_law 242 = .ok (.aload_n 0, 1) := by decide +kernel
theorem dL_law_243 : decode cL_law 243 = .ok (.iload_n 3, 1) := by decide +kernel
theorem dL_law_244 : decode cL_law 244 = .ok (.iconst 1, 1) := by decide +kernel
theorem dL_law_245 : decode cL_law 245 = .ok (.iadd, 1) := by decide +kernel
theorem dL_law_246 : decode cL_law 246 = .ok (.iaload, 1) := by decide +kernel
theorem dL_law_247 : decode cL_law 247 = .ok (.invokevirtual 45, 3) := by decide +kernel
theorem dL_law_250 : decode cL_law 250 = .ok (.if_icmp .eq 232, 3) := by decide +kernel
theorem dL_law_253 : decode cL_law 253 = .ok (.iconst 0, 1) := by decide +kernel
theorem dL_law_254 : decode cL_law 254 = .ok (.ireturn, 1) := by decide +kernel
theorem dL_law_255 : decode cL_law 255 = .ok (.aload_n 1, 1) := by decide +kernel
theorem dL_law_256 : decode cL_law 256 = .ok (.aload_n 0, 1) := by decide +kernel
theorem dL_law_257 : decode cL_law 257 = .ok (.iload_n 3, 1) := by decide +kernel
theorem dL_law_258 : decode cL_law 258 = .ok (.iconst 1, 1) := by decide +kernel
theorem dL_law_259 : decode cL_law 259 = .ok (.iadd, 1) := by decide +kernel
theorem dL_law_260 : decode cL_law 260 = .ok (.iaload, 1) := by decide +kernel
theorem dL_law_261 : decode cL_law 261 = .ok (.invokevirtual 46, 3) := by decide +kernel
theorem dL_law_264 : decode cL_law 264 = .ok (.aload_n 2, 1) := by decide +kernel
theorem dL_law_265 : decode cL_law 265 = .ok (.aload_n 0, 1) := by decide +kernel
theorem dL_law_266 : decode cL_law 266 = .ok (.iload_n 3, 1) := by decide +kernel
theorem dL_law_267 : decode cL_law 267 = .ok (.iconst 1, 1) := by decide +kernel
theorem dL_law_268 : decode cL_law 268 = .ok (.iadd, 1) := by decide +kernel
theorem dL_law_269 : decode cL_law 269 = .ok (.iaload, 1) := by decide +kernel
theorem dL_law_270 : decode cL_law 270 = .ok (.invokevirtual 49, 3) := by decide +kernel
theorem dL_law_273 : decode cL_law 273 = .ok (.if_icmp .eq 209, 3) := by decide +kernel
theorem dL_law_276 : decode cL_law 276 = .ok (.iconst 0, 1) := by decide +kernel
theorem dL_law_277 : decode cL_law 277 = .ok (.ireturn, 1) := by decide +kernel
theorem dL_law_278 : decode cL_law 278 = .ok (.aload_n 1, 1) := by decide +kernel
theorem dL_law_279 : decode cL_law 279 = .ok (.aload_n 0, 1) := by decide +kernel
theorem dL_law_280 : decode cL_law 280 = .ok (.iload_n 3, 1) := by decide +kernel
theorem dL_law_281 : decode cL_law 281 = .ok (.iconst 1, 1) := by decide +kernel
theorem dL_law_282 : decode cL_law 282 = .ok (.iadd, 1) := by decide +kernel
theorem dL_law_283 : decode cL_law 283 = .ok (.iaload, 1) := by decide +kernel
theorem dL_law_284 : decode cL_law 284 = .ok (.aload_n 0, 1) := by decide +kernel
theorem dL_law_285 : decode cL_law 285 = .ok (.iload_n 3, 1) := by decide +kernel
theorem dL_law_286 : decode cL_law 286 = .ok (.iconst 2, 1) := by decide +kernel
theorem dL_law_287 : decode cL_law 287 = .ok (.iadd, 1) := by decide +kernel
theorem dL_law_288 : decode cL_law 288 = .ok (.iaload, 1) := by decide +kernel
theorem dL_law_289 : decode cL_law 289 = .ok (.invokevirtual 50, 3) := by decide +kernel
theorem dL_law_292 : decode cL_law 292 = .ok (.aload_n 2, 1) := by decide +kernel
theorem dL_law_293 : decode cL_law 293 = .ok (.aload_n 0, 1) := by decide +kernel
theorem dL_law_294 : decode cL_law 294 = .ok (.iload_n 3, 1) := by decide +kernel
theorem dL_law_295 : decode cL_law 295 = .ok (.iconst 1, 1) := by decide +kernel
theorem dL_law_296 : decode cL_law 296 = .ok (.iadd, 1) := by decide +kernel
theorem dL_law_297 : decode cL_law 297 = .ok (.iaload, 1) := by decide +kernel
theorem dL_law_298 : decode cL_law 298 = .ok (.aload_n 0, 1) := by decide +kernel
theorem dL_law_299 : decode cL_law 299 = .ok (.iload_n 3, 1) := by decide +kernel
theorem dL_law_300 : decode cL_law 300 = .ok (.iconst 2, 1) := by decide +kernel
theorem dL_law_301 : decode cL_law 301 = .ok (.iadd, 1) := by decide +kernel
theorem dL_law_302 : decode cL_law 302 = .ok (.iaload, 1) := by decide +kernel
theorem dL_law_303 : decode cL_law 303 = .ok (.invokevirtual 54, 3) := by decide +kernel
theorem dL_law_306 : decode cL_law 306 = .ok (.if_icmp .eq 176, 3) := by decide +kernel
theorem dL_law_309 : decode cL_law 309 = .ok (.iconst 0, 1) := by decide +kernel
theorem dL_law_310 : decode cL_law 310 = .ok (.ireturn, 1) := by decide +kernel
theorem dL_law_311 : decode cL_law 311 = .ok (.aload_n 1, 1) := by decide +kernel
theorem dL_law_312 : decode cL_law 312 = .ok (.aload_n 0, 1) := by decide +kernel
theorem dL_law_313 : decode cL_law 313 = .ok (.iload_n 3, 1) := by decide +kernel
theorem dL_law_314 : decode cL_law 314 = .ok (.iconst 1, 1) := by decide +kernel
theorem dL_law_315 : decode cL_law 315 = .ok (.iadd, 1) := by decide +kernel
theorem dL_law_316 : decode cL_law 316 = .ok (.iaload, 1) := by decide +kernel
theorem dL_law_317 : decode cL_law 317 = .ok (.aload_n 0, 1) := by decide +kernel
theorem dL_law_318 : decode cL_law 318 = .ok (.iload_n 3, 1) := by decide +kernel
theorem dL_law_319 : decode cL_law 319 = .ok (.iconst 2, 1) := by decide +kernel
theorem dL_law_320 : decode cL_law 320 = .ok (.iadd, 1) := by decide +kernel
theorem dL_law_321 : decode cL_law 321 = .ok (.iaload, 1) := by decide +kernel
theorem dL_law_322 : decode cL_law 322 = .ok (.invokevirtual 55, 3) := by decide +kernel
theorem dL_law_325 : decode cL_law 325 = .ok (.aload_n 2, 1) := by decide +kernel
theorem dL_law_326 : decode cL_law 326 = .ok (.aload_n 0, 1) := by decide +kernel
theorem dL_law_327 : decode cL_law 327 = .ok (.iload_n 3, 1) := by decide +kernel
theorem dL_law_328 : decode cL_law 328 = .ok (.iconst 1, 1) := by decide +kernel
theorem dL_law_329 : decode cL_law 329 = .ok (.iadd, 1) := by decide +kernel
theorem dL_law_330 : decode cL_law 330 = .ok (.iaload, 1) := by decide +kernel
theorem dL_law_331 : decode cL_law 331 = .ok (.aload_n 0, 1) := by decide +kernel
theorem dL_law_332 : decode cL_law 332 = .ok (.iload_n 3, 1) := by decide +kernel
theorem dL_law_333 : decode cL_law 333 = .ok (.iconst 2, 1) := by decide +kernel
theorem dL_law_334 : decode cL_law 334 = .ok (.iadd, 1) := by decide +kernel
theorem dL_law_335 : decode cL_law 335 = .ok (.iaload, 1) := by decide +kernel
theorem dL_law_336 : decode cL_law 336 = .ok (.invokevirtual 58, 3) := by decide +kernel
theorem dL_law_339 : decode cL_law 339 = .ok (.if_icmp .eq 143, 3) := by decide +kernel
theorem dL_law_342 : decode cL_law 342 = .ok (.iconst 0, 1) := by decide +kernel
theorem dL_law_343 : decode cL_law 343 = .ok (.ireturn, 1) := by decide +kernel
theorem dL_law_344 : decode cL_law 344 = .ok (.aload_n 1, 1) := by decide +kernel
theorem dL_law_345 : decode cL_law 345 = .ok (.aload_n 0, 1) := by decide +kernel
theorem dL_law_346 : decode cL_law 346 = .ok (.iload_n 3, 1) := by decide +kernel
theorem dL_law_347 : decode cL_law 347 = .ok (.iconst 1, 1) := by decide +kernel
theorem dL_law_348 : decode cL_law 348 = .ok (.iadd, 1) := by decide +kernel
theorem dL_law_349 : decode cL_law 349 = .ok (.iaload, 1) := by decide +kernel
theorem dL_law_350 : decode cL_law 350 = .ok (.invokevirtual 59, 3) := by decide +kernel
theorem dL_law_353 : decode cL_law 353 = .ok (.aload_n 2, 1) := by decide +kernel
theorem dL_law_354 : decode cL_law 354 = .ok (.aload_n 0, 1) := by decide +kernel
theorem dL_law_355 : decode cL_law 355 = .ok (.iload_n 3, 1) := by decide +kernel
theorem dL_law_356 : decode cL_law 356 = .ok (.iconst 1, 1) := by decide +kernel
theorem dL_law_357 : decode cL_law 357 = .ok (.iadd, 1) := by decide +kernel
theorem dL_law_358 : decode cL_law 358 = .ok (.iaload, 1) := by decide +kernel
theorem dL_law_359 : decode cL_law 359 = .ok (.invokevirtual 62, 3) := by decide +kernel
theorem dL_law_362 : decode cL_law 362 = .ok (.if_icmp .eq 120, 3) := by decide +kernel
theorem dL_law_365 : decode cL_law 365 = .ok (.iconst 0, 1) := by decide +kernel
theorem dL_law_366 : decode cL_law 366 = .ok (.ireturn, 1) := by decide +kernel
theorem dL_law_367 : decode cL_law 367 = .ok (.aload_n 1, 1) := by decide +kernel
theorem dL_law_368 : decode cL_law 368 = .ok (.aload_n 0, 1) := by decide +kernel
theorem dL_law_369 : decode cL_law 369 = .ok (.iload_n 3, 1) := by decide +kernel
theorem dL_law_370 : decode cL_law 370 = .ok (.iconst 1, 1) := by decide +kernel
theorem dL_law_371 : decode cL_law 371 = .ok (.iadd, 1) := by decide +kernel
theorem dL_law_372 : decode cL_law 372 = .ok (.iaload, 1) := by decide +kernel
theorem dL_law_373 : decode cL_law 373 = .ok (.aload_n 0, 1) := by decide +kernel
theorem dL_law_374 : decode cL_law 374 = .ok (.iload_n 3, 1) := by decide +kernel
theorem dL_law_375 : decode cL_law 375 = .ok (.iconst 2, 1) := by decide +kernel
theorem dL_law_376 : decode cL_law 376 = .ok (.iadd, 1) := by decide +kernel
theorem dL_law_377 : decode cL_law 377 = .ok (.iaload, 1) := by decide +kernel
theorem dL_law_378 : decode cL_law 378 = .ok (.invokevirtual 63, 3) := by decide +kernel
theorem dL_law_381 : decode cL_law 381 = .ok (.aload_n 2, 1) := by decide +kernel
theorem dL_law_382 : decode cL_law 382 = .ok (.aload_n 0, 1) := by decide +kernel
theorem dL_law_383 : decode cL_law 383 = .ok (.iload_n 3, 1) := by decide +kernel
theorem dL_law_384 : decode cL_law 384 = .ok (.iconst 1, 1) := by decide +kernel
theorem dL_law_385 : decode cL_law 385 = .ok (.iadd, 1) := by decide +kernel
theorem dL_law_386 : decode cL_law 386 = .ok (.iaload, 1) := by decide +kernel
theorem dL_law_387 : decode cL_law 387 = .ok (.aload_n 0, 1) := by decide +kernel
theorem dL_law_388 : decode cL_law 388 = .ok (.iload_n 3, 1) := by decide +kernel
theorem dL_law_389 : decode cL_law 389 = .ok (.iconst 2, 1) := by decide +kernel
theorem dL_law_390 : decode cL_law 390 = .ok (.iadd, 1) := by decide +kernel
theorem dL_law_391 : decode cL_law 391 = .ok (.iaload, 1) := by decide +kernel
theorem dL_law_392 : decode cL_law 392 = .ok (.invokevirtual 66, 3) := by decide +kernel
theorem dL_law_395 : decode cL_law 395 = .ok (.if_icmp .eq 87, 3) := by decide +kernel
theorem dL_law_398 : decode cL_law 398 = .ok (.iconst 0, 1) := by decide +kernel
theorem dL_law_399 : decode cL_law 399 = .ok (.ireturn, 1) := by decide +kernel
theorem dL_law_400 : decode cL_law 400 = .ok (.aload_n 1, 1) := by decide +kernel
theorem dL_law_401 : decode cL_law 401 = .ok (.aload_n 0, 1) := by decide +kernel
theorem dL_law_402 : decode cL_law 402 = .ok (.iload_n 3, 1) := by decide +kernel
theorem dL_law_403 : decode cL_law 403 = .ok (.iconst 1, 1) := by decide +kernel
theorem dL_law_404 : decode cL_law 404 = .ok (.iadd, 1) := by decide +kernel
theorem dL_law_405 : decode cL_law 405 = .ok (.iaload, 1) := by decide +kernel
theorem dL_law_406 : decode cL_law 406 = .ok (.aload_n 0, 1) := by decide +kernel
theorem dL_law_407 : decode cL_law 407 = .ok (.iload_n 3, 1) := by decide +kernel
theorem dL_law_408 : decode cL_law 408 = .ok (.iconst 2, 1) := by decide +kernel
theorem dL_law_409 : decode cL_law 409 = .ok (.iadd, 1) := by decide +kernel
theorem dL_law_410 : decode cL_law 410 = .ok (.iaload, 1) := by decide +kernel
theorem dL_law_411 : decode cL_law 411 = .ok (.aload_n 0, 1) := by decide +kernel
theorem dL_law_412 : decode cL_law 412 = .ok (.iload_n 3, 1) := by decide +kernel
theorem dL_law_413 : decode cL_law 413 = .ok (.iconst 3, 1) := by decide +kernel
theorem dL_law_414 : decode cL_law 414 = .ok (.iadd, 1) := by decide +kernel
theorem dL_law_415 : decode cL_law 415 = .ok (.iaload, 1) := by decide +kernel
theorem dL_law_416 : decode cL_law 416 = .ok (.invokevirtual 67, 3) := by decide +kernel
theorem dL_law_419 : decode cL_law 419 = .ok (.aload_n 2, 1) := by decide +kernel
theorem dL_law_420 : decode cL_law 420 = .ok (.aload_n 0, 1) := by decide +kernel
theorem dL_law_421 : decode cL_law 421 = .ok (.iload_n 3, 1) := by decide +kernel
theorem dL_law_422 : decode cL_law 422 = .ok (.iconst 1, 1) := by decide +kernel
theorem dL_law_423 : decode cL_law 423 = .ok (.iadd, 1) := by decide +kernel
theorem dL_law_424 : decode cL_law 424 = .ok (.iaload, 1) := by decide +kernel
theorem dL_law_425 : decode cL_law 425 = .ok (.aload_n 0, 1) := by decide +kernel
theorem dL_law_426 : decode cL_law 426 = .ok (.iload_n 3, 1) := by decide +kernel
theorem dL_law_427 : decode cL_law 427 = .ok (.iconst 2, 1) := by decide +kernel
theorem dL_law_428 : decode cL_law 428 = .ok (.iadd, 1) := by decide +kernel
theorem dL_law_429 : decode cL_law 429 = .ok (.iaload, 1) := by decide +kernel
theorem dL_law_430 : decode cL_law 430 = .ok (.aload_n 0, 1) := by decide +kernel
theorem dL_law_431 : decode cL_law 431 = .ok (.iload_n 3, 1) := by decide +kernel
theorem dL_law_432 : decode cL_law 432 = .ok (.iconst 3, 1) := by decide +kernel
theorem dL_law_433 : decode cL_law 433 = .ok (.iadd, 1) := by decide +kernel
theorem dL_law_434 : decode cL_law 434 = .ok (.iaload, 1) := by decide +kernel
theorem dL_law_435 : decode cL_law 435 = .ok (.invokevirtual 71, 3) := by decide +kernel
theorem dL_law_438 : decode cL_law 438 = .ok (.if_icmp .eq 44, 3) := by decide +kernel
theorem dL_law_441 : decode cL_law 441 = .ok (.iconst 0, 1) := by decide +kernel
theorem dL_law_442 : decode cL_law 442 = .ok (.ireturn, 1) := by decide +kernel
theorem dL_law_443 : decode cL_law 443 = .ok (.aload_n 1, 1) := by decide +kernel
theorem dL_law_444 : decode cL_law 444 = .ok (.invokevirtual 72, 3) := by decide +kernel
theorem dL_law_447 : decode cL_law 447 = .ok (.aload_n 2, 1) := by decide +kernel
theorem dL_law_448 : decode cL_law 448 = .ok (.invokevirtual 75, 3) := by decide +kernel
theorem dL_law_451 : decode cL_law 451 = .ok (.if_icmp .eq 31, 3) := by decide +kernel
theorem dL_law_454 : decode cL_law 454 = .ok (.iconst 0, 1) := by decide +kernel
theorem dL_law_455 : decode cL_law 455 = .ok (.ireturn, 1) := by decide +kernel
theorem dL_law_456 : decode cL_law 456 = .ok (.aload_n 1, 1) := by decide +kernel
theorem dL_law_457 : decode cL_law 457 = .ok (.invokevirtual 76, 3) := by decide +kernel
theorem dL_law_460 : decode cL_law 460 = .ok (.aload_n 2, 1) := by decide +kernel
theorem dL_law_461 : decode cL_law 461 = .ok (.invokevirtual 79, 3) := by decide +kernel
theorem dL_law_464 : decode cL_law 464 = .ok (.if_icmp .eq 18, 3) := by decide +kernel
theorem dL_law_467 : decode cL_law 467 = .ok (.iconst 0, 1) := by decide +kernel
theorem dL_law_468 : decode cL_law 468 = .ok (.ireturn, 1) := by decide +kernel
theorem dL_law_469 : decode cL_law 469 = .ok (.aload_n 1, 1) := by decide +kernel
theorem dL_law_470 : decode cL_law 470 = .ok (.invokevirtual 80, 3) := by decide +kernel
theorem dL_law_473 : decode cL_law 473 = .ok (.aload_n 2, 1) := by decide +kernel
theorem dL_law_474 : decode cL_law 474 = .ok (.invokevirtual 83, 3) := by decide +kernel
theorem dL_law_477 : decode cL_law 477 = .ok (.if_icmp .eq 5, 3) := by decide +kernel
theorem dL_law_480 : decode cL_law 480 = .ok (.iconst 0, 1) := by decide +kernel
theorem dL_law_481 : decode cL_law 481 = .ok (.ireturn, 1) := by decide +kernel
theorem dL_law_482 : decode cL_law 482 = .ok (.iinc 3 4, 3) := by decide +kernel
theorem dL_law_485 : decode cL_law 485 = .ok (.goto (-467), 3) := by decide +kernel
theorem dL_law_488 : decode cL_law 488 = .ok (.iconst 1, 1) := by decide +kernel
theorem dL_law_489 : decode cL_law 489 = .ok (.ireturn, 1) := by decide +kernel
end
section
/-! A small machine over logical addresses: values, cells, heaps, steps. Address 0 is the script. -/
abbrev ax_V : Type := Int32 ⊕ Option Nat
abbrev ax_A : Type := (Nat → Int32) ⊕ (Nat → Option Nat)
abbrev ax_C : Type := (Nat × Nat × ax_A) ⊕ (Nat × List ax_V)
/-- a heap: how many cells, how many slots, and the cells -/
abbrev ax_H : Type := Nat × Nat × (Nat → ax_C)
abbrev ax_L : Type := List (Option ax_V)
/-- what one step gives: go on; call; return -/
abbrev ax_R : Type := (Nat × ax_L × List ax_V × ax_H) ⊕ ((Nat × List ax_V × Nat × ax_L × List ax_V) ⊕ Option ax_V)
abbrev ax_O : Type := ax_L → List ax_V → ax_H → Option ax_R
def ax_up (f : Nat → ax_C) (k : Nat) (c : ax_C) : Nat → ax_C := fun j => if j = k then c else f j
def ax_set (h : ax_H) (k : Nat) (c : ax_C) : ax_H := (h.1, h.2.1, ax_up h.2.2 k c)
def ax_push (h : ax_H) (n : Nat) (c : ax_C) : ax_H := (h.1 + 1, h.2.1 + n, ax_up h.2.2 h.1 c)
/-- an index within n -/
def ax_in (i : Int32) (n : Nat) : Bool := decide (¬ i < 0) && decide (i.toNatClampNeg < n)
/-- steps, by kinds -/
def ax_const (x : Int32) (nx : Nat) : ax_O := fun L st h => some (.inl (nx, L, .inl x :: st, h))
def ax_null (nx : Nat) : ax_O := fun L st h => some (.inl (nx, L, .inr none :: st, h))
def ax_iload (i nx : Nat) : ax_O := fun L st h => match L[i]? with
  | some (some (.inl x)) => some (.inl (nx, L, .inl x :: st, h))
  | _ => none
def ax_aload (i nx : Nat) : ax_O := fun L st h => match L[i]? with
  | some (some (.inr r)) => some (.inl (nx, L, .inr r :: st, h))
  | _ => none
def ax_istore (i nx : Nat) : ax_O := fun L st h => match st with
  | .inl x :: t => some (.inl (nx, L.set i (some (.inl x)), t, h))
  | _ => none
def ax_astore (i nx : Nat) : ax_O := fun L st h => match st with
  | .inr r :: t => some (.inl (nx, L.set i (some (.inr r)), t, h))
  | _ => none
def ax_iinc (i : Nat) (n : Int32) (nx : Nat) : ax_O := fun L st h => match L[i]? with
  | some (some (.inl x)) => some (.inl (nx, L.set i (some (.inl (x + n))), st, h))
  | _ => none
def ax_bin (f : Int32 → Int32 → Int32) (nx : Nat) : ax_O := fun L st h => match st with
  | .inl y :: .inl x :: t => some (.inl (nx, L, .inl (f x y) :: t, h))
  | _ => none
def ax_un (f : Int32 → Int32) (nx : Nat) : ax_O := fun L st h => match st with
  | .inl x :: t => some (.inl (nx, L, .inl (f x) :: t, h))
  | _ => none
def ax_dup (nx : Nat) : ax_O := fun L st h => match st with
  | v :: t => some (.inl (nx, L, v :: v :: t, h))
  | _ => none
def ax_dup2 (nx : Nat) : ax_O := fun L st h => match st with
  | v :: w :: t => some (.inl (nx, L, v :: w :: v :: w :: t, h))
  | _ => none
def ax_pop (nx : Nat) : ax_O := fun L st h => match st with
  | _ :: t => some (.inl (nx, L, t, h))
  | _ => none
def ax_goto (nx : Nat) : ax_O := fun L st h => some (.inl (nx, L, st, h))
/-- a branch on one number, on two -/
def ax_if (c : Int32 → Bool) (tg nx : Nat) : ax_O := fun L st h => match st with
  | .inl x :: t => some (.inl (bif c x then tg else nx, L, t, h))
  | _ => none
def ax_icmp (c : Int32 → Int32 → Bool) (tg nx : Nat) : ax_O := fun L st h => match st with
  | .inl y :: .inl x :: t => some (.inl (bif c x y then tg else nx, L, t, h))
  | _ => none
def ax_ifnull (tg nx : Nat) : ax_O := fun L st h => match st with
  | .inr none :: t => some (.inl (tg, L, t, h))
  | .inr (some _) :: t => some (.inl (nx, L, t, h))
  | _ => none
def ax_ifnonnull (tg nx : Nat) : ax_O := fun L st h => match st with
  | .inr none :: t => some (.inl (nx, L, t, h))
  | .inr (some _) :: t => some (.inl (tg, L, t, h))
  | _ => none
/-- a switch: the places by the keys, in their order -/
def ax_sel (x : Int32) : List (Int × Nat) → Nat → Nat
  | [], d => d
  | (k, t) :: l, d => if x.toInt = k then t else ax_sel x l d
def ax_sw (ks : List (Int × Nat)) (d : Nat) : ax_O := fun L st h => match st with
  | .inl x :: t => some (.inl (ax_sel x ks d, L, t, h))
  | _ => none
/-- fields -/
def ax_get (ci k nx : Nat) : ax_O := fun L st h => match st with
  | .inr (some o) :: t => (match h.2.2 o with
    | .inr (cj, fs) => (if cj = ci ∧ 0 < o ∧ o < h.1 then (match fs[k]? with
      | some v => some (.inl (nx, L, v :: t, h))
      | none => none) else none)
    | .inl _ => none)
  | _ => none
/-- what a field of a kind takes: 0 an int, 1 a boolean, 2 a char, 3 a reference -/
def ax_fit (ty : Nat) (v : ax_V) : Bool := match v with
  | .inl x => (match ty with
    | 0 => true
    | 1 => decide (x = 0 ∨ x = 1)
    | 2 => decide ((x.toUInt32 % 65536).toInt32 = x)
    | _ => false)
  | .inr _ => ty == 3
def ax_put (ci k ty nx : Nat) : ax_O := fun L st h => match st with
  | v :: .inr (some o) :: t => (match h.2.2 o with
    | .inr (cj, fs) => (if cj = ci ∧ 0 < o ∧ o < h.1 ∧ k < fs.length ∧ ax_fit ty v = true then some (.inl (nx, L, t, ax_set h o (.inr (ci, fs.set k v)))) else none)
    | .inl _ => none)
  | _ => none
/-- arrays of numbers: 0 int, 1 char; of references: 2 Player, 3 PartWriter, 4 Row; 9 the script -/
def ax_ald (ty nx : Nat) : ax_O := fun L st h => match st with
  | .inl i :: .inr (some o) :: t => (match h.2.2 o with
    | .inl (tz, n, .inl f) => (if tz = ty ∧ 0 < o ∧ o < h.1 ∧ ax_in i n = true then some (.inl (nx, L, .inl (f i.toNatClampNeg) :: t, h)) else none)
    | _ => none)
  | _ => none
def ax_sld (nx : Nat) : ax_O := fun L st h => match st with
  | .inl i :: .inr (some 0) :: t => (match h.2.2 0 with
    | .inl (9, n, .inl f) => (if ax_in i n = true then some (.inl (nx, L, .inl (f i.toNatClampNeg) :: t, h)) else none)
    | _ => none)
  | _ => none
def ax_slen (nx : Nat) : ax_O := fun L st h => match st with
  | .inr (some 0) :: t => (match h.2.2 0 with
    | .inl (9, n, .inl _) => some (.inl (nx, L, .inl (Int32.ofNat n) :: t, h))
    | _ => none)
  | _ => none
def ax_ast (ty nx : Nat) : ax_O := fun L st h => match st with
  | .inl x :: .inl i :: .inr (some o) :: t => (match h.2.2 o with
    | .inl (tz, n, .inl f) => (if tz = ty ∧ 0 < o ∧ o < h.1 ∧ ax_in i n = true then some (.inl (nx, L, t, ax_set h o (.inl (ty, n, .inl (upd f i.toNatClampNeg (if ty = 1 then vp_nar .char x else x)))))) else none)
    | _ => none)
  | _ => none
def ax_aald (nx : Nat) : ax_O := fun L st h => match st with
  | .inl i :: .inr (some o) :: t => (match h.2.2 o with
    | .inl (tz, n, .inr f) => (if 2 ≤ tz ∧ tz ≤ 4 ∧ 0 < o ∧ o < h.1 ∧ ax_in i n = true then some (.inl (nx, L, .inr (f i.toNatClampNeg) :: t, h)) else none)
    | _ => none)
  | _ => none
/-- the class whose objects an array of references of a kind takes -/
def ax_ec (ty : Nat) : Nat := match ty with
  | 2 => 2
  | 3 => 1
  | _ => 3
def ax_aast (nx : Nat) : ax_O := fun L st h => match st with
  | .inr (some v) :: .inl i :: .inr (some o) :: t => (match h.2.2 o, h.2.2 v with
    | .inl (tz, n, .inr f), .inr (cj, _) => (if 2 ≤ tz ∧ tz ≤ 4 ∧ 0 < o ∧ o < h.1 ∧ ax_in i n = true ∧ 0 < v ∧ v < h.1 ∧ cj = ax_ec tz then some (.inl (nx, L, t, ax_set h o (.inl (tz, n, .inr (va_up f i.toNatClampNeg (some v)))))) else none)
    | _, _ => none)
  | _ => none
/-- new cells -/
def ax_new (ci : Nat) (fs : List ax_V) (nx : Nat) : ax_O := fun L st h => some (.inl (nx, L, .inr (some h.1) :: st, ax_push h fs.length (.inr (ci, fs))))
def ax_newa (ty nx : Nat) : ax_O := fun L st h => match st with
  | .inl n :: t => (if ¬ n < 0 ∧ n.toNatClampNeg ≤ 20000 then some (.inl (nx, L, .inr (some h.1) :: t, ax_push h n.toNatClampNeg (.inl (ty, n.toNatClampNeg, .inl (fun _ => 0))))) else none)
  | _ => none
def ax_newq (ty nx : Nat) : ax_O := fun L st h => match st with
  | .inl n :: t => (if ¬ n < 0 ∧ n.toNatClampNeg ≤ 20000 then some (.inl (nx, L, .inr (some h.1) :: t, ax_push h n.toNatClampNeg (.inl (ty, n.toNatClampNeg, .inr (fun _ => none))))) else none)
  | _ => none
/-- Object.<init> -/
def ax_obj (nx : Nat) : ax_O := fun L st h => match st with
  | .inr (some _) :: t => (if t.length ≤ 8 then some (.inl (nx, L, t, h)) else none)
  | _ => none
/-- calls: of a static method with n arguments; of a constructor with a receiver and n arguments; of an instance method of class ci -/
def ax_callS (k n nx : Nat) : ax_O := fun L st _ => if n ≤ st.length ∧ st.length ≤ n + 8 then some (.inr (.inl (k, (st.take n).reverse, nx, L, st.drop n))) else none
def ax_callI (k n nx : Nat) : ax_O := fun L st _ => match st.drop n with
  | .inr (some o) :: t => (if n ≤ st.length ∧ t.length ≤ 8 then some (.inr (.inl (k, .inr (some o) :: (st.take n).reverse, nx, L, t))) else none)
  | _ => none
def ax_callV (ci k n nx : Nat) : ax_O := fun L st h => match st.drop n with
  | .inr (some o) :: t => (match h.2.2 o with
    | .inr (cj, _) => (if cj = ci ∧ 0 < o ∧ o < h.1 ∧ n ≤ st.length ∧ t.length ≤ 8 then some (.inr (.inl (k, .inr (some o) :: (st.take n).reverse, nx, L, t))) else none)
    | .inl _ => none)
  | _ => none
/-- returns: 0 an int, 1 a boolean, 2 a char, 3 a reference -/
def ax_ret (ty : Nat) : ax_O := fun _ st _ => match st with
  | [v] => (if ax_fit ty v = true then some (.inr (.inr (some v))) else none)
  | _ => none
def ax_retv : ax_O := fun _ st _ => match st with
  | [] => some (.inr (.inr none))
  | _ => none
def ax_no : ax_O := fun _ _ _ => none
/-- locals at a method's entry -/
def ax_ent (n : Nat) (as : List ax_V) : ax_L := as.map some ++ List.replicate (n - as.length) none
/-- running: fuel, depth, method, place -/
def ax_run (P : Nat → Nat → ax_O) (E : Nat → Nat) : Nat → Nat → Nat → Nat → ax_L → List ax_V → ax_H → Option (Option ax_V × ax_H)
  | 0, _, _, _, _, _, _ => none
  | n + 1, d, j, i, L, st, h => match P j i L st h with
    | none => none
    | some (.inl (i', L', st', h')) => ax_run P E n d j i' L' st' h'
    | some (.inr (.inl (k, as, i', L', st'))) => (match d with
      | 0 => none
      | d' + 1 => (match ax_run P E n d' k 0 (ax_ent (E k) as) [] h with
        | none => none
        | some (r, h') => ax_run P E n (d' + 1) j i' L' (r.toList ++ st') h'))
    | some (.inr (.inr r)) => some (r, h)
theorem ax_run_mono (P : Nat → Nat → ax_O) (E : Nat → Nat) : ∀ (n d j i : Nat) (L : ax_L) (st : List ax_V) (h : ax_H) (x : Option ax_V × ax_H), ax_run P E n d j i L st h = some x → ax_run P E (n + 1) d j i L st h = some x := by
  intro n
  induction n with
  | zero => intro d j i L st h x hx; simp [ax_run] at hx
  | succ n ih =>
    intro d j i L st h x hx
    rw [ax_run] at hx ⊢
    revert hx
    cases P j i L st h with
    | none => exact fun h => h
    | some o =>
      rcases o with ⟨i', L', st', h'⟩ | ⟨k, as, i', L', st'⟩ | r
      · exact fun hx => ih _ _ _ _ _ _ _ hx
      · cases d with
        | zero => exact fun h => h
        | succ d' =>
          intro hx
          dsimp only at hx ⊢
          cases hc : ax_run P E n d' k 0 (ax_ent (E k) as) [] h with
          | none => rw [hc] at hx; cases hx
          | some y =>
            rw [hc] at hx
            rw [ih _ _ _ _ _ _ _ hc]
            exact ih _ _ _ _ _ _ _ hx
      · exact fun h => h
theorem ax_run_le (P : Nat → Nat → ax_O) (E : Nat → Nat) {n n' d j i : Nat} {L : ax_L} {st : List ax_V} {h : ax_H} {x : Option ax_V × ax_H} (hn : n ≤ n') (hx : ax_run P E n d j i L st h = some x) : ax_run P E n' d j i L st h = some x := by
  induction hn with
  | refl => exact hx
  | step _ ih => exact ax_run_mono P E _ _ _ _ _ _ _ _ ih
theorem ax_run_deep (P : Nat → Nat → ax_O) (E : Nat → Nat) : ∀ (n d j i : Nat) (L : ax_L) (st : List ax_V) (h : ax_H) (x : Option ax_V × ax_H), ax_run P E n d j i L st h = some x → ax_run P E n (d + 1) j i L st h = some x := by
  intro n
  induction n with
  | zero => intro d j i L st h x hx; simp [ax_run] at hx
  | succ n ih =>
    intro d j i L st h x hx
    rw [ax_run] at hx ⊢
    revert hx
    cases P j i L st h with
    | none => exact fun h => h
    | some o =>
      rcases o with ⟨i', L', st', h'⟩ | ⟨k, as, i', L', st'⟩ | r
      · exact fun hx => ih _ _ _ _ _ _ _ hx
      · cases d with
        | zero => intro hx; cases hx
        | succ d' =>
          intro hx
          dsimp only at hx ⊢
          cases hc : ax_run P E n d' k 0 (ax_ent (E k) as) [] h with
          | none => rw [hc] at hx; cases hx
          | some y =>
            rw [hc] at hx
            rw [ih _ _ _ _ _ _ _ hc]
            exact ih _ _ _ _ _ _ _ hx
      · exact fun h => h
/-- some number of steps is enough -/
def ax_Ev (P : Nat → Nat → ax_O) (E : Nat → Nat) (d j i : Nat) (L : ax_L) (st : List ax_V) (h : ax_H) (r : Option ax_V) (h' : ax_H) : Prop := ∃ n, ax_run P E n d j i L st h = some (r, h')
section AXE
variable {P : Nat → Nat → ax_O} {E : Nat → Nat} {d j i : Nat} {L : ax_L} {st : List ax_V} {h : ax_H} {r : Option ax_V} {h' : ax_H}
theorem ax_st {i1 : Nat} {L1 : ax_L} {st1 : List ax_V} {h1 : ax_H} (hs : P j i L st h = some (.inl (i1, L1, st1, h1))) (k : ax_Ev P E d j i1 L1 st1 h1 r h') : ax_Ev P E d j i L st h r h' := by
  obtain ⟨n, hn⟩ := k
  refine ⟨n + 1, ?_⟩
  rw [ax_run, hs]
  exact hn
theorem ax_cl {f : Nat} {as : List ax_V} {i1 : Nat} {L1 : ax_L} {st1 : List ax_V} (hs : P j i L st h = some (.inr (.inl (f, as, i1, L1, st1)))) {r1 : Option ax_V} {h1 : ax_H} (kc : ax_Ev P E d f 0 (ax_ent (E f) as) [] h r1 h1) (k : ax_Ev P E (d + 1) j i1 L1 (r1.toList ++ st1) h1 r h') : ax_Ev P E (d + 1) j i L st h r h' := by
  obtain ⟨n, hn⟩ := k
  obtain ⟨n2, hn2⟩ := kc
  refine ⟨max n n2 + 1, ?_⟩
  rw [ax_run, hs]
  dsimp only
  rw [ax_run_le P E (Nat.le_max_right n n2) hn2]
  exact ax_run_le P E (Nat.le_max_left n n2) hn
theorem ax_rt (hs : P j i L st h = some (.inr (.inr r))) : ax_Ev P E d j i L st h r h := ⟨1, by rw [ax_run, hs]⟩
theorem ax_dp (k : ax_Ev P E d j i L st h r h') : ax_Ev P E (d + 1) j i L st h r h' := by
  obtain ⟨n, hn⟩ := k
  exact ⟨n, ax_run_deep P E _ _ _ _ _ _ _ _ hn⟩
theorem ax_dle {d2 : Nat} (hd : d ≤ d2) (k : ax_Ev P E d j i L st h r h') : ax_Ev P E d2 j i L st h r h' := by
  induction hd with
  | refl => exact k
  | step _ ih => exact ax_dp ih
/-- a branch -/
theorem ax_br {c : Bool} {a b : Nat} (ht : c = true → ax_Ev P E d j a L st h r h') (hf : c = false → ax_Ev P E d j b L st h r h') : ax_Ev P E d j (bif c then a else b) L st h r h' := by
  cases c with
  | true => exact ht rfl
  | false => exact hf rfl
end AXE
end
section
/-! The methods by number: name, code, locals, what they return; the places of their instructions; their steps. Printed by wip/whole/gen/emit_meth.py -/
def ax_p0 : List ax_O := [ax_aload 0 1, ax_obj 2, ax_aload 0 3, ax_const 0 4, ax_put 0 0 0 5, ax_aload 0 6, ax_const 0 7, ax_put 0 1 0 8, ax_retv]
def ax_p1 : List ax_O := [ax_aload 0 1, ax_const 0 2, ax_put 0 0 0 3, ax_aload 0 4, ax_const 0 5, ax_put 0 1 0 6, ax_const 0 7, ax_istore 2 8, ax_iload 2 9, ax_aload 1 10, ax_callV 5 38 0 11, ax_icmp (fun x y => decide (y ≤ x)) 27 12, ax_aload 0 13, ax_aload 0 14, ax_aload 1 15, ax_iload 2 16, ax_callV 5 39 1 17, ax_callV 0 2 1 18, ax_put 0 0 0 19, ax_aload 0 20, ax_get 0 0 21, ax_const 7 22, ax_icmp (fun x y => decide (¬ x = y)) 25 23, ax_iload 2 24, ax_ret 0, ax_iinc 2 1 26, ax_goto 8, ax_aload 0 28, ax_get 0 0 29, ax_const 6 30, ax_icmp (fun x y => decide (¬ x = y)) 36 31, ax_aload 0 32, ax_get 0 1 33, ax_if (fun x => decide (¬ x = 0)) 36 34, ax_const (-1) 35, ax_goto 38, ax_aload 1 37, ax_callV 5 38 0 38, ax_ret 0]
def ax_p2 : List ax_O := [ax_aload 0 1, ax_get 0 0 2, ax_sw [(0, 3), (1, 7), (2, 14), (3, 21), (4, 25), (5, 32)] 39, ax_aload 0 4, ax_iload 1 5, ax_callV 0 3 1 6, ax_ret 0, ax_iload 1 8, ax_callS 74 1 9, ax_if (fun x => decide (x = 0)) 12 10, ax_const 5 11, ax_goto 13, ax_const 7 13, ax_ret 0, ax_iload 1 15, ax_callS 72 1 16, ax_if (fun x => decide (x = 0)) 19 17, ax_const 3 18, ax_goto 20, ax_const 7 20, ax_ret 0, ax_aload 0 22, ax_iload 1 23, ax_callV 0 4 1 24, ax_ret 0, ax_iload 1 26, ax_callS 73 1 27, ax_if (fun x => decide (x = 0)) 30 28, ax_const 5 29, ax_goto 31, ax_const 7 31, ax_ret 0, ax_iload 1 33, ax_const 46 34, ax_icmp (fun x y => decide (¬ x = y)) 37 35, ax_const 0 36, ax_goto 38, ax_const 7 38, ax_ret 0, ax_aload 0 40, ax_iload 1 41, ax_callV 0 5 1 42, ax_ret 0]
def ax_p3 : List ax_O := [ax_iload 1 1, ax_const 101 2, ax_icmp (fun x y => decide (x = y)) 6 3, ax_iload 1 4, ax_callS 74 1 5, ax_if (fun x => decide (x = 0)) 8 6, ax_const 6 7, ax_ret 0, ax_iload 1 9, ax_const 109 10, ax_icmp (fun x y => decide (¬ x = y)) 13 11, ax_const 1 12, ax_ret 0, ax_iload 1 14, ax_callS 72 1 15, ax_if (fun x => decide (x = 0)) 18 16, ax_const 2 17, ax_goto 19, ax_const 7 19, ax_ret 0]
def ax_p4 : List ax_O := [ax_iload 1 1, ax_const 123 2, ax_icmp (fun x y => decide (x = y)) 5 3, ax_const 7 4, ax_ret 0, ax_aload 0 6, ax_dup 7, ax_get 0 1 8, ax_const 1 9, ax_bin (fun x y => x + y) 10, ax_put 0 1 0 11, ax_const 4 12, ax_ret 0]
def ax_p5 : List ax_O := [ax_aload 0 1, ax_get 0 1 2, ax_if (fun x => decide (¬ x = 0)) 5 3, ax_const 7 4, ax_ret 0, ax_iload 1 6, ax_const 44 7, ax_icmp (fun x y => decide (¬ x = y)) 10 8, ax_const 4 9, ax_ret 0, ax_iload 1 11, ax_const 125 12, ax_icmp (fun x y => decide (x = y)) 15 13, ax_const 7 14, ax_ret 0, ax_aload 0 16, ax_dup 17, ax_get 0 1 18, ax_const 1 19, ax_bin (fun x y => x - y) 20, ax_put 0 1 0 21, ax_const 6 22, ax_ret 0]
def ax_p6 : List ax_O := [ax_aload 0 1, ax_obj 2, ax_aload 0 3, ax_const 0 4, ax_put 1 3 0 5, ax_aload 0 6, ax_aload 1 7, ax_put 1 0 3 8, ax_aload 0 9, ax_iload 2 10, ax_put 1 1 2 11, ax_aload 0 12, ax_aload 3 13, ax_put 1 2 3 14, ax_retv]
def ax_p7 : List ax_O := [ax_aload 0 1, ax_const 0 2, ax_put 1 3 0 3, ax_aload 0 4, ax_get 1 2 5, ax_const 0 6, ax_callV 5 42 1 7, ax_aload 0 8, ax_const 0 9, ax_callV 1 8 1 10, ax_ret 1]
def ax_p8 : List ax_O := [ax_iload 1 1, ax_const 40 2, ax_icmp (fun x y => decide (x ≤ y)) 5 3, ax_const 0 4, ax_ret 1, ax_aload 0 6, ax_get 1 0 7, ax_aload 0 8, ax_get 1 3 9, ax_callV 5 39 1 10, ax_istore 2 11, ax_iload 2 12, ax_const 109 13, ax_icmp (fun x y => decide (¬ x = y)) 18 14, ax_aload 0 15, ax_iload 1 16, ax_callV 1 9 1 17, ax_ret 1, ax_iload 2 19, ax_callS 72 1 20, ax_if (fun x => decide (x = 0)) 25 21, ax_aload 0 22, ax_iload 1 23, ax_callV 1 11 1 24, ax_ret 1, ax_aload 0 26, ax_dup 27, ax_get 1 3 28, ax_const 1 29, ax_bin (fun x y => x + y) 30, ax_put 1 3 0 31, ax_aload 0 32, ax_get 1 2 33, ax_iload 2 34, ax_callV 5 40 1 35, ax_ret 1]
def ax_p9 : List ax_O := [ax_aload 0 1, ax_get 1 0 2, ax_aload 0 3, ax_get 1 3 4, ax_const 1 5, ax_bin (fun x y => x + y) 6, ax_callV 5 39 1 7, ax_istore 2 8, ax_aload 0 9, ax_get 1 2 10, ax_callV 5 38 0 11, ax_istore 3 12, ax_aload 0 13, ax_dup 14, ax_get 1 3 15, ax_const 3 16, ax_bin (fun x y => x + y) 17, ax_put 1 3 0 18, ax_aload 0 19, ax_iload 1 20, ax_const 1 21, ax_bin (fun x y => x + y) 22, ax_callV 1 8 1 23, ax_if (fun x => decide (x = 0)) 31 24, ax_aload 0 25, ax_iload 3 26, ax_iload 2 27, ax_callV 1 10 2 28, ax_if (fun x => decide (x = 0)) 31 29, ax_const 1 30, ax_goto 32, ax_const 0 32, ax_ret 1]
def ax_p10 : List ax_O := [ax_aload 0 1, ax_get 1 2 2, ax_callV 5 38 0 3, ax_iload 1 4, ax_const 1 5, ax_bin (fun x y => x + y) 6, ax_icmp (fun x y => decide (¬ x = y)) 22 7, ax_aload 0 8, ax_get 1 2 9, ax_iload 1 10, ax_callV 5 39 1 11, ax_iload 2 12, ax_icmp (fun x y => decide (¬ x = y)) 22 13, ax_aload 0 14, ax_get 1 2 15, ax_iload 1 16, ax_callV 5 42 1 17, ax_aload 0 18, ax_get 1 2 19, ax_const 101 20, ax_callV 5 40 1 21, ax_ret 1, ax_aload 0 23, ax_get 1 2 24, ax_iload 1 25, ax_iload 2 26, ax_callV 5 44 2 27, ax_if (fun x => decide (¬ x = 0)) 30 28, ax_const 1 29, ax_ret 1, ax_aload 0 31, ax_get 1 2 32, ax_iload 1 33, ax_const 46 34, ax_callV 5 41 2 35, ax_if (fun x => decide (x = 0)) 50 36, ax_aload 0 37, ax_get 1 2 38, ax_iload 1 39, ax_iload 2 40, ax_callV 5 41 2 41, ax_if (fun x => decide (x = 0)) 50 42, ax_aload 0 43, ax_get 1 2 44, ax_iload 1 45, ax_const 109 46, ax_callV 5 41 2 47, ax_if (fun x => decide (x = 0)) 50 48, ax_const 1 49, ax_goto 51, ax_const 0 51, ax_ret 1]
def ax_p11 : List ax_O := [ax_aload 0 1, ax_get 1 0 2, ax_aload 0 3, ax_get 1 3 4, ax_callV 5 39 1 5, ax_istore 2 6, ax_aload 0 7, ax_get 1 0 8, ax_aload 0 9, ax_get 1 3 10, ax_const 1 11, ax_bin (fun x y => x + y) 12, ax_callV 5 39 1 13, ax_istore 3 14, ax_aload 0 15, ax_dup 16, ax_get 1 3 17, ax_const 2 18, ax_bin (fun x y => x + y) 19, ax_put 1 3 0 20, ax_aload 0 21, ax_get 1 1 22, ax_iload 2 23, ax_icmp (fun x y => decide (¬ x = y)) 42 24, ax_aload 0 25, ax_get 1 2 26, ax_iload 3 27, ax_callV 5 40 1 28, ax_if (fun x => decide (x = 0)) 40 29, ax_aload 0 30, ax_get 1 2 31, ax_const 33 32, ax_callV 5 40 1 33, ax_if (fun x => decide (x = 0)) 40 34, ax_aload 0 35, ax_iload 1 36, ax_callV 1 12 1 37, ax_if (fun x => decide (x = 0)) 40 38, ax_const 1 39, ax_goto 41, ax_const 0 41, ax_ret 1, ax_aload 0 43, ax_get 1 1 44, ax_iload 3 45, ax_icmp (fun x y => decide (¬ x = y)) 64 46, ax_aload 0 47, ax_get 1 2 48, ax_iload 2 49, ax_callV 5 40 1 50, ax_if (fun x => decide (x = 0)) 62 51, ax_aload 0 52, ax_get 1 2 53, ax_const 63 54, ax_callV 5 40 1 55, ax_if (fun x => decide (x = 0)) 62 56, ax_aload 0 57, ax_iload 1 58, ax_callV 1 12 1 59, ax_if (fun x => decide (x = 0)) 62 60, ax_const 1 61, ax_goto 63, ax_const 0 63, ax_ret 1, ax_aload 0 65, ax_iload 1 66, ax_callV 1 13 1 67, ax_ret 1]
def ax_p12 : List ax_O := [ax_const 0 1, ax_istore 2 2, ax_iload 2 3, ax_const 60 4, ax_icmp (fun x y => decide (y ≤ x)) 46 5, ax_aload 0 6, ax_get 1 0 7, ax_aload 0 8, ax_get 1 3 9, ax_callV 5 39 1 10, ax_const 125 11, ax_icmp (fun x y => decide (x = y)) 46 12, ax_const 0 13, ax_istore 3 14, ax_iload 3 15, ax_const 3 16, ax_icmp (fun x y => decide (y ≤ x)) 30 17, ax_aload 0 18, ax_get 1 2 19, ax_aload 0 20, ax_get 1 0 21, ax_aload 0 22, ax_get 1 3 23, ax_iload 3 24, ax_bin (fun x y => x + y) 25, ax_callV 5 39 1 26, ax_callV 5 40 1 27, ax_pop 28, ax_iinc 3 1 29, ax_goto 14, ax_aload 0 31, ax_dup 32, ax_get 1 3 33, ax_const 3 34, ax_bin (fun x y => x + y) 35, ax_put 1 3 0 36, ax_aload 0 37, ax_iload 1 38, ax_const 1 39, ax_bin (fun x y => x + y) 40, ax_callV 1 8 1 41, ax_if (fun x => decide (¬ x = 0)) 44 42, ax_const 0 43, ax_ret 1, ax_iinc 2 1 45, ax_goto 2, ax_aload 0 47, ax_dup 48, ax_get 1 3 49, ax_const 1 50, ax_bin (fun x y => x + y) 51, ax_put 1 3 0 52, ax_aload 0 53, ax_get 1 2 54, ax_const 125 55, ax_callV 5 40 1 56, ax_ret 1]
def ax_p13 : List ax_O := [ax_aload 0 1, ax_get 1 2 2, ax_callV 5 38 0 3, ax_istore 2 4, ax_iload 2 5, ax_istore 3 6, ax_const 0 7, ax_istore 4 8, ax_iload 4 9, ax_const 60 10, ax_icmp (fun x y => decide (y ≤ x)) 53 11, ax_aload 0 12, ax_get 1 0 13, ax_aload 0 14, ax_get 1 3 15, ax_callV 5 39 1 16, ax_const 125 17, ax_icmp (fun x y => decide (x = y)) 53 18, ax_aload 0 19, ax_dup 20, ax_get 1 3 21, ax_const 3 22, ax_bin (fun x y => x + y) 23, ax_put 1 3 0 24, ax_aload 0 25, ax_iload 1 26, ax_const 1 27, ax_bin (fun x y => x + y) 28, ax_callV 1 8 1 29, ax_if (fun x => decide (¬ x = 0)) 32 30, ax_const 0 31, ax_ret 1, ax_iload 4 33, ax_if (fun x => decide (¬ x = 0)) 39 34, ax_aload 0 35, ax_get 1 2 36, ax_callV 5 38 0 37, ax_istore 3 38, ax_goto 47, ax_aload 0 40, ax_get 1 2 41, ax_iload 2 42, ax_iload 3 43, ax_callV 5 45 2 44, ax_if (fun x => decide (¬ x = 0)) 47 45, ax_const 0 46, ax_ret 1, ax_aload 0 48, ax_get 1 2 49, ax_iload 3 50, ax_callV 5 42 1 51, ax_iinc 4 1 52, ax_goto 8, ax_aload 0 54, ax_dup 55, ax_get 1 3 56, ax_const 1 57, ax_bin (fun x y => x + y) 58, ax_put 1 3 0 59, ax_const 1 60, ax_ret 1]
def ax_p14 : List ax_O := [ax_aload 0 1, ax_obj 2, ax_aload 0 3, ax_const 0 4, ax_put 2 1 1 5, ax_aload 0 6, ax_const 0 7, ax_put 2 2 0 8, ax_aload 0 9, ax_aload 1 10, ax_put 2 0 3 11, ax_retv]
def ax_p15 : List ax_O := [ax_aload 0 1, ax_const 0 2, ax_put 2 2 0 3, ax_aload 0 4, ax_callV 2 20 0 5, ax_retv]
def ax_p16 : List ax_O := [ax_aload 0 1, ax_get 2 0 2, ax_aload 0 3, ax_get 2 2 4, ax_callV 5 39 1 5, ax_callS 72 1 6, ax_if (fun x => decide (¬ x = 0)) 9 7, ax_const 0 8, ax_ret 0, ax_aload 0 10, ax_get 2 0 11, ax_aload 0 12, ax_get 2 2 13, ax_const 1 14, ax_bin (fun x y => x + y) 15, ax_callV 5 39 1 16, ax_const 33 17, ax_icmp (fun x y => decide (¬ x = y)) 20 18, ax_const 1 19, ax_goto 21, ax_const 2 21, ax_ret 0]
def ax_p17 : List ax_O := [ax_aload 0 1, ax_get 2 0 2, ax_aload 0 3, ax_get 2 2 4, ax_callV 5 39 1 5, ax_istore 1 6, ax_iload 1 7, ax_callS 72 1 8, ax_if (fun x => decide (x = 0)) 13 9, ax_iload 1 10, ax_const 65 11, ax_bin (fun x y => x - y) 12, ax_goto 14, ax_const (-1) 14, ax_ret 0]
def ax_p18 : List ax_O := [ax_iload 1 1, ax_if (fun x => decide (x < 0)) 8 2, ax_iload 1 3, ax_const 6 4, ax_icmp (fun x y => decide (y ≤ x)) 8 5, ax_aload 0 6, ax_callV 2 16 0 7, ax_if (fun x => decide (¬ x = 0)) 10 8, ax_const (-1) 9, ax_ret 0, ax_const 0 11, ax_istore 2 12, ax_aload 0 13, ax_get 2 2 14, ax_const 2 15, ax_bin (fun x y => x + y) 16, ax_istore 3 17, ax_iload 3 18, ax_aload 0 19, ax_get 2 0 20, ax_callV 5 38 0 21, ax_icmp (fun x y => decide (y ≤ x)) 64 22, ax_aload 0 23, ax_get 2 0 24, ax_iload 3 25, ax_callV 5 39 1 26, ax_istore 4 27, ax_iload 4 28, ax_const 123 29, ax_icmp (fun x y => decide (¬ x = y)) 31 30, ax_iinc 2 1 31, ax_iload 2 32, ax_const 1 33, ax_icmp (fun x y => decide (¬ x = y)) 54 34, ax_iload 4 35, ax_const 123 36, ax_icmp (fun x y => decide (x = y)) 40 37, ax_iload 4 38, ax_const 44 39, ax_icmp (fun x y => decide (¬ x = y)) 54 40, ax_aload 0 41, ax_get 2 0 42, ax_iload 3 43, ax_const 1 44, ax_bin (fun x y => x + y) 45, ax_callV 5 39 1 46, ax_const 112 47, ax_iload 1 48, ax_bin (fun x y => x + y) 49, ax_icmp (fun x y => decide (¬ x = y)) 54 50, ax_iload 3 51, ax_const 3 52, ax_bin (fun x y => x + y) 53, ax_ret 0, ax_iload 4 55, ax_const 125 56, ax_icmp (fun x y => decide (¬ x = y)) 58 57, ax_iinc 2 (-1) 58, ax_iload 2 59, ax_if (fun x => decide (¬ x = 0)) 62 60, ax_const (-1) 61, ax_ret 0, ax_iinc 3 1 63, ax_goto 17, ax_const (-1) 65, ax_ret 0]
def ax_p19 : List ax_O := [ax_aload 0 1, ax_iload 1 2, ax_callV 2 18 1 3, ax_istore 2 4, ax_iload 2 5, ax_const (-1) 6, ax_icmp (fun x y => decide (¬ x = y)) 9 7, ax_const 0 8, ax_ret 1, ax_aload 0 10, ax_iload 2 11, ax_put 2 2 0 12, ax_aload 0 13, ax_callV 2 20 0 14, ax_const 1 15, ax_ret 1]
def ax_p20 : List ax_O := [ax_const 0 1, ax_istore 1 2, ax_iload 1 3, ax_const 60 4, ax_icmp (fun x y => decide (y ≤ x)) 33 5, ax_aload 0 6, ax_get 2 0 7, ax_aload 0 8, ax_get 2 2 9, ax_callV 5 39 1 10, ax_istore 2 11, ax_iload 2 12, ax_const 109 13, ax_icmp (fun x y => decide (¬ x = y)) 21 14, ax_aload 0 15, ax_dup 16, ax_get 2 2 17, ax_const 3 18, ax_bin (fun x y => x + y) 19, ax_put 2 2 0 20, ax_goto 31, ax_iload 2 22, ax_callS 74 1 23, ax_if (fun x => decide (x = 0)) 30 24, ax_aload 0 25, ax_aload 0 26, ax_iload 2 27, ax_callV 2 21 1 28, ax_put 2 2 0 29, ax_goto 31, ax_retv, ax_iinc 1 1 32, ax_goto 2, ax_retv]
def ax_p21 : List ax_O := [ax_aload 0 1, ax_get 2 2 2, ax_const 1 3, ax_bin (fun x y => x - y) 4, ax_istore 2 5, ax_iload 2 6, ax_if (fun x => decide (x < 0)) 27 7, ax_aload 0 8, ax_get 2 0 9, ax_iload 2 10, ax_callV 5 39 1 11, ax_const 109 12, ax_icmp (fun x y => decide (¬ x = y)) 25 13, ax_aload 0 14, ax_get 2 0 15, ax_iload 2 16, ax_const 1 17, ax_bin (fun x y => x + y) 18, ax_callV 5 39 1 19, ax_iload 1 20, ax_icmp (fun x y => decide (¬ x = y)) 25 21, ax_iload 2 22, ax_const 3 23, ax_bin (fun x y => x + y) 24, ax_ret 0, ax_iinc 2 (-1) 26, ax_goto 5, ax_aload 0 28, ax_get 2 2 29, ax_ret 0]
def ax_p22 : List ax_O := [ax_aload 0 1, ax_obj 2, ax_aload 0 3, ax_const 3 4, ax_newa 0 5, ax_put 3 0 3 6, ax_aload 0 7, ax_const 0 8, ax_put 3 1 0 9, ax_retv]
def ax_p23 : List ax_O := [ax_aload 0 1, ax_get 3 1 2, ax_ret 0]
def ax_p24 : List ax_O := [ax_aload 0 1, ax_get 3 1 2, ax_const 3 3, ax_icmp (fun x y => decide (x < y)) 6 4, ax_const 1 5, ax_goto 7, ax_const 0 7, ax_ret 1]
def ax_p25 : List ax_O := [ax_iload 1 1, ax_if (fun x => decide (x < 0)) 11 2, ax_iload 1 3, ax_aload 0 4, ax_get 3 1 5, ax_icmp (fun x y => decide (y ≤ x)) 11 6, ax_aload 0 7, ax_get 3 0 8, ax_iload 1 9, ax_ald 0 10, ax_goto 12, ax_const (-1) 12, ax_ret 0]
def ax_p26 : List ax_O := [ax_aload 0 1, ax_const 0 2, ax_put 3 1 0 3, ax_retv]
def ax_p27 : List ax_O := [ax_aload 0 1, ax_get 3 1 2, ax_const 3 3, ax_icmp (fun x y => decide (y ≤ x)) 16 4, ax_aload 0 5, ax_get 3 0 6, ax_aload 0 7, ax_get 3 1 8, ax_iload 1 9, ax_ast 0 10, ax_aload 0 11, ax_dup 12, ax_get 3 1 13, ax_const 1 14, ax_bin (fun x y => x + y) 15, ax_put 3 1 0 16, ax_retv]
def ax_p28 : List ax_O := [ax_const 1 1, ax_istore 1 2, ax_iload 1 3, ax_aload 0 4, ax_get 3 1 5, ax_icmp (fun x y => decide (y ≤ x)) 18 6, ax_aload 0 7, ax_get 3 0 8, ax_iload 1 9, ax_const 1 10, ax_bin (fun x y => x - y) 11, ax_aload 0 12, ax_get 3 0 13, ax_iload 1 14, ax_ald 0 15, ax_ast 0 16, ax_iinc 1 1 17, ax_goto 2, ax_aload 0 19, ax_get 3 1 20, ax_if (fun x => decide (x ≤ 0)) 27 21, ax_aload 0 22, ax_dup 23, ax_get 3 1 24, ax_const 1 25, ax_bin (fun x y => x - y) 26, ax_put 3 1 0 27, ax_retv]
def ax_p29 : List ax_O := [ax_aload 0 1, ax_obj 2, ax_aload 0 3, ax_const 60 4, ax_newa 0 5, ax_put 4 0 3 6, ax_aload 0 7, ax_const 60 8, ax_newa 0 9, ax_put 4 1 3 10, ax_aload 0 11, ax_const 0 12, ax_put 4 2 0 13, ax_aload 0 14, ax_const 0 15, ax_put 4 3 0 16, ax_retv]
def ax_p30 : List ax_O := [ax_aload 0 1, ax_const 0 2, ax_put 4 2 0 3, ax_aload 0 4, ax_const 0 5, ax_put 4 3 0 6, ax_aload 0 7, ax_get 4 0 8, ax_const 0 9, ax_const 0 10, ax_ast 0 11, ax_const 0 12, ax_istore 2 13, ax_iload 2 14, ax_aload 1 15, ax_callV 5 38 0 16, ax_icmp (fun x y => decide (y ≤ x)) 26 17, ax_aload 0 18, ax_aload 1 19, ax_iload 2 20, ax_callV 4 31 2 21, ax_if (fun x => decide (¬ x = 0)) 24 22, ax_const 0 23, ax_ret 1, ax_iinc 2 1 25, ax_goto 13, ax_const 1 27, ax_ret 1]
def ax_p31 : List ax_O := [ax_aload 1 1, ax_iload 2 2, ax_callV 5 39 1 3, ax_istore 3 4, ax_iload 3 5, ax_sw [(44, 40), (109, 6), (123, 14), (125, 48)] 57, ax_aload 0 7, ax_aload 1 8, ax_iload 2 9, ax_const 1 10, ax_bin (fun x y => x + y) 11, ax_callV 5 39 1 12, ax_callV 4 32 1 13, ax_ret 1, ax_aload 1 15, ax_iload 2 16, ax_const 2 17, ax_bin (fun x y => x - y) 18, ax_callV 5 39 1 19, ax_aload 1 20, ax_iload 2 21, ax_const 1 22, ax_bin (fun x y => x - y) 23, ax_callV 5 39 1 24, ax_icmp (fun x y => decide (x = y)) 38 25, ax_aload 0 26, ax_callV 4 33 0 27, ax_if (fun x => decide (x = 0)) 38 28, ax_aload 0 29, ax_aload 1 30, ax_iload 2 31, ax_const 1 32, ax_bin (fun x y => x + y) 33, ax_callV 5 39 1 34, ax_callV 4 34 1 35, ax_if (fun x => decide (x = 0)) 38 36, ax_const 1 37, ax_goto 39, ax_const 0 39, ax_ret 1, ax_aload 0 41, ax_aload 1 42, ax_iload 2 43, ax_const 1 44, ax_bin (fun x y => x + y) 45, ax_callV 5 39 1 46, ax_callV 4 34 1 47, ax_ret 1, ax_aload 0 49, ax_dup 50, ax_get 4 2 51, ax_const 1 52, ax_bin (fun x y => x - y) 53, ax_put 4 2 0 54, ax_aload 0 55, ax_callV 4 36 0 56, ax_ret 1, ax_iload 3 58, ax_callS 74 1 59, ax_if (fun x => decide (x = 0)) 69 60, ax_aload 1 61, ax_iload 2 62, ax_const 1 63, ax_bin (fun x y => x - y) 64, ax_callV 5 39 1 65, ax_const 109 66, ax_icmp (fun x y => decide (x = y)) 69 67, ax_const 1 68, ax_goto 70, ax_const 0 70, ax_istore 4 71, ax_iload 4 72, ax_if (fun x => decide (x = 0)) 77 73, ax_aload 0 74, ax_iload 3 75, ax_callV 4 35 1 76, ax_if (fun x => decide (x = 0)) 79 77, ax_const 1 78, ax_goto 80, ax_const 0 80, ax_ret 1]
def ax_p32 : List ax_O := [ax_const 1 1, ax_iload 1 2, ax_const 88 3, ax_bin (fun x y => x - y) 4, ax_bin (fun x y => x <<< (y &&& 31)) 5, ax_istore 2 6, ax_aload 0 7, ax_get 4 3 8, ax_iload 2 9, ax_bin (fun x y => x &&& y) 10, ax_if (fun x => decide (x = 0)) 13 11, ax_const 0 12, ax_ret 1, ax_aload 0 14, ax_dup 15, ax_get 4 3 16, ax_iload 2 17, ax_bin (fun x y => x ||| y) 18, ax_put 4 3 0 19, ax_const 1 20, ax_ret 1]
def ax_p33 : List ax_O := [ax_aload 0 1, ax_dup 2, ax_get 4 2 3, ax_const 1 4, ax_bin (fun x y => x + y) 5, ax_put 4 2 0 6, ax_aload 0 7, ax_callV 4 36 0 8, ax_if (fun x => decide (¬ x = 0)) 11 9, ax_const 0 10, ax_ret 1, ax_aload 0 12, ax_get 4 0 13, ax_aload 0 14, ax_get 4 2 15, ax_aload 0 16, ax_get 4 3 17, ax_ast 0 18, ax_aload 0 19, ax_get 4 1 20, ax_aload 0 21, ax_get 4 2 22, ax_const 0 23, ax_ast 0 24, ax_const 1 25, ax_ret 1]
def ax_p34 : List ax_O := [ax_const 1 1, ax_iload 1 2, ax_const 112 3, ax_bin (fun x y => x - y) 4, ax_bin (fun x y => x <<< (y &&& 31)) 5, ax_istore 2 6, ax_aload 0 7, ax_callV 4 36 0 8, ax_if (fun x => decide (x = 0)) 17 9, ax_aload 0 10, ax_get 4 1 11, ax_aload 0 12, ax_get 4 2 13, ax_ald 0 14, ax_iload 2 15, ax_bin (fun x y => x &&& y) 16, ax_if (fun x => decide (x = 0)) 19 17, ax_const 0 18, ax_ret 1, ax_aload 0 20, ax_get 4 1 21, ax_aload 0 22, ax_get 4 2 23, ax_dup2 24, ax_ald 0 25, ax_iload 2 26, ax_bin (fun x y => x ||| y) 27, ax_ast 0 28, ax_aload 0 29, ax_aload 0 30, ax_get 4 0 31, ax_aload 0 32, ax_get 4 2 33, ax_ald 0 34, ax_put 4 3 0 35, ax_const 1 36, ax_ret 1]
def ax_p35 : List ax_O := [ax_const 1 1, ax_iload 1 2, ax_const 88 3, ax_bin (fun x y => x - y) 4, ax_bin (fun x y => x <<< (y &&& 31)) 5, ax_istore 2 6, ax_aload 0 7, ax_callV 4 36 0 8, ax_if (fun x => decide (x = 0)) 19 9, ax_aload 0 10, ax_get 4 0 11, ax_aload 0 12, ax_get 4 2 13, ax_ald 0 14, ax_iload 2 15, ax_bin (fun x y => x &&& y) 16, ax_if (fun x => decide (x = 0)) 19 17, ax_const 1 18, ax_goto 20, ax_const 0 20, ax_ret 1]
def ax_p36 : List ax_O := [ax_aload 0 1, ax_get 4 2 2, ax_if (fun x => decide (x < 0)) 9 3, ax_aload 0 4, ax_get 4 2 5, ax_const 60 6, ax_icmp (fun x y => decide (y ≤ x)) 9 7, ax_const 1 8, ax_goto 10, ax_const 0 10, ax_ret 1]
def ax_p37 : List ax_O := [ax_aload 0 1, ax_obj 2, ax_aload 0 3, ax_const 60 4, ax_newa 1 5, ax_put 5 0 3 6, ax_aload 0 7, ax_const 0 8, ax_put 5 1 0 9, ax_retv]
def ax_p38 : List ax_O := [ax_aload 0 1, ax_get 5 1 2, ax_ret 0]
def ax_p39 : List ax_O := [ax_iload 1 1, ax_if (fun x => decide (x < 0)) 11 2, ax_iload 1 3, ax_aload 0 4, ax_get 5 1 5, ax_icmp (fun x y => decide (y ≤ x)) 11 6, ax_aload 0 7, ax_get 5 0 8, ax_iload 1 9, ax_ald 1 10, ax_goto 12, ax_const 0 12, ax_ret 2]
def ax_p40 : List ax_O := [ax_aload 0 1, ax_aload 0 2, ax_get 5 1 3, ax_iload 1 4, ax_callV 5 41 2 5, ax_ret 1]
def ax_p41 : List ax_O := [ax_aload 0 1, ax_get 5 1 2, ax_const 60 3, ax_icmp (fun x y => decide (y ≤ x)) 10 4, ax_iload 1 5, ax_if (fun x => decide (x < 0)) 10 6, ax_iload 1 7, ax_aload 0 8, ax_get 5 1 9, ax_icmp (fun x y => decide (x ≤ y)) 12 10, ax_const 0 11, ax_ret 1, ax_aload 0 13, ax_get 5 1 14, ax_istore 3 15, ax_iload 3 16, ax_iload 1 17, ax_icmp (fun x y => decide (x ≤ y)) 30 18, ax_aload 0 19, ax_get 5 0 20, ax_iload 3 21, ax_aload 0 22, ax_get 5 0 23, ax_iload 3 24, ax_const 1 25, ax_bin (fun x y => x - y) 26, ax_ald 1 27, ax_ast 1 28, ax_iinc 3 (-1) 29, ax_goto 15, ax_aload 0 31, ax_get 5 0 32, ax_iload 1 33, ax_iload 2 34, ax_ast 1 35, ax_aload 0 36, ax_dup 37, ax_get 5 1 38, ax_const 1 39, ax_bin (fun x y => x + y) 40, ax_put 5 1 0 41, ax_const 1 42, ax_ret 1]
def ax_p42 : List ax_O := [ax_iload 1 1, ax_if (fun x => decide (x < 0)) 9 2, ax_iload 1 3, ax_aload 0 4, ax_get 5 1 5, ax_icmp (fun x y => decide (y ≤ x)) 9 6, ax_aload 0 7, ax_iload 1 8, ax_put 5 1 0 9, ax_retv]
def ax_p43 : List ax_O := [ax_const 0 1, ax_istore 2 2, ax_const 0 3, ax_istore 3 4, ax_iload 3 5, ax_aload 0 6, ax_get 5 1 7, ax_icmp (fun x y => decide (y ≤ x)) 16 8, ax_aload 0 9, ax_iload 3 10, ax_callV 5 39 1 11, ax_iload 1 12, ax_icmp (fun x y => decide (¬ x = y)) 14 13, ax_iinc 2 1 14, ax_iinc 3 1 15, ax_goto 4, ax_iload 2 17, ax_ret 0]
def ax_p44 : List ax_O := [ax_iload 1 1, ax_istore 3 2, ax_iload 3 3, ax_aload 0 4, ax_get 5 1 5, ax_icmp (fun x y => decide (y ≤ x)) 15 6, ax_aload 0 7, ax_iload 3 8, ax_callV 5 39 1 9, ax_iload 2 10, ax_icmp (fun x y => decide (¬ x = y)) 13 11, ax_const 1 12, ax_ret 1, ax_iinc 3 1 14, ax_goto 2, ax_const 0 16, ax_ret 1]
def ax_p45 : List ax_O := [ax_iload 2 1, ax_iload 1 2, ax_bin (fun x y => x - y) 3, ax_istore 3 4, ax_aload 0 5, ax_get 5 1 6, ax_iload 2 7, ax_bin (fun x y => x - y) 8, ax_iload 3 9, ax_icmp (fun x y => decide (x = y)) 12 10, ax_const 0 11, ax_ret 1, ax_const 0 13, ax_istore 4 14, ax_iload 4 15, ax_iload 3 16, ax_icmp (fun x y => decide (y ≤ x)) 32 17, ax_aload 0 18, ax_iload 1 19, ax_iload 4 20, ax_bin (fun x y => x + y) 21, ax_callV 5 39 1 22, ax_aload 0 23, ax_iload 2 24, ax_iload 4 25, ax_bin (fun x y => x + y) 26, ax_callV 5 39 1 27, ax_icmp (fun x y => decide (x = y)) 30 28, ax_const 0 29, ax_ret 1, ax_iinc 4 1 31, ax_goto 14, ax_const 1 33, ax_ret 1]
def ax_p46 : List ax_O := [ax_aload 0 1, ax_obj 2, ax_aload 0 3, ax_new 5 [.inr none, .inl 0] 4, ax_dup 5, ax_callI 37 0 6, ax_put 6 0 3 7, ax_aload 0 8, ax_new 0 [.inl 0, .inl 0] 9, ax_dup 10, ax_callI 0 0 11, ax_put 6 1 3 12, ax_aload 0 13, ax_new 4 [.inr none, .inr none, .inl 0, .inl 0] 14, ax_dup 15, ax_callI 29 0 16, ax_put 6 2 3 17, ax_aload 0 18, ax_const 4 19, ax_newq 2 20, ax_put 6 3 3 21, ax_aload 0 22, ax_const 4 23, ax_newq 3 24, ax_put 6 4 3 25, ax_aload 0 26, ax_const 16 27, ax_newq 4 28, ax_put 6 5 3 29, ax_aload 0 30, ax_const (-1) 31, ax_put 6 6 0 32, ax_aload 0 33, ax_const 0 34, ax_put 6 7 1 35, ax_aload 0 36, ax_const 0 37, ax_put 6 8 0 38, ax_const 0 39, ax_istore 1 40, ax_iload 1 41, ax_const 4 42, ax_icmp (fun x y => decide (y ≤ x)) 71 43, ax_new 5 [.inr none, .inl 0] 44, ax_dup 45, ax_callI 37 0 46, ax_astore 2 47, ax_aload 0 48, ax_get 6 3 49, ax_iload 1 50, ax_new 2 [.inr none, .inl 0, .inl 0] 51, ax_dup 52, ax_aload 2 53, ax_callI 14 1 54, ax_aast 55, ax_aload 0 56, ax_get 6 4 57, ax_iload 1 58, ax_new 1 [.inr none, .inl 0, .inr none, .inl 0] 59, ax_dup 60, ax_aload 0 61, ax_get 6 0 62, ax_const 65 63, ax_iload 1 64, ax_bin (fun x y => x + y) 65, ax_un (fun x => (x.toUInt32 % 65536).toInt32) 66, ax_aload 2 67, ax_callI 6 3 68, ax_aast 69, ax_iinc 1 1 70, ax_goto 40, ax_const 0 72, ax_istore 1 73, ax_iload 1 74, ax_const 16 75, ax_icmp (fun x y => decide (y ≤ x)) 85 76, ax_aload 0 77, ax_get 6 5 78, ax_iload 1 79, ax_new 3 [.inr none, .inl 0] 80, ax_dup 81, ax_callI 22 0 82, ax_aast 83, ax_iinc 1 1 84, ax_goto 73, ax_retv]
def ax_p47 : List ax_O := [ax_iload 1 1, ax_const 32 2, ax_icmp (fun x y => decide (x < y)) 13 3, ax_iload 1 4, ax_const 126 5, ax_icmp (fun x y => decide (y < x)) 13 6, ax_aload 0 7, ax_get 6 0 8, ax_iload 1 9, ax_callV 5 40 1 10, ax_if (fun x => decide (x = 0)) 13 11, ax_const 1 12, ax_goto 14, ax_const 0 14, ax_ret 1]
def ax_p48 : List ax_O := [ax_aload 0 1, ax_callV 6 63 0 2, ax_istore 1 3, ax_iload 1 4, ax_const (-1) 5, ax_icmp (fun x y => decide (¬ x = y)) 8 6, ax_aload 0 7, ax_callV 6 64 0 8, ax_aload 0 9, ax_get 6 0 10, ax_const 0 11, ax_callV 5 42 1 12, ax_iload 1 13, ax_ret 0]
def ax_p49 : List ax_O := [ax_aload 0 1, ax_get 6 6 2, ax_ret 0]
def ax_p50 : List ax_O := [ax_aload 0 1, ax_iload 1 2, ax_callV 6 65 1 3, ax_if (fun x => decide (x = 0)) 11 4, ax_aload 0 5, ax_get 6 3 6, ax_iload 1 7, ax_aald 8, ax_get 2 0 9, ax_callV 5 38 0 10, ax_goto 12, ax_const (-1) 12, ax_ret 0]
def ax_p51 : List ax_O := [ax_aload 0 1, ax_iload 1 2, ax_callV 6 65 1 3, ax_if (fun x => decide (x = 0)) 14 4, ax_iload 2 5, ax_if (fun x => decide (x < 0)) 14 6, ax_iload 2 7, ax_aload 0 8, ax_get 6 3 9, ax_iload 1 10, ax_aald 11, ax_get 2 0 12, ax_callV 5 38 0 13, ax_icmp (fun x y => decide (x < y)) 16 14, ax_const (-1) 15, ax_ret 0, ax_aload 0 17, ax_get 6 3 18, ax_iload 1 19, ax_aald 20, ax_get 2 0 21, ax_iload 2 22, ax_callV 5 39 1 23, ax_ret 0]
def ax_p52 : List ax_O := [ax_const 0 1, ax_istore 1 2, ax_iload 1 3, ax_const 4 4, ax_icmp (fun x y => decide (y ≤ x)) 13 5, ax_aload 0 6, ax_iload 1 7, ax_callV 6 65 1 8, ax_if (fun x => decide (¬ x = 0)) 11 9, ax_const 0 10, ax_ret 1, ax_iinc 1 1 12, ax_goto 2, ax_const 0 14, ax_istore 1 15, ax_iload 1 16, ax_const 4 17, ax_icmp (fun x y => decide (y ≤ x)) 25 18, ax_aload 0 19, ax_get 6 3 20, ax_iload 1 21, ax_aald 22, ax_callV 2 15 0 23, ax_iinc 1 1 24, ax_goto 15, ax_const 0 26, ax_istore 1 27, ax_iload 1 28, ax_const 16 29, ax_icmp (fun x y => decide (y ≤ x)) 37 30, ax_aload 0 31, ax_get 6 5 32, ax_iload 1 33, ax_aald 34, ax_callV 3 26 0 35, ax_iinc 1 1 36, ax_goto 27, ax_aload 0 38, ax_const 0 39, ax_put 6 8 0 40, ax_aload 0 41, ax_const 1 42, ax_put 6 7 1 43, ax_const 1 44, ax_ret 1]
def ax_p53 : List ax_O := [ax_aload 0 1, ax_iload 1 2, ax_callV 6 66 1 3, ax_astore 2 4, ax_aload 2 5, ax_ifnonnull 8 6, ax_const (-1) 7, ax_goto 10, ax_aload 2 9, ax_callV 2 16 0 10, ax_ret 0]
def ax_p54 : List ax_O := [ax_aload 0 1, ax_iload 1 2, ax_callV 6 66 1 3, ax_astore 2 4, ax_aload 2 5, ax_ifnonnull 8 6, ax_const (-1) 7, ax_goto 10, ax_aload 2 9, ax_callV 2 17 0 10, ax_ret 0]
def ax_p55 : List ax_O := [ax_aload 0 1, ax_iload 1 2, ax_callV 6 66 1 3, ax_astore 3 4, ax_aload 3 5, ax_ifnull 13 6, ax_aload 3 7, ax_iload 2 8, ax_callV 2 18 1 9, ax_const (-1) 10, ax_icmp (fun x y => decide (x = y)) 13 11, ax_const 1 12, ax_goto 14, ax_const 0 14, ax_ret 1]
def ax_p56 : List ax_O := [ax_aload 0 1, ax_iload 1 2, ax_callV 6 66 1 3, ax_astore 3 4, ax_aload 3 5, ax_ifnull 10 6, ax_aload 3 7, ax_callV 2 16 0 8, ax_const 1 9, ax_icmp (fun x y => decide (x = y)) 12 10, ax_const 0 11, ax_ret 1, ax_aload 0 13, ax_iload 1 14, ax_aload 3 15, ax_callV 2 17 0 16, ax_callV 6 67 2 17, ax_astore 4 18, ax_aload 4 19, ax_ifnull 27 20, ax_aload 4 21, ax_callV 3 24 0 22, ax_if (fun x => decide (¬ x = 0)) 27 23, ax_aload 3 24, ax_iload 2 25, ax_callV 2 19 1 26, ax_if (fun x => decide (¬ x = 0)) 29 27, ax_const 0 28, ax_ret 1, ax_aload 4 30, ax_iload 2 31, ax_callV 3 27 1 32, ax_aload 0 33, ax_dup 34, ax_get 6 8 35, ax_const 1 36, ax_bin (fun x y => x + y) 37, ax_put 6 8 0 38, ax_const 1 39, ax_ret 1]
def ax_p57 : List ax_O := [ax_aload 0 1, ax_iload 1 2, ax_callV 6 66 1 3, ax_astore 2 4, ax_aload 2 5, ax_ifnull 10 6, ax_aload 2 7, ax_callV 2 16 0 8, ax_const 2 9, ax_icmp (fun x y => decide (x = y)) 12 10, ax_const (-1) 11, ax_ret 0, ax_aload 0 13, ax_aload 2 14, ax_callV 2 17 0 15, ax_iload 1 16, ax_callV 6 67 2 17, ax_astore 3 18, ax_aload 3 19, ax_ifnull 23 20, ax_aload 3 21, ax_callV 3 23 0 22, ax_if (fun x => decide (¬ x = 0)) 25 23, ax_const (-1) 24, ax_ret 0, ax_aload 3 26, ax_const 0 27, ax_callV 3 25 1 28, ax_istore 4 29, ax_aload 2 30, ax_iload 4 31, ax_callV 2 19 1 32, ax_if (fun x => decide (¬ x = 0)) 35 33, ax_const (-2) 34, ax_ret 0, ax_aload 3 36, ax_callV 3 28 0 37, ax_aload 0 38, ax_dup 39, ax_get 6 8 40, ax_const 1 41, ax_bin (fun x y => x + y) 42, ax_put 6 8 0 43, ax_iload 4 44, ax_ret 0]
def ax_p58 : List ax_O := [ax_aload 0 1, ax_iload 1 2, ax_iload 2 3, ax_callV 6 67 2 4, ax_astore 3 5, ax_aload 3 6, ax_ifnonnull 9 7, ax_const (-1) 8, ax_goto 11, ax_aload 3 10, ax_callV 3 23 0 11, ax_ret 0]
def ax_p59 : List ax_O := [ax_aload 0 1, ax_iload 1 2, ax_iload 2 3, ax_callV 6 67 2 4, ax_astore 4 5, ax_aload 4 6, ax_ifnonnull 9 7, ax_const (-1) 8, ax_goto 12, ax_aload 4 10, ax_iload 3 11, ax_callV 3 25 1 12, ax_ret 0]
def ax_p60 : List ax_O := [ax_aload 0 1, ax_get 6 7 2, ax_if (fun x => decide (x = 0)) 6 3, ax_aload 0 4, ax_get 6 8 5, ax_goto 7, ax_const (-1) 7, ax_ret 0]
def ax_p61 : List ax_O := [ax_aload 0 1, ax_get 6 7 2, ax_if (fun x => decide (¬ x = 0)) 5 3, ax_const (-1) 4, ax_ret 0, ax_const 0 6, ax_istore 1 7, ax_const 0 8, ax_istore 2 9, ax_iload 2 10, ax_const 4 11, ax_icmp (fun x y => decide (y ≤ x)) 19 12, ax_aload 0 13, ax_iload 2 14, ax_callV 6 68 1 15, ax_if (fun x => decide (x = 0)) 17 16, ax_iinc 1 1 17, ax_iinc 2 1 18, ax_goto 9, ax_iload 1 20, ax_ret 0]
def ax_p62 : List ax_O := [ax_aload 0 1, ax_get 6 7 2, ax_if (fun x => decide (x = 0)) 11 3, ax_aload 0 4, ax_callV 6 69 0 5, ax_if (fun x => decide (x = 0)) 11 6, ax_aload 0 7, ax_callV 6 70 0 8, ax_if (fun x => decide (x = 0)) 11 9, ax_const 1 10, ax_goto 12, ax_const 0 12, ax_ret 1]
def ax_p63 : List ax_O := [ax_aload 0 1, ax_get 6 1 2, ax_aload 0 3, ax_get 6 0 4, ax_callV 0 1 1 5, ax_istore 1 6, ax_iload 1 7, ax_const (-1) 8, ax_icmp (fun x y => decide (x = y)) 11 9, ax_iload 1 10, ax_ret 0, ax_aload 0 12, ax_get 6 2 13, ax_aload 0 14, ax_get 6 0 15, ax_callV 4 30 1 16, ax_if (fun x => decide (x = 0)) 19 17, ax_const (-1) 18, ax_goto 20, ax_const (-2) 20, ax_ret 0]
def ax_p64 : List ax_O := [ax_aload 0 1, ax_aload 0 2, ax_get 6 0 3, ax_const 123 4, ax_callV 5 43 1 5, ax_put 6 6 0 6, ax_const 0 7, ax_istore 1 8, ax_iload 1 9, ax_const 4 10, ax_icmp (fun x y => decide (y ≤ x)) 23 11, ax_aload 0 12, ax_get 6 3 13, ax_iload 1 14, ax_aald 15, ax_aload 0 16, ax_get 6 4 17, ax_iload 1 18, ax_aald 19, ax_callV 1 7 0 20, ax_put 2 1 1 21, ax_iinc 1 1 22, ax_goto 8, ax_aload 0 24, ax_const 0 25, ax_put 6 7 1 26, ax_retv]
def ax_p65 : List ax_O := [ax_iload 1 1, ax_callS 71 1 2, ax_if (fun x => decide (x = 0)) 11 3, ax_aload 0 4, ax_get 6 3 5, ax_iload 1 6, ax_aald 7, ax_get 2 1 8, ax_if (fun x => decide (x = 0)) 11 9, ax_const 1 10, ax_goto 12, ax_const 0 12, ax_ret 1]
def ax_p66 : List ax_O := [ax_aload 0 1, ax_get 6 7 2, ax_if (fun x => decide (x = 0)) 11 3, ax_iload 1 4, ax_callS 71 1 5, ax_if (fun x => decide (x = 0)) 11 6, ax_aload 0 7, ax_get 6 3 8, ax_iload 1 9, ax_aald 10, ax_goto 12, ax_null 12, ax_ret 3]
def ax_p67 : List ax_O := [ax_aload 0 1, ax_get 6 7 2, ax_if (fun x => decide (x = 0)) 11 3, ax_iload 1 4, ax_callS 71 1 5, ax_if (fun x => decide (x = 0)) 11 6, ax_iload 2 7, ax_callS 71 1 8, ax_if (fun x => decide (x = 0)) 11 9, ax_const 1 10, ax_goto 12, ax_const 0 12, ax_istore 3 13, ax_iload 3 14, ax_if (fun x => decide (x = 0)) 24 15, ax_aload 0 16, ax_get 6 5 17, ax_iload 1 18, ax_const 4 19, ax_bin (fun x y => x * y) 20, ax_iload 2 21, ax_bin (fun x y => x + y) 22, ax_aald 23, ax_goto 25, ax_null 25, ax_ret 3]
def ax_p68 : List ax_O := [ax_aload 0 1, ax_iload 1 2, ax_callV 6 66 1 3, ax_astore 2 4, ax_aload 2 5, ax_ifnonnull 8 6, ax_const 0 7, ax_ret 1, ax_aload 2 9, ax_callV 2 16 0 10, ax_istore 3 11, ax_iload 3 12, ax_const 1 13, ax_icmp (fun x y => decide (¬ x = y)) 29 14, ax_aload 0 15, ax_iload 1 16, ax_aload 2 17, ax_callV 2 17 0 18, ax_callV 6 67 2 19, ax_astore 4 20, ax_aload 4 21, ax_ifnull 27 22, ax_aload 4 23, ax_callV 3 24 0 24, ax_if (fun x => decide (¬ x = 0)) 27 25, ax_const 1 26, ax_goto 28, ax_const 0 28, ax_ret 1, ax_iload 3 30, ax_const 2 31, ax_icmp (fun x y => decide (¬ x = y)) 51 32, ax_aload 0 33, ax_aload 2 34, ax_callV 2 17 0 35, ax_iload 1 36, ax_callV 6 67 2 37, ax_astore 4 38, ax_aload 4 39, ax_ifnull 49 40, ax_aload 2 41, ax_aload 4 42, ax_const 0 43, ax_callV 3 25 1 44, ax_callV 2 18 1 45, ax_const (-1) 46, ax_icmp (fun x y => decide (x = y)) 49 47, ax_const 1 48, ax_goto 50, ax_const 0 50, ax_ret 1, ax_const 0 52, ax_ret 1]
def ax_p69 : List ax_O := [ax_const 0 1, ax_istore 1 2, ax_iload 1 3, ax_const 4 4, ax_icmp (fun x y => decide (y ≤ x)) 15 5, ax_aload 0 6, ax_get 6 3 7, ax_iload 1 8, ax_aald 9, ax_callV 2 16 0 10, ax_if (fun x => decide (x = 0)) 13 11, ax_const 0 12, ax_ret 1, ax_iinc 1 1 14, ax_goto 2, ax_const 1 16, ax_ret 1]
def ax_p70 : List ax_O := [ax_const 0 1, ax_istore 1 2, ax_iload 1 3, ax_const 16 4, ax_icmp (fun x y => decide (y ≤ x)) 15 5, ax_aload 0 6, ax_get 6 5 7, ax_iload 1 8, ax_aald 9, ax_callV 3 23 0 10, ax_if (fun x => decide (x = 0)) 13 11, ax_const 0 12, ax_ret 1, ax_iinc 1 1 14, ax_goto 2, ax_const 1 16, ax_ret 1]
def ax_p71 : List ax_O := [ax_iload 0 1, ax_if (fun x => decide (x < 0)) 7 2, ax_iload 0 3, ax_const 4 4, ax_icmp (fun x y => decide (y ≤ x)) 7 5, ax_const 1 6, ax_goto 8, ax_const 0 8, ax_ret 1]
def ax_p72 : List ax_O := [ax_iload 0 1, ax_const 65 2, ax_icmp (fun x y => decide (x < y)) 8 3, ax_iload 0 4, ax_const 69 5, ax_icmp (fun x y => decide (y ≤ x)) 8 6, ax_const 1 7, ax_goto 9, ax_const 0 9, ax_ret 1]
def ax_p73 : List ax_O := [ax_iload 0 1, ax_const 112 2, ax_icmp (fun x y => decide (x < y)) 8 3, ax_iload 0 4, ax_const 118 5, ax_icmp (fun x y => decide (y ≤ x)) 8 6, ax_const 1 7, ax_goto 9, ax_const 0 9, ax_ret 1]
def ax_p74 : List ax_O := [ax_iload 0 1, ax_const 88 2, ax_icmp (fun x y => decide (x < y)) 8 3, ax_iload 0 4, ax_const 91 5, ax_icmp (fun x y => decide (y ≤ x)) 8 6, ax_const 1 7, ax_goto 9, ax_const 0 9, ax_ret 1]
def ax_p75 : List ax_O := [ax_aload 0 1, ax_obj 2, ax_aload 0 3, ax_const 60 4, ax_newa 1 5, ax_put 7 1 3 6, ax_aload 0 7, ax_const 60 8, ax_newa 0 9, ax_put 7 3 3 10, ax_aload 0 11, ax_const 60 12, ax_newa 0 13, ax_put 7 4 3 14, ax_aload 0 15, ax_const 60 16, ax_newa 0 17, ax_put 7 5 3 18, ax_aload 0 19, ax_const 60 20, ax_newa 0 21, ax_put 7 6 3 22, ax_aload 0 23, ax_const 60 24, ax_newa 0 25, ax_put 7 7 3 26, ax_aload 0 27, ax_const 14400 28, ax_newa 1 29, ax_put 7 8 3 30, ax_aload 0 31, ax_const 240 32, ax_newa 0 33, ax_put 7 9 3 34, ax_aload 0 35, ax_const 240 36, ax_newa 1 37, ax_put 7 12 3 38, ax_aload 0 39, ax_const 4 40, ax_newa 0 41, ax_put 7 13 3 42, ax_aload 0 43, ax_const 4 44, ax_newa 0 45, ax_put 7 15 3 46, ax_aload 0 47, ax_const 48 48, ax_newa 0 49, ax_put 7 16 3 50, ax_aload 0 51, ax_const 16 52, ax_newa 0 53, ax_put 7 17 3 54, ax_retv]
def ax_p76 : List ax_O := [ax_iload 1 1, ax_const 32 2, ax_icmp (fun x y => decide (x < y)) 10 3, ax_iload 1 4, ax_const 126 5, ax_icmp (fun x y => decide (y < x)) 10 6, ax_aload 0 7, ax_get 7 0 8, ax_const 60 9, ax_icmp (fun x y => decide (¬ x = y)) 12 10, ax_const 0 11, ax_ret 1, ax_aload 0 13, ax_get 7 1 14, ax_aload 0 15, ax_get 7 0 16, ax_iload 1 17, ax_ast 1 18, ax_aload 0 19, ax_dup 20, ax_get 7 0 21, ax_const 1 22, ax_bin (fun x y => x + y) 23, ax_put 7 0 0 24, ax_const 1 25, ax_ret 1]
def ax_p77 : List ax_O := [ax_iload 0 1, ax_const 88 2, ax_icmp (fun x y => decide (x < y)) 8 3, ax_iload 0 4, ax_const 90 5, ax_icmp (fun x y => decide (y < x)) 8 6, ax_const 1 7, ax_goto 9, ax_const 0 9, ax_ret 1]
def ax_p78 : List ax_O := [ax_iload 0 1, ax_const 65 2, ax_icmp (fun x y => decide (x < y)) 8 3, ax_iload 0 4, ax_const 68 5, ax_icmp (fun x y => decide (y < x)) 8 6, ax_const 1 7, ax_goto 9, ax_const 0 9, ax_ret 1]
def ax_p79 : List ax_O := [ax_iload 0 1, ax_const 112 2, ax_icmp (fun x y => decide (x < y)) 8 3, ax_iload 0 4, ax_const 117 5, ax_icmp (fun x y => decide (y < x)) 8 6, ax_const 1 7, ax_goto 9, ax_const 0 9, ax_ret 1]
def ax_p80 : List ax_O := [ax_aload 0 1, ax_get 7 3 2, ax_aload 0 3, ax_get 7 2 4, ax_iload 1 5, ax_ast 0 6, ax_aload 0 7, ax_get 7 4 8, ax_aload 0 9, ax_get 7 2 10, ax_iload 2 11, ax_ast 0 12, ax_aload 0 13, ax_get 7 5 14, ax_aload 0 15, ax_get 7 2 16, ax_iload 3 17, ax_ast 0 18, ax_aload 0 19, ax_get 7 6 20, ax_aload 0 21, ax_get 7 2 22, ax_iload 4 23, ax_ast 0 24, ax_aload 0 25, ax_get 7 7 26, ax_aload 0 27, ax_get 7 2 28, ax_iload 5 29, ax_ast 0 30, ax_aload 0 31, ax_dup 32, ax_get 7 2 33, ax_const 1 34, ax_bin (fun x y => x + y) 35, ax_put 7 2 0 36, ax_aload 0 37, ax_get 7 2 38, ax_const 1 39, ax_bin (fun x y => x - y) 40, ax_ret 0]
def ax_p81 : List ax_O := [ax_iload 1 1, ax_istore 2 2, ax_iload 2 3, ax_if (fun x => decide (x < 0)) 16 4, ax_aload 0 5, ax_get 7 3 6, ax_iload 2 7, ax_ald 0 8, ax_const 2 9, ax_icmp (fun x y => decide (¬ x = y)) 16 10, ax_aload 0 11, ax_get 7 6 12, ax_iload 2 13, ax_ald 0 14, ax_istore 2 15, ax_goto 2, ax_iload 2 17, ax_ret 0]
def ax_p82 : List ax_O := [ax_iload 0 1, ax_const 101 2, ax_icmp (fun x y => decide (x = y)) 6 3, ax_iload 0 4, ax_callS 77 1 5, ax_if (fun x => decide (x = 0)) 8 6, ax_const 6 7, ax_goto 19, ax_iload 0 9, ax_const 109 10, ax_icmp (fun x y => decide (¬ x = y)) 13 11, ax_const 1 12, ax_goto 19, ax_iload 0 14, ax_callS 78 1 15, ax_if (fun x => decide (x = 0)) 18 16, ax_const 3 17, ax_goto 19, ax_const (-1) 19, ax_ret 0]
def ax_p83 : List ax_O := [ax_aload 0 1, ax_const 0 2, ax_put 7 2 0 3, ax_const 0 4, ax_istore 1 5, ax_const (-1) 6, ax_istore 2 7, ax_const 0 8, ax_istore 3 9, ax_const 0 10, ax_istore 4 11, ax_const 0 12, ax_istore 5 13, ax_const 0 14, ax_istore 6 15, ax_iload 6 16, ax_aload 0 17, ax_get 7 0 18, ax_icmp (fun x y => decide (y ≤ x)) 163 19, ax_aload 0 20, ax_get 7 1 21, ax_iload 6 22, ax_ald 1 23, ax_istore 7 24, ax_const (-1) 25, ax_istore 8 26, ax_iload 1 27, ax_if (fun x => decide (¬ x = 0)) 61 28, ax_iload 7 29, ax_callS 82 1 30, ax_istore 8 31, ax_iload 7 32, ax_const 109 33, ax_icmp (fun x y => decide (¬ x = y)) 36 34, ax_const 1 35, ax_goto 37, ax_const 0 37, ax_istore 5 38, ax_iload 7 39, ax_istore 3 40, ax_iload 8 41, ax_const 6 42, ax_icmp (fun x y => decide (¬ x = y)) 148 43, ax_aload 0 44, ax_iload 7 45, ax_const 101 46, ax_icmp (fun x y => decide (¬ x = y)) 49 47, ax_const 0 48, ax_goto 50, ax_const 1 50, ax_iload 7 51, ax_const 0 52, ax_iload 2 53, ax_iload 4 54, ax_callV 7 80 5 55, ax_pop 56, ax_aload 0 57, ax_iload 2 58, ax_callV 7 81 1 59, ax_istore 2 60, ax_goto 148, ax_iload 1 62, ax_const 1 63, ax_icmp (fun x y => decide (¬ x = y)) 78 64, ax_iload 7 65, ax_callS 77 1 66, ax_if (fun x => decide (x = 0)) 78 67, ax_aload 0 68, ax_const 2 69, ax_iload 7 70, ax_const 0 71, ax_iload 2 72, ax_iload 4 73, ax_callV 7 80 5 74, ax_istore 2 75, ax_const 2 76, ax_istore 8 77, ax_goto 148, ax_iload 1 79, ax_const 3 80, ax_icmp (fun x y => decide (¬ x = y)) 95 81, ax_iload 7 82, ax_callS 78 1 83, ax_if (fun x => decide (x = 0)) 95 84, ax_aload 0 85, ax_const 3 86, ax_iload 3 87, ax_iload 7 88, ax_iload 2 89, ax_iload 4 90, ax_callV 7 80 5 91, ax_istore 2 92, ax_const 4 93, ax_istore 8 94, ax_goto 148, ax_iload 1 96, ax_const 2 97, ax_icmp (fun x y => decide (¬ x = y)) 104 98, ax_iload 7 99, ax_const 46 100, ax_icmp (fun x y => decide (¬ x = y)) 104 101, ax_const 0 102, ax_istore 8 103, ax_goto 148, ax_iload 1 105, ax_const 4 106, ax_icmp (fun x y => decide (¬ x = y)) 113 107, ax_iload 7 108, ax_const 123 109, ax_icmp (fun x y => decide (¬ x = y)) 113 110, ax_const 5 111, ax_istore 8 112, ax_goto 148, ax_iload 1 114, ax_const 5 115, ax_icmp (fun x y => decide (¬ x = y)) 124 116, ax_iload 7 117, ax_callS 79 1 118, ax_if (fun x => decide (x = 0)) 124 119, ax_iload 7 120, ax_istore 4 121, ax_const 2 122, ax_istore 8 123, ax_goto 148, ax_iload 1 125, ax_const 6 126, ax_icmp (fun x y => decide (¬ x = y)) 133 127, ax_iload 7 128, ax_const 44 129, ax_icmp (fun x y => decide (¬ x = y)) 133 130, ax_const 5 131, ax_istore 8 132, ax_goto 148, ax_iload 1 134, ax_const 6 135, ax_icmp (fun x y => decide (¬ x = y)) 148 136, ax_iload 7 137, ax_const 125 138, ax_icmp (fun x y => decide (¬ x = y)) 148 139, ax_aload 0 140, ax_aload 0 141, ax_get 7 6 142, ax_iload 2 143, ax_ald 0 144, ax_callV 7 81 1 145, ax_istore 2 146, ax_const 6 147, ax_istore 8 148, ax_iload 8 149, ax_if (fun x => decide (0 ≤ x)) 152 150, ax_iload 6 151, ax_ret 0, ax_iload 8 153, ax_const 6 154, ax_icmp (fun x y => decide (¬ x = y)) 159 155, ax_iload 2 156, ax_if (fun x => decide (0 ≤ x)) 159 157, ax_const 7 158, ax_goto 160, ax_iload 8 160, ax_istore 1 161, ax_iinc 6 1 162, ax_goto 15, ax_iload 1 164, ax_const 7 165, ax_icmp (fun x y => decide (¬ x = y)) 168 166, ax_const (-1) 167, ax_goto 170, ax_aload 0 169, ax_get 7 0 170, ax_ret 0]
def ax_p84 : List ax_O := [ax_const 0 1, ax_istore 2 2, ax_aload 0 3, ax_get 7 6 4, ax_iload 1 5, ax_ald 0 6, ax_istore 3 7, ax_iload 3 8, ax_if (fun x => decide (x < 0)) 44 9, ax_aload 0 10, ax_get 7 3 11, ax_iload 3 12, ax_ald 0 13, ax_const 2 14, ax_icmp (fun x y => decide (¬ x = y)) 26 15, ax_aload 0 16, ax_get 7 4 17, ax_iload 3 18, ax_ald 0 19, ax_aload 0 20, ax_get 7 4 21, ax_iload 1 22, ax_ald 0 23, ax_icmp (fun x y => decide (¬ x = y)) 26 24, ax_iload 2 25, ax_ret 1, ax_iload 2 27, ax_if (fun x => decide (¬ x = 0)) 34 28, ax_aload 0 29, ax_get 7 3 30, ax_iload 3 31, ax_ald 0 32, ax_const 3 33, ax_icmp (fun x y => decide (¬ x = y)) 36 34, ax_const 1 35, ax_goto 37, ax_const 0 37, ax_istore 2 38, ax_aload 0 39, ax_get 7 6 40, ax_iload 3 41, ax_ald 0 42, ax_istore 3 43, ax_goto 7, ax_const 0 45, ax_ret 1]
def ax_p85 : List ax_O := [ax_aload 0 1, ax_get 7 6 2, ax_iload 1 3, ax_ald 0 4, ax_istore 2 5, ax_iload 2 6, ax_if (fun x => decide (x < 0)) 30 7, ax_aload 0 8, ax_get 7 3 9, ax_iload 2 10, ax_ald 0 11, ax_const 2 12, ax_icmp (fun x y => decide (¬ x = y)) 24 13, ax_aload 0 14, ax_get 7 4 15, ax_iload 2 16, ax_ald 0 17, ax_aload 0 18, ax_get 7 4 19, ax_iload 1 20, ax_ald 0 21, ax_icmp (fun x y => decide (¬ x = y)) 24 22, ax_const 0 23, ax_ret 1, ax_aload 0 25, ax_get 7 6 26, ax_iload 2 27, ax_ald 0 28, ax_istore 2 29, ax_goto 5, ax_const 1 31, ax_ret 1]
def ax_p86 : List ax_O := [ax_const 0 1, ax_istore 2 2, ax_iload 2 3, ax_aload 0 4, ax_get 7 2 5, ax_icmp (fun x y => decide (y ≤ x)) 31 6, ax_iload 2 7, ax_iload 1 8, ax_icmp (fun x y => decide (x = y)) 29 9, ax_aload 0 10, ax_get 7 6 11, ax_iload 2 12, ax_ald 0 13, ax_aload 0 14, ax_get 7 6 15, ax_iload 1 16, ax_ald 0 17, ax_icmp (fun x y => decide (¬ x = y)) 29 18, ax_aload 0 19, ax_get 7 7 20, ax_iload 2 21, ax_ald 0 22, ax_aload 0 23, ax_get 7 7 24, ax_iload 1 25, ax_ald 0 26, ax_icmp (fun x y => decide (¬ x = y)) 29 27, ax_const 0 28, ax_ret 1, ax_iinc 2 1 30, ax_goto 2, ax_const 1 32, ax_ret 1]
def ax_p87 : List ax_O := [ax_const 0 1, ax_istore 1 2, ax_iload 1 3, ax_aload 0 4, ax_get 7 2 5, ax_icmp (fun x y => decide (y ≤ x)) 65 6, ax_aload 0 7, ax_get 7 3 8, ax_iload 1 9, ax_ald 0 10, ax_const 1 11, ax_icmp (fun x y => decide (¬ x = y)) 16 12, ax_aload 0 13, ax_iload 1 14, ax_callV 7 84 1 15, ax_if (fun x => decide (x = 0)) 41 16, ax_aload 0 17, ax_get 7 3 18, ax_iload 1 19, ax_ald 0 20, ax_const 2 21, ax_icmp (fun x y => decide (¬ x = y)) 26 22, ax_aload 0 23, ax_iload 1 24, ax_callV 7 85 1 25, ax_if (fun x => decide (x = 0)) 41 26, ax_aload 0 27, ax_get 7 3 28, ax_iload 1 29, ax_ald 0 30, ax_const 3 31, ax_icmp (fun x y => decide (¬ x = y)) 43 32, ax_aload 0 33, ax_get 7 4 34, ax_iload 1 35, ax_ald 0 36, ax_aload 0 37, ax_get 7 5 38, ax_iload 1 39, ax_ald 0 40, ax_icmp (fun x y => decide (¬ x = y)) 43 41, ax_const 0 42, ax_ret 1, ax_aload 0 44, ax_get 7 6 45, ax_iload 1 46, ax_ald 0 47, ax_if (fun x => decide (x < 0)) 63 48, ax_aload 0 49, ax_get 7 3 50, ax_aload 0 51, ax_get 7 6 52, ax_iload 1 53, ax_ald 0 54, ax_ald 0 55, ax_const 3 56, ax_icmp (fun x y => decide (¬ x = y)) 63 57, ax_aload 0 58, ax_iload 1 59, ax_callV 7 86 1 60, ax_if (fun x => decide (¬ x = 0)) 63 61, ax_const 0 62, ax_ret 1, ax_iinc 1 1 64, ax_goto 2, ax_const 1 66, ax_ret 1]
def ax_p88 : List ax_O := [ax_aload 0 1, ax_get 7 8 2, ax_const 60 3, ax_iload 1 4, ax_bin (fun x y => x * y) 5, ax_aload 0 6, ax_get 7 9 7, ax_iload 1 8, ax_ald 0 9, ax_bin (fun x y => x + y) 10, ax_iload 2 11, ax_un (fun x => (x.toUInt32 % 65536).toInt32) 12, ax_ast 1 13, ax_aload 0 14, ax_get 7 9 15, ax_iload 1 16, ax_dup2 17, ax_ald 0 18, ax_const 1 19, ax_bin (fun x y => x + y) 20, ax_ast 0 21, ax_retv]
def ax_p89 : List ax_O := [ax_const 0 1, ax_istore 3 2, ax_iload 3 3, ax_aload 0 4, ax_get 7 9 5, ax_iload 1 6, ax_ald 0 7, ax_icmp (fun x y => decide (y ≤ x)) 21 8, ax_aload 0 9, ax_iload 2 10, ax_aload 0 11, ax_get 7 8 12, ax_const 60 13, ax_iload 1 14, ax_bin (fun x y => x * y) 15, ax_iload 3 16, ax_bin (fun x y => x + y) 17, ax_ald 1 18, ax_callV 7 88 2 19, ax_iinc 3 1 20, ax_goto 2, ax_retv]
def ax_p90 : List ax_O := [ax_aload 0 1, ax_get 7 9 2, ax_iload 1 3, ax_ald 0 4, ax_aload 0 5, ax_get 7 9 6, ax_iload 2 7, ax_ald 0 8, ax_icmp (fun x y => decide (¬ x = y)) 11 9, ax_const 1 10, ax_goto 12, ax_const 0 12, ax_istore 3 13, ax_const 0 14, ax_istore 4 15, ax_iload 4 16, ax_aload 0 17, ax_get 7 9 18, ax_iload 1 19, ax_ald 0 20, ax_icmp (fun x y => decide (y ≤ x)) 46 21, ax_iload 3 22, ax_if (fun x => decide (x = 0)) 46 23, ax_aload 0 24, ax_get 7 8 25, ax_const 60 26, ax_iload 1 27, ax_bin (fun x y => x * y) 28, ax_iload 4 29, ax_bin (fun x y => x + y) 30, ax_ald 1 31, ax_aload 0 32, ax_get 7 8 33, ax_const 60 34, ax_iload 2 35, ax_bin (fun x y => x * y) 36, ax_iload 4 37, ax_bin (fun x y => x + y) 38, ax_ald 1 39, ax_icmp (fun x y => decide (¬ x = y)) 42 40, ax_const 1 41, ax_goto 43, ax_const 0 43, ax_istore 3 44, ax_iinc 4 1 45, ax_goto 15, ax_iload 3 47, ax_ret 1]
def ax_p91 : List ax_O := [ax_const 4 1, ax_iload 1 2, ax_bin (fun x y => x * y) 3, ax_iload 2 4, ax_bin (fun x y => x + y) 5, ax_istore 3 6, ax_const 4 7, ax_iload 1 8, ax_const 1 9, ax_bin (fun x y => x + y) 10, ax_bin (fun x y => x * y) 11, ax_iload 2 12, ax_bin (fun x y => x + y) 13, ax_istore 4 14, ax_const 0 15, ax_istore 5 16, ax_const 0 17, ax_istore 6 18, ax_iload 6 19, ax_aload 0 20, ax_get 7 9 21, ax_iload 4 22, ax_ald 0 23, ax_icmp (fun x y => decide (y ≤ x)) 45 24, ax_iload 5 25, ax_if (fun x => decide (¬ x = 0)) 39 26, ax_aload 0 27, ax_get 7 8 28, ax_const 60 29, ax_iload 4 30, ax_bin (fun x y => x * y) 31, ax_iload 6 32, ax_bin (fun x y => x + y) 33, ax_ald 1 34, ax_aload 0 35, ax_get 7 4 36, ax_iload 1 37, ax_ald 0 38, ax_icmp (fun x y => decide (¬ x = y)) 41 39, ax_const 1 40, ax_goto 42, ax_const 0 42, ax_istore 5 43, ax_iinc 6 1 44, ax_goto 18, ax_aload 0 46, ax_get 7 9 47, ax_iload 4 48, ax_ald 0 49, ax_if (fun x => decide (0 ≤ x)) 56 50, ax_aload 0 51, ax_get 7 9 52, ax_iload 3 53, ax_const (-1) 54, ax_ast 0 55, ax_goto 90, ax_iload 5 57, ax_if (fun x => decide (x = 0)) 69 58, ax_aload 0 59, ax_get 7 9 60, ax_iload 4 61, ax_ald 0 62, ax_const 1 63, ax_icmp (fun x y => decide (¬ x = y)) 69 64, ax_aload 0 65, ax_iload 3 66, ax_const 101 67, ax_callV 7 88 2 68, ax_goto 90, ax_iload 5 70, ax_if (fun x => decide (x = 0)) 86 71, ax_aload 0 72, ax_iload 3 73, ax_const 109 74, ax_callV 7 88 2 75, ax_aload 0 76, ax_iload 3 77, ax_aload 0 78, ax_get 7 4 79, ax_iload 1 80, ax_ald 0 81, ax_callV 7 88 2 82, ax_aload 0 83, ax_iload 3 84, ax_const 46 85, ax_callV 7 88 2 86, ax_aload 0 87, ax_iload 4 88, ax_iload 3 89, ax_callV 7 89 2 90, ax_retv]
def ax_p92 : List ax_O := [ax_const 4 1, ax_iload 1 2, ax_bin (fun x y => x * y) 3, ax_iload 2 4, ax_bin (fun x y => x + y) 5, ax_istore 3 6, ax_aload 0 7, ax_get 7 4 8, ax_iload 1 9, ax_ald 0 10, ax_const 65 11, ax_iload 2 12, ax_bin (fun x y => x + y) 13, ax_icmp (fun x y => decide (¬ x = y)) 16 14, ax_const 1 15, ax_goto 17, ax_const 0 17, ax_istore 4 18, ax_iload 4 19, ax_if (fun x => decide (¬ x = 0)) 28 20, ax_aload 0 21, ax_get 7 5 22, ax_iload 1 23, ax_ald 0 24, ax_const 65 25, ax_iload 2 26, ax_bin (fun x y => x + y) 27, ax_icmp (fun x y => decide (¬ x = y)) 30 28, ax_const 1 29, ax_goto 31, ax_const 0 31, ax_istore 5 32, ax_const (-1) 33, ax_istore 6 34, ax_const 1 35, ax_istore 7 36, ax_iload 5 37, ax_if (fun x => decide (x = 0)) 60 38, ax_aload 0 39, ax_iload 3 40, ax_iload 4 41, ax_if (fun x => decide (x = 0)) 47 42, ax_aload 0 43, ax_get 7 5 44, ax_iload 1 45, ax_ald 0 46, ax_goto 51, ax_aload 0 48, ax_get 7 4 49, ax_iload 1 50, ax_ald 0 51, ax_callV 7 88 2 52, ax_aload 0 53, ax_iload 3 54, ax_iload 4 55, ax_if (fun x => decide (x = 0)) 58 56, ax_const 33 57, ax_goto 59, ax_const 63 59, ax_callV 7 88 2 60, ax_iload 1 61, ax_const 1 62, ax_bin (fun x y => x + y) 63, ax_istore 8 64, ax_iload 8 65, ax_aload 0 66, ax_get 7 2 67, ax_icmp (fun x y => decide (y ≤ x)) 132 68, ax_iload 7 69, ax_if (fun x => decide (x = 0)) 132 70, ax_aload 0 71, ax_get 7 6 72, ax_iload 8 73, ax_ald 0 74, ax_iload 1 75, ax_icmp (fun x y => decide (x = y)) 77 76, ax_goto 130, ax_const 4 78, ax_iload 8 79, ax_bin (fun x y => x * y) 80, ax_iload 2 81, ax_bin (fun x y => x + y) 82, ax_istore 9 83, ax_aload 0 84, ax_get 7 9 85, ax_iload 9 86, ax_ald 0 87, ax_if (fun x => decide (x < 0)) 99 88, ax_iload 5 89, ax_if (fun x => decide (¬ x = 0)) 97 90, ax_iload 6 91, ax_if (fun x => decide (x < 0)) 97 92, ax_aload 0 93, ax_iload 6 94, ax_iload 9 95, ax_callV 7 90 2 96, ax_if (fun x => decide (x = 0)) 99 97, ax_const 1 98, ax_goto 100, ax_const 0 100, ax_istore 7 101, ax_iload 5 102, ax_if (fun x => decide (x = 0)) 128 103, ax_iload 7 104, ax_if (fun x => decide (x = 0)) 128 105, ax_aload 0 106, ax_iload 3 107, ax_iload 6 108, ax_if (fun x => decide (0 ≤ x)) 111 109, ax_const 123 110, ax_goto 112, ax_const 44 112, ax_callV 7 88 2 113, ax_aload 0 114, ax_iload 3 115, ax_aload 0 116, ax_get 7 7 117, ax_iload 8 118, ax_ald 0 119, ax_callV 7 88 2 120, ax_aload 0 121, ax_iload 3 122, ax_const 46 123, ax_callV 7 88 2 124, ax_aload 0 125, ax_iload 9 126, ax_iload 3 127, ax_callV 7 89 2 128, ax_iload 9 129, ax_istore 6 130, ax_iinc 8 1 131, ax_goto 64, ax_iload 7 133, ax_if (fun x => decide (¬ x = 0)) 140 134, ax_aload 0 135, ax_get 7 9 136, ax_iload 3 137, ax_const (-1) 138, ax_ast 0 139, ax_goto 151, ax_iload 5 141, ax_if (fun x => decide (x = 0)) 147 142, ax_aload 0 143, ax_iload 3 144, ax_const 125 145, ax_callV 7 88 2 146, ax_goto 151, ax_aload 0 148, ax_iload 6 149, ax_iload 3 150, ax_callV 7 89 2 151, ax_retv]
def ax_p93 : List ax_O := [ax_aload 0 1, ax_get 7 2 2, ax_const 1 3, ax_bin (fun x y => x - y) 4, ax_istore 1 5, ax_iload 1 6, ax_if (fun x => decide (x < 0)) 58 7, ax_const 0 8, ax_istore 2 9, ax_iload 2 10, ax_const 4 11, ax_icmp (fun x y => decide (y ≤ x)) 56 12, ax_aload 0 13, ax_get 7 9 14, ax_const 4 15, ax_iload 1 16, ax_bin (fun x y => x * y) 17, ax_iload 2 18, ax_bin (fun x y => x + y) 19, ax_const 0 20, ax_ast 0 21, ax_aload 0 22, ax_get 7 3 23, ax_iload 1 24, ax_ald 0 25, ax_const 2 26, ax_icmp (fun x y => decide (¬ x = y)) 32 27, ax_aload 0 28, ax_iload 1 29, ax_iload 2 30, ax_callV 7 91 2 31, ax_goto 54, ax_aload 0 33, ax_get 7 3 34, ax_iload 1 35, ax_ald 0 36, ax_const 3 37, ax_icmp (fun x y => decide (¬ x = y)) 43 38, ax_aload 0 39, ax_iload 1 40, ax_iload 2 41, ax_callV 7 92 2 42, ax_goto 54, ax_aload 0 44, ax_const 4 45, ax_iload 1 46, ax_bin (fun x y => x * y) 47, ax_iload 2 48, ax_bin (fun x y => x + y) 49, ax_aload 0 50, ax_get 7 4 51, ax_iload 1 52, ax_ald 0 53, ax_callV 7 88 2 54, ax_iinc 2 1 55, ax_goto 9, ax_iinc 1 (-1) 57, ax_goto 5, ax_retv]
def ax_p94 : List ax_O := [ax_aload 0 1, ax_callV 7 83 0 2, ax_istore 1 3, ax_aload 0 4, ax_const 0 5, ax_put 7 0 0 6, ax_iload 1 7, ax_if (fun x => decide (x < 0)) 10 8, ax_iload 1 9, ax_ret 0, ax_aload 0 11, ax_callV 7 87 0 12, ax_if (fun x => decide (¬ x = 0)) 15 13, ax_const (-2) 14, ax_ret 0, ax_aload 0 16, ax_callV 7 93 0 17, ax_aload 0 18, ax_const 0 19, ax_put 7 11 0 20, ax_const 0 21, ax_istore 2 22, ax_iload 2 23, ax_aload 0 24, ax_get 7 2 25, ax_icmp (fun x y => decide (y ≤ x)) 42 26, ax_aload 0 27, ax_dup 28, ax_get 7 11 29, ax_aload 0 30, ax_get 7 3 31, ax_iload 2 32, ax_ald 0 33, ax_const 3 34, ax_icmp (fun x y => decide (¬ x = y)) 37 35, ax_const 1 36, ax_goto 38, ax_const 0 38, ax_bin (fun x y => x + y) 39, ax_put 7 11 0 40, ax_iinc 2 1 41, ax_goto 22, ax_const 0 43, ax_istore 2 44, ax_iload 2 45, ax_const 4 46, ax_icmp (fun x y => decide (y ≤ x)) 83 47, ax_aload 0 48, ax_get 7 13 49, ax_iload 2 50, ax_aload 0 51, ax_get 7 9 52, ax_iload 2 53, ax_ald 0 54, ax_ast 0 55, ax_const 0 56, ax_istore 3 57, ax_iload 3 58, ax_aload 0 59, ax_get 7 9 60, ax_iload 2 61, ax_ald 0 62, ax_icmp (fun x y => decide (y ≤ x)) 81 63, ax_aload 0 64, ax_get 7 12 65, ax_const 60 66, ax_iload 2 67, ax_bin (fun x y => x * y) 68, ax_iload 3 69, ax_bin (fun x y => x + y) 70, ax_aload 0 71, ax_get 7 8 72, ax_const 60 73, ax_iload 2 74, ax_bin (fun x y => x * y) 75, ax_iload 3 76, ax_bin (fun x y => x + y) 77, ax_ald 1 78, ax_ast 1 79, ax_iinc 3 1 80, ax_goto 57, ax_iinc 2 1 82, ax_goto 44, ax_aload 0 84, ax_const 1 85, ax_put 7 10 1 86, ax_aload 0 87, ax_const 0 88, ax_put 7 14 1 89, ax_const (-1) 90, ax_ret 0]
def ax_p95 : List ax_O := [ax_iload 0 1, ax_if (fun x => decide (x < 0)) 7 2, ax_iload 0 3, ax_const 3 4, ax_icmp (fun x y => decide (y < x)) 7 5, ax_const 1 6, ax_goto 8, ax_const 0 8, ax_ret 1]
def ax_p96 : List ax_O := [ax_aload 0 1, ax_get 7 10 2, ax_if (fun x => decide (x = 0)) 6 3, ax_aload 0 4, ax_get 7 11 5, ax_goto 7, ax_const (-1) 7, ax_ret 0]
def ax_p97 : List ax_O := [ax_aload 0 1, ax_get 7 10 2, ax_if (fun x => decide (x = 0)) 11 3, ax_iload 1 4, ax_callS 95 1 5, ax_if (fun x => decide (x = 0)) 11 6, ax_aload 0 7, ax_get 7 13 8, ax_iload 1 9, ax_ald 0 10, ax_goto 12, ax_const (-1) 12, ax_ret 0]
def ax_p98 : List ax_O := [ax_aload 0 1, ax_get 7 10 2, ax_if (fun x => decide (x = 0)) 23 3, ax_iload 1 4, ax_callS 95 1 5, ax_if (fun x => decide (x = 0)) 23 6, ax_iload 2 7, ax_if (fun x => decide (x < 0)) 23 8, ax_iload 2 9, ax_aload 0 10, ax_get 7 13 11, ax_iload 1 12, ax_ald 0 13, ax_icmp (fun x y => decide (y ≤ x)) 23 14, ax_aload 0 15, ax_get 7 12 16, ax_const 60 17, ax_iload 1 18, ax_bin (fun x y => x * y) 19, ax_iload 2 20, ax_bin (fun x y => x + y) 21, ax_ald 1 22, ax_goto 24, ax_const (-1) 24, ax_ret 0]
def ax_p99 : List ax_O := [ax_iload 2 1, ax_aload 0 2, ax_get 7 13 3, ax_iload 1 4, ax_ald 0 5, ax_icmp (fun x y => decide (y ≤ x)) 15 6, ax_aload 0 7, ax_get 7 12 8, ax_const 60 9, ax_iload 1 10, ax_bin (fun x y => x * y) 11, ax_iload 2 12, ax_bin (fun x y => x + y) 13, ax_ald 1 14, ax_goto 16, ax_const 0 16, ax_ret 0]
def ax_p100 : List ax_O := [ax_const 0 1, ax_istore 4 2, ax_const 0 3, ax_istore 5 4, ax_iload 2 5, ax_const 1 6, ax_bin (fun x y => x - y) 7, ax_istore 6 8, ax_iload 6 9, ax_if (fun x => decide (x < 0)) 60 10, ax_aload 0 11, ax_iload 1 12, ax_iload 6 13, ax_callV 7 99 2 14, ax_istore 7 15, ax_iload 7 16, ax_const 125 17, ax_icmp (fun x y => decide (¬ x = y)) 20 18, ax_iinc 4 1 19, ax_goto 58, ax_iload 7 21, ax_const 123 22, ax_icmp (fun x y => decide (¬ x = y)) 27 23, ax_iload 4 24, ax_if (fun x => decide (x ≤ 0)) 27 25, ax_iinc 4 (-1) 26, ax_goto 58, ax_iload 7 28, ax_const 123 29, ax_icmp (fun x y => decide (¬ x = y)) 33 30, ax_const 0 31, ax_istore 5 32, ax_goto 58, ax_iload 7 34, ax_const 44 35, ax_icmp (fun x y => decide (¬ x = y)) 41 36, ax_iload 4 37, ax_if (fun x => decide (¬ x = 0)) 41 38, ax_const 1 39, ax_istore 5 40, ax_goto 58, ax_iload 7 42, ax_const 109 43, ax_icmp (fun x y => decide (¬ x = y)) 58 44, ax_iload 4 45, ax_if (fun x => decide (¬ x = 0)) 58 46, ax_iload 5 47, ax_if (fun x => decide (¬ x = 0)) 58 48, ax_aload 0 49, ax_iload 1 50, ax_iload 6 51, ax_const 1 52, ax_bin (fun x y => x + y) 53, ax_callV 7 99 2 54, ax_iload 3 55, ax_icmp (fun x y => decide (¬ x = y)) 58 56, ax_iload 6 57, ax_ret 0, ax_iinc 6 (-1) 59, ax_goto 8, ax_const 0 61, ax_ret 0]
def ax_p101 : List ax_O := [ax_iload 2 1, ax_istore 3 2, ax_const 0 3, ax_istore 4 4, ax_iload 4 5, ax_const 100 6, ax_icmp (fun x y => decide (y ≤ x)) 28 7, ax_aload 0 8, ax_iload 1 9, ax_iload 3 10, ax_callV 7 99 2 11, ax_istore 5 12, ax_iload 5 13, ax_const 109 14, ax_icmp (fun x y => decide (¬ x = y)) 17 15, ax_iinc 3 3 16, ax_goto 26, ax_iload 5 18, ax_callS 77 1 19, ax_if (fun x => decide (x = 0)) 26 20, ax_aload 0 21, ax_iload 1 22, ax_iload 3 23, ax_iload 5 24, ax_callV 7 100 3 25, ax_istore 3 26, ax_iinc 4 1 27, ax_goto 4, ax_aload 0 29, ax_get 7 15 30, ax_iload 1 31, ax_iload 3 32, ax_ast 0 33, ax_retv]
def ax_p102 : List ax_O := [ax_aload 0 1, ax_get 7 10 2, ax_istore 1 3, ax_const 0 4, ax_istore 2 5, ax_iload 2 6, ax_const 4 7, ax_icmp (fun x y => decide (y ≤ x)) 21 8, ax_iload 1 9, ax_if (fun x => decide (x = 0)) 17 10, ax_aload 0 11, ax_get 7 13 12, ax_iload 2 13, ax_ald 0 14, ax_if (fun x => decide (x < 0)) 17 15, ax_const 1 16, ax_goto 18, ax_const 0 18, ax_istore 1 19, ax_iinc 2 1 20, ax_goto 5, ax_iload 1 22, ax_if (fun x => decide (¬ x = 0)) 25 23, ax_const 0 24, ax_ret 1, ax_aload 0 26, ax_const 1 27, ax_put 7 14 1 28, ax_aload 0 29, ax_const 0 30, ax_put 7 18 0 31, ax_const 0 32, ax_istore 2 33, ax_iload 2 34, ax_const 4 35, ax_icmp (fun x y => decide (y ≤ x)) 42 36, ax_aload 0 37, ax_iload 2 38, ax_const 0 39, ax_callV 7 101 2 40, ax_iinc 2 1 41, ax_goto 33, ax_const 0 43, ax_istore 2 44, ax_iload 2 45, ax_const 16 46, ax_icmp (fun x y => decide (y ≤ x)) 54 47, ax_aload 0 48, ax_get 7 17 49, ax_iload 2 50, ax_const 0 51, ax_ast 0 52, ax_iinc 2 1 53, ax_goto 44, ax_const 1 55, ax_ret 1]
def ax_p103 : List ax_O := [ax_aload 0 1, ax_get 7 14 2, ax_if (fun x => decide (x = 0)) 6 3, ax_iload 1 4, ax_callS 95 1 5, ax_if (fun x => decide (¬ x = 0)) 8 6, ax_const (-1) 7, ax_ret 0, ax_aload 0 9, ax_iload 1 10, ax_aload 0 11, ax_get 7 15 12, ax_iload 1 13, ax_ald 0 14, ax_const 1 15, ax_bin (fun x y => x + y) 16, ax_callV 7 99 2 17, ax_istore 2 18, ax_aload 0 19, ax_iload 1 20, ax_aload 0 21, ax_get 7 15 22, ax_iload 1 23, ax_ald 0 24, ax_callV 7 99 2 25, ax_const 101 26, ax_icmp (fun x y => decide (¬ x = y)) 29 27, ax_const 0 28, ax_goto 35, ax_iload 2 30, ax_const 33 31, ax_icmp (fun x y => decide (¬ x = y)) 34 32, ax_const 1 33, ax_goto 35, ax_const 2 35, ax_ret 0]
def ax_p104 : List ax_O := [ax_aload 0 1, ax_iload 1 2, ax_callV 7 103 1 3, ax_const 1 4, ax_icmp (fun x y => decide (y ≤ x)) 7 5, ax_const (-1) 6, ax_goto 16, ax_aload 0 8, ax_iload 1 9, ax_aload 0 10, ax_get 7 15 11, ax_iload 1 12, ax_ald 0 13, ax_callV 7 99 2 14, ax_const 65 15, ax_bin (fun x y => x - y) 16, ax_ret 0]
def ax_p105 : List ax_O := [ax_aload 0 1, ax_iload 1 2, ax_callV 7 103 1 3, ax_const 1 4, ax_icmp (fun x y => decide (y ≤ x)) 7 5, ax_const (-1) 6, ax_ret 0, ax_const 0 8, ax_istore 3 9, ax_aload 0 10, ax_get 7 15 11, ax_iload 1 12, ax_ald 0 13, ax_const 2 14, ax_bin (fun x y => x + y) 15, ax_istore 4 16, ax_iload 4 17, ax_aload 0 18, ax_get 7 13 19, ax_iload 1 20, ax_ald 0 21, ax_icmp (fun x y => decide (y ≤ x)) 72 22, ax_aload 0 23, ax_iload 1 24, ax_iload 4 25, ax_callV 7 99 2 26, ax_istore 5 27, ax_iload 5 28, ax_const 123 29, ax_icmp (fun x y => decide (¬ x = y)) 34 30, ax_iload 3 31, ax_const 1 32, ax_bin (fun x y => x + y) 33, ax_goto 42, ax_iload 5 35, ax_const 125 36, ax_icmp (fun x y => decide (¬ x = y)) 41 37, ax_iload 3 38, ax_const 1 39, ax_bin (fun x y => x - y) 40, ax_goto 42, ax_iload 3 42, ax_istore 3 43, ax_iload 3 44, ax_if (fun x => decide (¬ x = 0)) 47 45, ax_const (-1) 46, ax_ret 0, ax_iload 3 48, ax_const 1 49, ax_icmp (fun x y => decide (¬ x = y)) 70 50, ax_iload 5 51, ax_const 123 52, ax_icmp (fun x y => decide (x = y)) 56 53, ax_iload 5 54, ax_const 44 55, ax_icmp (fun x y => decide (¬ x = y)) 70 56, ax_aload 0 57, ax_iload 1 58, ax_iload 4 59, ax_const 1 60, ax_bin (fun x y => x + y) 61, ax_callV 7 99 2 62, ax_const 112 63, ax_iload 2 64, ax_bin (fun x y => x + y) 65, ax_icmp (fun x y => decide (¬ x = y)) 70 66, ax_iload 4 67, ax_const 3 68, ax_bin (fun x y => x + y) 69, ax_ret 0, ax_iinc 4 1 71, ax_goto 16, ax_const (-1) 73, ax_ret 0]
def ax_p106 : List ax_O := [ax_iload 2 1, ax_if (fun x => decide (x < 0)) 12 2, ax_iload 2 3, ax_const 5 4, ax_icmp (fun x y => decide (y < x)) 12 5, ax_aload 0 6, ax_iload 1 7, ax_iload 2 8, ax_callV 7 105 2 9, ax_if (fun x => decide (x < 0)) 12 10, ax_const 1 11, ax_goto 13, ax_const 0 13, ax_ret 1]
def ax_p107 : List ax_O := [ax_aload 0 1, ax_iload 1 2, ax_callV 7 103 1 3, ax_const 1 4, ax_icmp (fun x y => decide (¬ x = y)) 10 5, ax_aload 0 6, ax_iload 1 7, ax_iload 2 8, ax_callV 7 106 2 9, ax_if (fun x => decide (¬ x = 0)) 12 10, ax_const 0 11, ax_ret 1, ax_const 4 13, ax_iload 1 14, ax_bin (fun x y => x * y) 15, ax_aload 0 16, ax_iload 1 17, ax_callV 7 104 1 18, ax_bin (fun x y => x + y) 19, ax_istore 3 20, ax_aload 0 21, ax_get 7 17 22, ax_iload 3 23, ax_ald 0 24, ax_const 3 25, ax_icmp (fun x y => decide (¬ x = y)) 28 26, ax_const 0 27, ax_ret 1, ax_aload 0 29, ax_get 7 16 30, ax_const 3 31, ax_iload 3 32, ax_bin (fun x y => x * y) 33, ax_aload 0 34, ax_get 7 17 35, ax_iload 3 36, ax_ald 0 37, ax_bin (fun x y => x + y) 38, ax_iload 2 39, ax_ast 0 40, ax_aload 0 41, ax_get 7 17 42, ax_iload 3 43, ax_dup2 44, ax_ald 0 45, ax_const 1 46, ax_bin (fun x y => x + y) 47, ax_ast 0 48, ax_aload 0 49, ax_dup 50, ax_get 7 18 51, ax_const 1 52, ax_bin (fun x y => x + y) 53, ax_put 7 18 0 54, ax_aload 0 55, ax_iload 1 56, ax_aload 0 57, ax_iload 1 58, ax_iload 2 59, ax_callV 7 105 2 60, ax_callV 7 101 2 61, ax_const 1 62, ax_ret 1]
def ax_p108 : List ax_O := [ax_aload 0 1, ax_iload 1 2, ax_callV 7 103 1 3, ax_const 2 4, ax_icmp (fun x y => decide (x = y)) 7 5, ax_const (-1) 6, ax_ret 0, ax_const 4 8, ax_aload 0 9, ax_iload 1 10, ax_callV 7 104 1 11, ax_bin (fun x y => x * y) 12, ax_iload 1 13, ax_bin (fun x y => x + y) 14, ax_istore 2 15, ax_aload 0 16, ax_get 7 17 17, ax_iload 2 18, ax_ald 0 19, ax_if (fun x => decide (¬ x = 0)) 22 20, ax_const (-1) 21, ax_ret 0, ax_aload 0 23, ax_get 7 16 24, ax_const 3 25, ax_iload 2 26, ax_bin (fun x y => x * y) 27, ax_ald 0 28, ax_istore 3 29, ax_aload 0 30, ax_iload 1 31, ax_iload 3 32, ax_callV 7 106 2 33, ax_if (fun x => decide (¬ x = 0)) 36 34, ax_const (-2) 35, ax_ret 0, ax_aload 0 37, ax_get 7 16 38, ax_const 3 39, ax_iload 2 40, ax_bin (fun x y => x * y) 41, ax_aload 0 42, ax_get 7 16 43, ax_const 3 44, ax_iload 2 45, ax_bin (fun x y => x * y) 46, ax_const 1 47, ax_bin (fun x y => x + y) 48, ax_ald 0 49, ax_ast 0 50, ax_aload 0 51, ax_get 7 16 52, ax_const 3 53, ax_iload 2 54, ax_bin (fun x y => x * y) 55, ax_const 1 56, ax_bin (fun x y => x + y) 57, ax_aload 0 58, ax_get 7 16 59, ax_const 3 60, ax_iload 2 61, ax_bin (fun x y => x * y) 62, ax_const 2 63, ax_bin (fun x y => x + y) 64, ax_ald 0 65, ax_ast 0 66, ax_aload 0 67, ax_get 7 17 68, ax_iload 2 69, ax_dup2 70, ax_ald 0 71, ax_const 1 72, ax_bin (fun x y => x - y) 73, ax_ast 0 74, ax_aload 0 75, ax_dup 76, ax_get 7 18 77, ax_const 1 78, ax_bin (fun x y => x + y) 79, ax_put 7 18 0 80, ax_aload 0 81, ax_iload 1 82, ax_aload 0 83, ax_iload 1 84, ax_iload 3 85, ax_callV 7 105 2 86, ax_callV 7 101 2 87, ax_iload 3 88, ax_ret 0]
def ax_p109 : List ax_O := [ax_aload 0 1, ax_get 7 14 2, ax_if (fun x => decide (x = 0)) 18 3, ax_iload 1 4, ax_callS 95 1 5, ax_if (fun x => decide (x = 0)) 18 6, ax_iload 2 7, ax_callS 95 1 8, ax_if (fun x => decide (x = 0)) 18 9, ax_aload 0 10, ax_get 7 17 11, ax_const 4 12, ax_iload 1 13, ax_bin (fun x y => x * y) 14, ax_iload 2 15, ax_bin (fun x y => x + y) 16, ax_ald 0 17, ax_goto 19, ax_const (-1) 19, ax_ret 0]
def ax_p110 : List ax_O := [ax_iload 3 1, ax_if (fun x => decide (x < 0)) 21 2, ax_iload 3 3, ax_aload 0 4, ax_iload 1 5, ax_iload 2 6, ax_callV 7 109 2 7, ax_icmp (fun x y => decide (y ≤ x)) 21 8, ax_aload 0 9, ax_get 7 16 10, ax_const 3 11, ax_const 4 12, ax_iload 1 13, ax_bin (fun x y => x * y) 14, ax_iload 2 15, ax_bin (fun x y => x + y) 16, ax_bin (fun x y => x * y) 17, ax_iload 3 18, ax_bin (fun x y => x + y) 19, ax_ald 0 20, ax_goto 22, ax_const (-1) 22, ax_ret 0]
def ax_p111 : List ax_O := [ax_aload 0 1, ax_get 7 14 2, ax_if (fun x => decide (x = 0)) 6 3, ax_aload 0 4, ax_get 7 18 5, ax_goto 7, ax_const (-1) 7, ax_ret 0]
def ax_p112 : List ax_O := [ax_aload 0 1, ax_iload 1 2, ax_callV 7 103 1 3, ax_const 1 4, ax_icmp (fun x y => decide (¬ x = y)) 21 5, ax_aload 0 6, ax_get 7 17 7, ax_const 4 8, ax_iload 1 9, ax_bin (fun x y => x * y) 10, ax_aload 0 11, ax_iload 1 12, ax_callV 7 104 1 13, ax_bin (fun x y => x + y) 14, ax_ald 0 15, ax_const 3 16, ax_icmp (fun x y => decide (y ≤ x)) 19 17, ax_const 1 18, ax_goto 20, ax_const 0 20, ax_ret 1, ax_aload 0 22, ax_iload 1 23, ax_callV 7 103 1 24, ax_const 2 25, ax_icmp (fun x y => decide (¬ x = y)) 46 26, ax_aload 0 27, ax_aload 0 28, ax_iload 1 29, ax_callV 7 104 1 30, ax_iload 1 31, ax_callV 7 109 2 32, ax_if (fun x => decide (x ≤ 0)) 46 33, ax_aload 0 34, ax_iload 1 35, ax_aload 0 36, ax_aload 0 37, ax_iload 1 38, ax_callV 7 104 1 39, ax_iload 1 40, ax_const 0 41, ax_callV 7 110 3 42, ax_callV 7 106 2 43, ax_if (fun x => decide (x = 0)) 46 44, ax_const 1 45, ax_goto 47, ax_const 0 47, ax_ret 1]
def ax_p113 : List ax_O := [ax_const 0 1, ax_istore 1 2, ax_const 0 3, ax_istore 2 4, ax_iload 2 5, ax_const 4 6, ax_icmp (fun x y => decide (y ≤ x)) 19 7, ax_iload 1 8, ax_aload 0 9, ax_iload 2 10, ax_callV 7 112 1 11, ax_if (fun x => decide (x = 0)) 14 12, ax_const 1 13, ax_goto 15, ax_const 0 15, ax_bin (fun x y => x + y) 16, ax_istore 1 17, ax_iinc 2 1 18, ax_goto 4, ax_aload 0 20, ax_get 7 14 21, ax_if (fun x => decide (x = 0)) 24 22, ax_iload 1 23, ax_goto 25, ax_const (-1) 25, ax_ret 0]
def ax_p114 : List ax_O := [ax_aload 0 1, ax_get 7 14 2, ax_istore 1 3, ax_const 0 4, ax_istore 2 5, ax_iload 2 6, ax_const 4 7, ax_icmp (fun x y => decide (y ≤ x)) 20 8, ax_iload 1 9, ax_if (fun x => decide (x = 0)) 16 10, ax_aload 0 11, ax_iload 2 12, ax_callV 7 103 1 13, ax_if (fun x => decide (¬ x = 0)) 16 14, ax_const 1 15, ax_goto 17, ax_const 0 17, ax_istore 1 18, ax_iinc 2 1 19, ax_goto 5, ax_const 0 21, ax_istore 2 22, ax_iload 2 23, ax_const 16 24, ax_icmp (fun x y => decide (y ≤ x)) 38 25, ax_iload 1 26, ax_if (fun x => decide (x = 0)) 34 27, ax_aload 0 28, ax_get 7 17 29, ax_iload 2 30, ax_ald 0 31, ax_if (fun x => decide (¬ x = 0)) 34 32, ax_const 1 33, ax_goto 35, ax_const 0 35, ax_istore 1 36, ax_iinc 2 1 37, ax_goto 22, ax_iload 1 39, ax_ret 1]
def ax_p115 : List ax_O := [ax_new 6 [.inr none, .inr none, .inr none, .inr none, .inr none, .inr none, .inl 0, .inl 0, .inl 0] 1, ax_dup 2, ax_callI 46 0 3, ax_astore 1 4, ax_new 7 [.inl 0, .inr none, .inl 0, .inr none, .inr none, .inr none, .inr none, .inr none, .inr none, .inr none, .inl 0, .inl 0, .inr none, .inr none, .inl 0, .inr none, .inr none, .inr none, .inl 0] 5, ax_dup 6, ax_callI 75 0 7, ax_astore 2 8, ax_const 0 9, ax_istore 3 10, ax_iload 3 11, ax_aload 0 12, ax_slen 13, ax_const 4 14, ax_bin (fun x y => x - y) 15, ax_icmp (fun x y => decide (y < x)) 298 16, ax_aload 0 17, ax_iload 3 18, ax_sld 19, ax_const 15 20, ax_bin (fun x y => x &&& y) 21, ax_sw [(0, 22), (1, 41), (2, 48), (3, 55), (4, 72), (5, 99), (6, 106), (7, 123), (8, 140), (9, 167), (10, 194), (11, 211), (12, 238), (13, 275), (14, 282), (15, 289)] 296, ax_aload 1 23, ax_aload 0 24, ax_iload 3 25, ax_const 1 26, ax_bin (fun x y => x + y) 27, ax_sld 28, ax_un (fun x => (x.toUInt32 % 65536).toInt32) 29, ax_callV 6 47 1 30, ax_aload 2 31, ax_aload 0 32, ax_iload 3 33, ax_const 1 34, ax_bin (fun x y => x + y) 35, ax_sld 36, ax_un (fun x => (x.toUInt32 % 65536).toInt32) 37, ax_callV 7 76 1 38, ax_icmp (fun x y => decide (x = y)) 296 39, ax_const 0 40, ax_ret 1, ax_aload 1 42, ax_callV 6 48 0 43, ax_aload 2 44, ax_callV 7 94 0 45, ax_icmp (fun x y => decide (x = y)) 296 46, ax_const 0 47, ax_ret 1, ax_aload 1 49, ax_callV 6 49 0 50, ax_aload 2 51, ax_callV 7 96 0 52, ax_icmp (fun x y => decide (x = y)) 296 53, ax_const 0 54, ax_ret 1, ax_aload 1 56, ax_aload 0 57, ax_iload 3 58, ax_const 1 59, ax_bin (fun x y => x + y) 60, ax_sld 61, ax_callV 6 50 1 62, ax_aload 2 63, ax_aload 0 64, ax_iload 3 65, ax_const 1 66, ax_bin (fun x y => x + y) 67, ax_sld 68, ax_callV 7 97 1 69, ax_icmp (fun x y => decide (x = y)) 296 70, ax_const 0 71, ax_ret 1, ax_aload 1 73, ax_aload 0 74, ax_iload 3 75, ax_const 1 76, ax_bin (fun x y => x + y) 77, ax_sld 78, ax_aload 0 79, ax_iload 3 80, ax_const 2 81, ax_bin (fun x y => x + y) 82, ax_sld 83, ax_callV 6 51 2 84, ax_aload 2 85, ax_aload 0 86, ax_iload 3 87, ax_const 1 88, ax_bin (fun x y => x + y) 89, ax_sld 90, ax_aload 0 91, ax_iload 3 92, ax_const 2 93, ax_bin (fun x y => x + y) 94, ax_sld 95, ax_callV 7 98 2 96, ax_icmp (fun x y => decide (x = y)) 296 97, ax_const 0 98, ax_ret 1, ax_aload 1 100, ax_callV 6 52 0 101, ax_aload 2 102, ax_callV 7 102 0 103, ax_icmp (fun x y => decide (x = y)) 296 104, ax_const 0 105, ax_ret 1, ax_aload 1 107, ax_aload 0 108, ax_iload 3 109, ax_const 1 110, ax_bin (fun x y => x + y) 111, ax_sld 112, ax_callV 6 53 1 113, ax_aload 2 114, ax_aload 0 115, ax_iload 3 116, ax_const 1 117, ax_bin (fun x y => x + y) 118, ax_sld 119, ax_callV 7 103 1 120, ax_icmp (fun x y => decide (x = y)) 296 121, ax_const 0 122, ax_ret 1, ax_aload 1 124, ax_aload 0 125, ax_iload 3 126, ax_const 1 127, ax_bin (fun x y => x + y) 128, ax_sld 129, ax_callV 6 54 1 130, ax_aload 2 131, ax_aload 0 132, ax_iload 3 133, ax_const 1 134, ax_bin (fun x y => x + y) 135, ax_sld 136, ax_callV 7 104 1 137, ax_icmp (fun x y => decide (x = y)) 296 138, ax_const 0 139, ax_ret 1, ax_aload 1 141, ax_aload 0 142, ax_iload 3 143, ax_const 1 144, ax_bin (fun x y => x + y) 145, ax_sld 146, ax_aload 0 147, ax_iload 3 148, ax_const 2 149, ax_bin (fun x y => x + y) 150, ax_sld 151, ax_callV 6 55 2 152, ax_aload 2 153, ax_aload 0 154, ax_iload 3 155, ax_const 1 156, ax_bin (fun x y => x + y) 157, ax_sld 158, ax_aload 0 159, ax_iload 3 160, ax_const 2 161, ax_bin (fun x y => x + y) 162, ax_sld 163, ax_callV 7 106 2 164, ax_icmp (fun x y => decide (x = y)) 296 165, ax_const 0 166, ax_ret 1, ax_aload 1 168, ax_aload 0 169, ax_iload 3 170, ax_const 1 171, ax_bin (fun x y => x + y) 172, ax_sld 173, ax_aload 0 174, ax_iload 3 175, ax_const 2 176, ax_bin (fun x y => x + y) 177, ax_sld 178, ax_callV 6 56 2 179, ax_aload 2 180, ax_aload 0 181, ax_iload 3 182, ax_const 1 183, ax_bin (fun x y => x + y) 184, ax_sld 185, ax_aload 0 186, ax_iload 3 187, ax_const 2 188, ax_bin (fun x y => x + y) 189, ax_sld 190, ax_callV 7 107 2 191, ax_icmp (fun x y => decide (x = y)) 296 192, ax_const 0 193, ax_ret 1, ax_aload 1 195, ax_aload 0 196, ax_iload 3 197, ax_const 1 198, ax_bin (fun x y => x + y) 199, ax_sld 200, ax_callV 6 57 1 201, ax_aload 2 202, ax_aload 0 203, ax_iload 3 204, ax_const 1 205, ax_bin (fun x y => x + y) 206, ax_sld 207, ax_callV 7 108 1 208, ax_icmp (fun x y => decide (x = y)) 296 209, ax_const 0 210, ax_ret 1, ax_aload 1 212, ax_aload 0 213, ax_iload 3 214, ax_const 1 215, ax_bin (fun x y => x + y) 216, ax_sld 217, ax_aload 0 218, ax_iload 3 219, ax_const 2 220, ax_bin (fun x y => x + y) 221, ax_sld 222, ax_callV 6 58 2 223, ax_aload 2 224, ax_aload 0 225, ax_iload 3 226, ax_const 1 227, ax_bin (fun x y => x + y) 228, ax_sld 229, ax_aload 0 230, ax_iload 3 231, ax_const 2 232, ax_bin (fun x y => x + y) 233, ax_sld 234, ax_callV 7 109 2 235, ax_icmp (fun x y => decide (x = y)) 296 236, ax_const 0 237, ax_ret 1, ax_aload 1 239, ax_aload 0 240, ax_iload 3 241, ax_const 1 242, ax_bin (fun x y => x + y) 243, ax_sld 244, ax_aload 0 245, ax_iload 3 246, ax_const 2 247, ax_bin (fun x y => x + y) 248, ax_sld 249, ax_aload 0 250, ax_iload 3 251, ax_const 3 252, ax_bin (fun x y => x + y) 253, ax_sld 254, ax_callV 6 59 3 255, ax_aload 2 256, ax_aload 0 257, ax_iload 3 258, ax_const 1 259, ax_bin (fun x y => x + y) 260, ax_sld 261, ax_aload 0 262, ax_iload 3 263, ax_const 2 264, ax_bin (fun x y => x + y) 265, ax_sld 266, ax_aload 0 267, ax_iload 3 268, ax_const 3 269, ax_bin (fun x y => x + y) 270, ax_sld 271, ax_callV 7 110 3 272, ax_icmp (fun x y => decide (x = y)) 296 273, ax_const 0 274, ax_ret 1, ax_aload 1 276, ax_callV 6 60 0 277, ax_aload 2 278, ax_callV 7 111 0 279, ax_icmp (fun x y => decide (x = y)) 296 280, ax_const 0 281, ax_ret 1, ax_aload 1 283, ax_callV 6 61 0 284, ax_aload 2 285, ax_callV 7 113 0 286, ax_icmp (fun x y => decide (x = y)) 296 287, ax_const 0 288, ax_ret 1, ax_aload 1 290, ax_callV 6 62 0 291, ax_aload 2 292, ax_callV 7 114 0 293, ax_icmp (fun x y => decide (x = y)) 296 294, ax_const 0 295, ax_ret 1, ax_iinc 3 4 297, ax_goto 10, ax_const 1 299, ax_ret 1]
def ax_ms : List (MethodName × ByteArray × Nat × Option FieldType) := [(yX0_init, cX0_init, 1, none), (yX0_faultOf, cX0_faultOf, 3, (some .int)), (yX0_next, cX0_next, 2, (some .int)), (yX0_nextInProtocol, cX0_nextInProtocol, 2, (some .int)), (yX0_nextAtBrace, cX0_nextAtBrace, 2, (some .int)), (yX0_nextAfterProtocol, cX0_nextAfterProtocol, 2, (some .int)), (yX1_init, cX1_init, 4, none), (yX1_writePart, cX1_writePart, 1, (some .boolean)), (yX1_writeProtocol, cX1_writeProtocol, 3, (some .boolean)), (yX1_writeLoop, cX1_writeLoop, 4, (some .boolean)), (yX1_closeLoop, cX1_closeLoop, 3, (some .boolean)), (yX1_writeMessage, cX1_writeMessage, 4, (some .boolean)), (yX1_writeOwnBranches, cX1_writeOwnBranches, 4, (some .boolean)), (yX1_writeCommonPart, cX1_writeCommonPart, 5, (some .boolean)), (yX2_init, cX2_init, 2, none), (yX2_toBeginning, cX2_toBeginning, 1, none), (yX2_action, cX2_action, 1, (some .int)), (yX2_otherRole, cX2_otherRole, 2, (some .int)), (yX2_behindLabel, cX2_behindLabel, 5, (some .int)), (yX2_follow, cX2_follow, 3, (some .boolean)), (yX2_goOnAtOnce, cX2_goOnAtOnce, 3, none), (yX2_bodyOfLoop, cX2_bodyOfLoop, 3, (some .int)), (yX3_init, cX3_init, 1, none), (yX3_size, cX3_size, 1, (some .int)), (yX3_isFull, cX3_isFull, 1, (some .boolean)), (yX3_get, cX3_get, 2, (some .int)), (yX3_clear, cX3_clear, 1, none), (yX3_append, cX3_append, 2, none), (yX3_removeFirst, cX3_removeFirst, 2, none), (yX4_init, cX4_init, 1, none), (yX4_holdsFor, cX4_holdsFor, 3, (some .boolean)), (yX4_isSoundAt, cX4_isSoundAt, 5, (some .boolean)), (yX4_openLoop, cX4_openLoop, 3, (some .boolean)), (yX4_openMessage, cX4_openMessage, 1, (some .boolean)), (yX4_openBranch, cX4_openBranch, 3, (some .boolean)), (yX4_isLoopAroundMessage, cX4_isLoopAroundMessage, 3, (some .boolean)), (yX4_isInBounds, cX4_isInBounds, 1, (some .boolean)), (yX5_init, cX5_init, 1, none), (yX5_size, cX5_size, 1, (some .int)), (yX5_get, cX5_get, 2, (some .char)), (yX5_append, cX5_append, 2, (some .boolean)), (yX5_insert, cX5_insert, 4, (some .boolean)), (yX5_shorten, cX5_shorten, 2, none), (yX5_countOf, cX5_countOf, 4, (some .int)), (yX5_hasFrom, cX5_hasFrom, 4, (some .boolean)), (yX5_isTwice, cX5_isTwice, 5, (some .boolean)), (yX6_init, cX6_init, 3, none), (yX6_type, cX6_type, 2, (some .boolean)), (yX6_define, cX6_define, 2, (some .int)), (yX6_messages, cX6_messages, 1, (some .int)), (yX6_length, cX6_length, 2, (some .int)), (yX6_charAt, cX6_charAt, 3, (some .int)), (yX6_begin, cX6_begin, 2, (some .boolean)), (yX6_act, cX6_act, 3, (some .int)), (yX6_partner, cX6_partner, 3, (some .int)), (yX6_offers, cX6_offers, 4, (some .boolean)), (yX6_send, cX6_send, 5, (some .boolean)), (yX6_receive, cX6_receive, 5, (some .int)), (yX6_onTheWay, cX6_onTheWay, 4, (some .int)), (yX6_labelAt, cX6_labelAt, 5, (some .int)), (yX6_moves, cX6_moves, 1, (some .int)), (yX6_ready, cX6_ready, 3, (some .int)), (yX6_over, cX6_over, 1, (some .boolean)), (yX6_judgeTyped, cX6_judgeTyped, 2, (some .int)), (yX6_adoptTyped, cX6_adoptTyped, 2, none), (yX6_hasPart, cX6_hasPart, 2, (some .boolean)), (yX6_playing, cX6_playing, 2, (some (.object "RoleParts$Player"))), (yX6_rowBetween, cX6_rowBetween, 4, (some (.object "RoleParts$Row"))), (yX6_canGoOn, cX6_canGoOn, 5, (some .boolean)), (yX6_allEnded, cX6_allEnded, 2, (some .boolean)), (yX6_nothingOnTheWay, cX6_nothingOnTheWay, 2, (some .boolean)), (yX6_isRoleNumber, cX6_isRoleNumber, 1, (some .boolean)), (yX6_isRole, cX6_isRole, 1, (some .boolean)), (yX6_isLabel, cX6_isLabel, 1, (some .boolean)), (yX6_isVariable, cX6_isVariable, 1, (some .boolean)), (yX7_init, cX7_init, 1, none), (yX7_type, cX7_type, 2, (some .boolean)), (yX7_isVariable, cX7_isVariable, 1, (some .boolean)), (yX7_isRole, cX7_isRole, 1, (some .boolean)), (yX7_isLabel, cX7_isLabel, 1, (some .boolean)), (yX7_piece, cX7_piece, 6, (some .int)), (yX7_ended, cX7_ended, 3, (some .int)), (yX7_afterStart, cX7_afterStart, 1, (some .int)), (yX7_read, cX7_read, 9, (some .int)), (yX7_bound, cX7_bound, 4, (some .boolean)), (yX7_single, cX7_single, 3, (some .boolean)), (yX7_apart, cX7_apart, 3, (some .boolean)), (yX7_sound, cX7_sound, 2, (some .boolean)), (yX7_put, cX7_put, 3, none), (yX7_copy, cX7_copy, 4, none), (yX7_same, cX7_same, 5, (some .boolean)), (yX7_loopPart, cX7_loopPart, 7, none), (yX7_messagePart, cX7_messagePart, 10, none), (yX7_project, cX7_project, 3, none), (yX7_define, cX7_define, 4, (some .int)), (yX7_isNumber, cX7_isNumber, 1, (some .boolean)), (yX7_messages, cX7_messages, 1, (some .int)), (yX7_length, cX7_length, 2, (some .int)), (yX7_charAt, cX7_charAt, 3, (some .int)), (yX7_sign, cX7_sign, 3, (some .int)), (yX7_loopOf, cX7_loopOf, 8, (some .int)), (yX7_settle, cX7_settle, 6, none), (yX7_begin, cX7_begin, 3, (some .boolean)), (yX7_act, cX7_act, 3, (some .int)), (yX7_partner, cX7_partner, 2, (some .int)), (yX7_branchOf, cX7_branchOf, 6, (some .int)), (yX7_offers, cX7_offers, 3, (some .boolean)), (yX7_send, cX7_send, 4, (some .boolean)), (yX7_receive, cX7_receive, 4, (some .int)), (yX7_onTheWay, cX7_onTheWay, 3, (some .int)), (yX7_labelAt, cX7_labelAt, 4, (some .int)), (yX7_moves, cX7_moves, 1, (some .int)), (yX7_canGo, cX7_canGo, 2, (some .boolean)), (yX7_ready, cX7_ready, 3, (some .int)), (yX7_over, cX7_over, 3, (some .boolean)), (yL_law, cL_law, 4, (some .boolean))]
def ax_mt (j : Nat) : MethodName × ByteArray × Nat × Option FieldType := ax_ms.getD j (yL_law, cL_law, 4, none)
def ax_y (j : Nat) : MethodName := (ax_mt j).1
def ax_code (j : Nat) : ByteArray := (ax_mt j).2.1
def ax_nL (j : Nat) : Nat := (ax_mt j).2.2.1
def ax_rt0 (j : Nat) : Option FieldType := (ax_mt j).2.2.2
def ax_pcs : List (List Nat) := [[0, 1, 4, 5, 6, 9, 10, 11, 14], [0, 1, 2, 5, 6, 7, 10, 11, 12, 13, 14, 17, 20, 21, 22, 23, 24, 27, 30, 33, 34, 37, 39, 42, 43, 44, 47, 50, 51, 54, 56, 59, 60, 63, 66, 67, 70, 71, 74], [0, 1, 4, 44, 45, 46, 49, 50, 51, 54, 57, 58, 61, 63, 64, 65, 68, 71, 72, 75, 77, 78, 79, 80, 83, 84, 85, 88, 91, 92, 95, 97, 98, 99, 101, 104, 105, 108, 110, 111, 112, 113, 116], [0, 1, 3, 6, 7, 10, 13, 15, 16, 17, 19, 22, 23, 24, 25, 28, 31, 32, 35, 37], [0, 1, 3, 6, 8, 9, 10, 11, 14, 15, 16, 19, 20], [0, 1, 4, 7, 9, 10, 11, 13, 16, 17, 18, 19, 21, 24, 26, 27, 28, 29, 32, 33, 34, 37, 39], [0, 1, 4, 5, 6, 9, 10, 11, 14, 15, 16, 19, 20, 21, 24], [0, 1, 2, 5, 6, 9, 10, 13, 14, 15, 18], [0, 1, 3, 6, 7, 8, 9, 12, 13, 16, 19, 20, 21, 23, 26, 27, 28, 31, 32, 33, 36, 39, 40, 41, 44, 45, 46, 47, 50, 51, 52, 55, 56, 59, 60, 63], [0, 1, 4, 5, 8, 9, 10, 13, 14, 15, 18, 21, 22, 23, 24, 27, 28, 29, 32, 33, 34, 35, 36, 39, 42, 43, 44, 45, 48, 51, 52, 55, 56], [0, 1, 4, 7, 8, 9, 10, 13, 14, 17, 18, 21, 22, 25, 26, 29, 30, 33, 34, 37, 39, 42, 43, 44, 47, 48, 49, 52, 55, 56, 57, 58, 61, 62, 64, 67, 70, 71, 74, 75, 76, 79, 82, 83, 86, 87, 89, 92, 95, 96, 99, 100], [0, 1, 4, 5, 8, 11, 12, 13, 16, 17, 20, 21, 22, 25, 26, 27, 28, 31, 32, 33, 36, 37, 40, 41, 44, 45, 48, 49, 52, 55, 56, 59, 61, 64, 67, 68, 69, 72, 75, 76, 79, 80, 81, 82, 85, 86, 89, 90, 93, 94, 97, 100, 101, 104, 106, 109, 112, 113, 114, 117, 120, 121, 124, 125, 126, 127, 128, 131], [0, 1, 2, 3, 5, 8, 9, 12, 13, 16, 19, 21, 24, 25, 26, 27, 28, 31, 32, 35, 36, 39, 40, 43, 44, 45, 48, 51, 52, 55, 58, 59, 60, 63, 64, 65, 68, 69, 70, 71, 72, 75, 78, 79, 80, 83, 86, 87, 88, 91, 92, 93, 96, 97, 100, 102, 105], [0, 1, 4, 7, 8, 9, 10, 11, 13, 15, 17, 20, 21, 24, 25, 28, 31, 33, 36, 37, 38, 41, 42, 43, 46, 47, 48, 49, 50, 53, 56, 57, 58, 60, 63, 64, 67, 70, 71, 74, 75, 78, 79, 80, 83, 86, 87, 88, 89, 92, 93, 96, 99, 102, 103, 104, 107, 108, 109, 112, 113], [0, 1, 4, 5, 6, 9, 10, 11, 14, 15, 16, 19], [0, 1, 2, 5, 6, 9], [0, 1, 4, 5, 8, 11, 14, 17, 18, 19, 20, 23, 24, 27, 28, 29, 32, 34, 37, 38, 41, 42], [0, 1, 4, 5, 8, 11, 12, 13, 16, 19, 20, 22, 23, 26, 27], [0, 1, 4, 5, 7, 10, 11, 14, 17, 18, 19, 20, 21, 22, 25, 26, 27, 28, 29, 30, 33, 36, 39, 40, 43, 44, 47, 49, 51, 53, 56, 59, 60, 61, 64, 66, 68, 71, 73, 75, 78, 79, 82, 83, 84, 85, 88, 90, 91, 92, 95, 96, 97, 98, 99, 101, 103, 106, 109, 110, 113, 114, 115, 118, 121, 122], [0, 1, 2, 5, 6, 7, 8, 11, 12, 13, 14, 15, 18, 19, 22, 23], [0, 1, 2, 3, 5, 8, 9, 12, 13, 16, 19, 20, 21, 23, 26, 27, 28, 31, 32, 33, 36, 39, 40, 43, 46, 47, 48, 49, 52, 55, 58, 59, 62, 65], [0, 1, 4, 5, 6, 7, 8, 11, 12, 15, 16, 19, 21, 24, 25, 28, 29, 30, 31, 34, 35, 38, 39, 40, 41, 42, 45, 48, 49, 52], [0, 1, 4, 5, 6, 8, 11, 12, 13, 16], [0, 1, 4], [0, 1, 4, 5, 8, 9, 12, 13], [0, 1, 4, 5, 6, 9, 12, 13, 16, 17, 18, 21, 22], [0, 1, 2, 5], [0, 1, 4, 5, 8, 9, 12, 13, 16, 17, 18, 19, 20, 23, 24, 25, 28], [0, 1, 2, 3, 4, 7, 10, 11, 14, 15, 16, 17, 18, 21, 22, 23, 24, 27, 30, 31, 34, 37, 38, 39, 42, 43, 44, 47], [0, 1, 4, 5, 7, 9, 12, 13, 15, 17, 20, 21, 22, 25, 26, 27, 30], [0, 1, 2, 5, 6, 7, 10, 11, 14, 15, 16, 17, 18, 19, 20, 21, 24, 27, 28, 29, 30, 33, 36, 37, 38, 41, 44, 45], [0, 1, 2, 5, 6, 7, 48, 49, 50, 51, 52, 53, 56, 59, 60, 61, 62, 63, 64, 67, 68, 69, 70, 71, 74, 77, 78, 81, 84, 85, 86, 87, 88, 89, 92, 95, 98, 99, 102, 103, 104, 105, 106, 107, 108, 109, 112, 115, 116, 117, 118, 121, 122, 123, 126, 127, 130, 131, 132, 135, 138, 139, 140, 141, 142, 145, 147, 150, 151, 154, 155, 157, 159, 162, 163, 164, 167, 170, 171, 174, 175], [0, 1, 2, 4, 5, 6, 7, 8, 11, 12, 13, 16, 17, 18, 19, 20, 23, 24, 25, 28, 29], [0, 1, 2, 5, 6, 7, 10, 11, 14, 17, 18, 19, 20, 23, 24, 27, 28, 31, 32, 33, 36, 37, 40, 41, 42, 43], [0, 1, 2, 4, 5, 6, 7, 8, 11, 14, 15, 18, 19, 22, 23, 24, 25, 28, 29, 30, 31, 34, 35, 38, 39, 40, 41, 42, 43, 44, 45, 48, 49, 52, 53, 56, 57], [0, 1, 2, 4, 5, 6, 7, 8, 11, 14, 15, 18, 19, 22, 23, 24, 25, 28, 29, 32, 33], [0, 1, 4, 7, 8, 11, 13, 16, 17, 20, 21], [0, 1, 4, 5, 7, 9, 12, 13, 14, 17], [0, 1, 4], [0, 1, 4, 5, 6, 9, 12, 13, 16, 17, 18, 21, 22], [0, 1, 2, 5, 6, 9], [0, 1, 4, 6, 9, 10, 13, 14, 15, 18, 21, 22, 23, 24, 27, 28, 29, 30, 33, 34, 37, 38, 39, 42, 43, 44, 45, 46, 47, 50, 53, 54, 57, 58, 59, 60, 61, 62, 65, 66, 67, 70, 71], [0, 1, 4, 5, 6, 9, 12, 13, 14, 17], [0, 1, 2, 3, 4, 5, 6, 9, 12, 13, 14, 17, 18, 21, 24, 27, 30, 31], [0, 1, 2, 3, 4, 7, 10, 11, 12, 15, 16, 19, 20, 21, 24, 27, 28], [0, 1, 2, 3, 4, 5, 8, 9, 10, 11, 14, 15, 16, 17, 19, 21, 22, 25, 26, 27, 29, 30, 33, 34, 35, 37, 38, 41, 44, 45, 46, 49, 52, 53], [0, 1, 4, 5, 8, 9, 12, 15, 16, 19, 20, 23, 26, 27, 30, 31, 34, 37, 38, 39, 42, 45, 46, 47, 50, 53, 54, 56, 59, 62, 63, 64, 67, 68, 69, 72, 73, 74, 77, 78, 79, 80, 81, 84, 87, 88, 91, 92, 93, 96, 97, 100, 101, 102, 105, 106, 107, 110, 111, 114, 115, 116, 119, 121, 122, 123, 124, 125, 128, 129, 132, 135, 136, 137, 138, 140, 143, 144, 147, 148, 151, 152, 155, 156, 159, 162], [0, 1, 3, 6, 7, 9, 12, 13, 16, 17, 20, 23, 24, 27, 28], [0, 1, 4, 5, 6, 7, 10, 11, 14, 15, 18, 19, 22, 23], [0, 1, 4], [0, 1, 2, 5, 8, 9, 12, 13, 14, 17, 20, 23, 24], [0, 1, 2, 5, 8, 9, 12, 13, 14, 17, 18, 19, 22, 25, 28, 29, 30, 31, 34, 35, 36, 39, 40, 43], [0, 1, 2, 3, 4, 7, 8, 9, 12, 15, 16, 17, 20, 23, 24, 25, 26, 27, 30, 31, 34, 35, 36, 39, 42, 45, 46, 47, 48, 50, 53, 54, 57, 58, 59, 62, 65, 68, 69, 70, 73, 74, 75, 78, 79], [0, 1, 2, 5, 6, 7, 10, 11, 14, 15, 18], [0, 1, 2, 5, 6, 7, 10, 11, 14, 15, 18], [0, 1, 2, 5, 6, 7, 10, 11, 12, 15, 16, 19, 20, 23, 24], [0, 1, 2, 5, 6, 7, 10, 11, 14, 15, 18, 19, 20, 21, 22, 23, 26, 29, 31, 33, 36, 38, 41, 44, 45, 46, 49, 52, 53, 54, 56, 57, 60, 61, 62, 65, 66, 67, 70, 71], [0, 1, 2, 5, 6, 7, 10, 11, 14, 15, 18, 19, 20, 21, 22, 25, 26, 29, 30, 31, 34, 35, 38, 41, 42, 43, 44, 45, 48, 50, 51, 53, 56, 59, 61, 62, 63, 66, 67, 68, 71, 72, 73, 76, 78], [0, 1, 2, 3, 6, 7, 8, 11, 12, 15, 16, 19], [0, 1, 2, 3, 6, 8, 10, 13, 14, 17, 19, 20, 23], [0, 1, 4, 7, 8, 11, 14, 15], [0, 1, 4, 7, 8, 9, 10, 11, 12, 13, 14, 15, 18, 19, 20, 23, 26, 29, 32, 35, 36], [0, 1, 4, 7, 8, 11, 14, 15, 18, 21, 22, 25, 26], [0, 1, 4, 5, 8, 11, 12, 13, 14, 17, 18, 19, 20, 23, 24, 27, 30, 33, 34, 37, 39], [0, 1, 2, 5, 7, 10, 13, 14, 15, 16, 17, 20, 21, 24, 25, 26, 27, 30, 31, 32, 35, 38, 41, 44, 45, 46, 49], [0, 1, 4, 7, 8, 11, 12, 13, 16, 19, 20, 23, 24], [0, 1, 4, 7, 8, 11, 14, 15, 18, 19, 20, 23, 24], [0, 1, 4, 7, 8, 11, 14, 15, 18, 21, 22, 25, 26, 27, 28, 31, 32, 35, 36, 37, 38, 39, 40, 41, 44, 45], [0, 1, 2, 5, 6, 7, 10, 11, 12, 13, 16, 17, 18, 19, 22, 23, 24, 25, 28, 31, 33, 35, 38, 40, 43, 46, 47, 50, 51, 52, 53, 54, 57, 58, 59, 62, 63, 66, 68, 70, 73, 74, 76, 77, 80, 83, 84, 87, 88, 91, 92, 93, 94], [0, 1, 2, 3, 4, 7, 8, 11, 12, 13, 16, 19, 20, 21, 24, 27, 28], [0, 1, 2, 3, 5, 8, 9, 12, 13, 14, 17, 20, 21, 22, 25, 28, 29], [0, 1, 4, 5, 6, 9, 10, 13, 14], [0, 1, 3, 6, 7, 9, 12, 13, 16, 17], [0, 1, 3, 6, 7, 9, 12, 13, 16, 17], [0, 1, 3, 6, 7, 9, 12, 13, 16, 17], [0, 1, 4, 5, 7, 9, 12, 13, 15, 17, 20, 21, 23, 25, 28, 29, 31, 33, 36, 37, 39, 41, 44, 45, 47, 49, 52, 53, 56, 58, 61, 62, 65, 67, 70, 71, 74, 76, 79, 80, 81, 83, 86, 87, 88, 90, 93, 94, 96, 98, 101, 102, 104, 106, 109], [0, 1, 3, 6, 7, 9, 12, 13, 16, 18, 21, 22, 23, 24, 27, 28, 31, 32, 33, 34, 35, 38, 39, 40, 43, 44], [0, 1, 3, 6, 7, 9, 12, 13, 16, 17], [0, 1, 3, 6, 7, 9, 12, 13, 16, 17], [0, 1, 3, 6, 7, 9, 12, 13, 16, 17], [0, 1, 4, 5, 8, 9, 10, 11, 14, 15, 18, 19, 20, 21, 24, 25, 28, 29, 30, 31, 34, 35, 38, 40, 41, 42, 45, 46, 49, 51, 52, 53, 54, 57, 58, 59, 62, 63, 66, 67, 68], [0, 1, 2, 3, 6, 7, 10, 11, 12, 13, 16, 17, 20, 21, 22, 23, 26, 27], [0, 1, 3, 6, 7, 10, 13, 15, 18, 19, 21, 24, 25, 28, 29, 32, 35, 36, 39, 40], [0, 1, 2, 5, 6, 7, 8, 9, 10, 11, 12, 14, 15, 17, 18, 20, 22, 23, 26, 29, 30, 33, 35, 36, 38, 39, 41, 42, 45, 47, 50, 52, 54, 56, 59, 60, 63, 64, 66, 68, 69, 71, 73, 76, 77, 79, 81, 84, 85, 88, 89, 91, 92, 93, 95, 98, 99, 100, 101, 104, 105, 108, 109, 110, 113, 115, 118, 121, 122, 123, 125, 126, 127, 129, 132, 133, 134, 136, 139, 140, 141, 144, 146, 149, 152, 153, 154, 155, 157, 158, 160, 163, 164, 165, 167, 170, 171, 172, 175, 177, 179, 182, 183, 185, 188, 189, 190, 193, 195, 197, 200, 201, 203, 206, 207, 208, 211, 213, 216, 219, 221, 223, 224, 226, 229, 230, 232, 235, 237, 239, 242, 243, 245, 248, 249, 251, 254, 256, 258, 261, 262, 263, 266, 267, 268, 271, 272, 274, 276, 278, 281, 283, 284, 286, 288, 291, 292, 295, 297, 300, 302, 303, 306, 309, 310, 312, 315, 316, 319, 320, 323], [0, 1, 2, 3, 6, 7, 8, 9, 10, 13, 14, 17, 18, 19, 20, 23, 24, 27, 28, 29, 30, 33, 34, 35, 38, 39, 40, 41, 44, 45, 48, 49, 50, 51, 54, 55, 58, 59, 60, 61, 64, 65, 66, 67, 70, 71], [0, 1, 4, 5, 6, 7, 8, 11, 12, 15, 16, 17, 18, 21, 22, 25, 26, 27, 28, 31, 32, 33, 36, 37, 38, 39, 42, 43, 44, 45, 48, 49], [0, 1, 2, 3, 4, 7, 10, 11, 12, 15, 16, 19, 20, 21, 22, 25, 26, 27, 30, 31, 34, 35, 36, 37, 40, 41, 42, 45, 46, 47, 50, 53, 54], [0, 1, 2, 3, 4, 7, 10, 11, 14, 15, 16, 17, 20, 21, 22, 25, 28, 29, 32, 33, 34, 35, 38, 39, 40, 43, 46, 47, 50, 51, 52, 53, 56, 57, 60, 61, 62, 63, 66, 67, 68, 71, 72, 73, 74, 77, 78, 79, 82, 83, 86, 87, 90, 91, 92, 93, 94, 97, 98, 99, 102, 105, 106, 107, 110, 113, 114], [0, 1, 4, 6, 7, 8, 9, 12, 13, 14, 15, 16, 17, 18, 19, 22, 23, 24, 25, 26, 27, 28], [0, 1, 2, 3, 4, 7, 8, 9, 12, 13, 14, 15, 18, 20, 21, 22, 23, 24, 25, 28, 31, 34], [0, 1, 4, 5, 6, 7, 10, 11, 12, 15, 16, 19, 20, 21, 22, 24, 26, 27, 30, 31, 32, 35, 36, 39, 40, 43, 45, 46, 47, 49, 50, 51, 52, 55, 57, 58, 59, 61, 62, 63, 66, 67, 70, 71, 72, 75, 78, 79], [0, 1, 2, 3, 4, 5, 6, 7, 8, 9, 10, 11, 12, 13, 15, 16, 18, 19, 21, 23, 24, 27, 29, 30, 33, 35, 38, 39, 42, 44, 46, 47, 49, 50, 51, 52, 55, 56, 57, 60, 61, 64, 65, 67, 70, 73, 74, 77, 79, 80, 83, 84, 87, 88, 89, 90, 93, 95, 98, 99, 102, 104, 105, 106, 109, 110, 111, 113, 116, 119, 121, 124, 125, 126, 128, 131, 132, 133, 134, 137, 138, 139, 142, 143, 144, 146, 149, 150, 152, 153, 156], [0, 1, 2, 3, 4, 5, 6, 7, 10, 11, 12, 14, 15, 16, 19, 20, 23, 24, 26, 28, 31, 32, 35, 36, 37, 39, 40, 41, 44, 45, 48, 49, 51, 52, 54, 55, 57, 59, 62, 63, 64, 66, 69, 70, 73, 74, 75, 78, 79, 82, 83, 84, 87, 88, 89, 91, 94, 96, 99, 101, 104, 105, 106, 107, 109, 111, 112, 115, 118, 120, 123, 124, 127, 129, 130, 131, 134, 137, 138, 140, 141, 142, 143, 145, 146, 149, 151, 152, 155, 157, 160, 162, 165, 166, 168, 170, 173, 176, 177, 180, 181, 183, 185, 188, 190, 193, 194, 195, 197, 200, 202, 205, 207, 210, 211, 212, 213, 216, 218, 219, 222, 223, 224, 226, 229, 230, 232, 233, 236, 238, 240, 243, 246, 248, 251, 252, 255, 256, 257, 258, 261, 263, 266, 267, 268, 270, 273, 276, 277, 279, 280, 283], [0, 1, 4, 5, 6, 7, 8, 11, 12, 13, 14, 15, 18, 19, 22, 23, 24, 25, 26, 27, 28, 29, 30, 33, 34, 35, 36, 39, 40, 41, 42, 45, 48, 49, 52, 53, 54, 55, 58, 59, 60, 61, 64, 67, 68, 69, 70, 71, 72, 73, 74, 77, 78, 79, 82, 85, 88, 91, 94], [0, 1, 4, 5, 6, 7, 10, 11, 14, 15, 16, 17, 20, 23, 25, 26, 27, 30, 31, 32, 35, 36, 37, 38, 39, 42, 45, 46, 47, 50, 51, 54, 55, 56, 57, 60, 61, 64, 65, 66, 69, 72, 75, 76, 77, 78, 79, 82, 83, 86, 87, 88, 91, 92, 93, 94, 95, 96, 97, 98, 101, 102, 103, 106, 107, 110, 112, 113, 114, 115, 116, 117, 120, 122, 123, 124, 125, 126, 127, 128, 131, 134, 137, 140, 141, 142, 145, 146, 147, 150, 151], [0, 1, 4, 5, 6, 9, 10, 13, 14], [0, 1, 4, 7, 8, 11, 14, 15], [0, 1, 4, 7, 8, 11, 14, 15, 18, 19, 20, 23, 24], [0, 1, 4, 7, 8, 11, 14, 15, 18, 19, 20, 23, 24, 25, 28, 29, 32, 34, 35, 36, 37, 38, 39, 42, 43], [0, 1, 2, 5, 6, 7, 10, 11, 14, 16, 17, 18, 19, 20, 21, 24, 25], [0, 1, 3, 4, 6, 7, 8, 9, 11, 13, 16, 17, 18, 20, 23, 25, 27, 29, 32, 35, 38, 40, 42, 45, 47, 50, 53, 56, 58, 60, 63, 64, 66, 69, 71, 73, 76, 78, 81, 82, 84, 87, 89, 91, 94, 96, 99, 101, 104, 105, 106, 108, 109, 110, 113, 114, 117, 119, 120, 123, 126, 127], [0, 1, 2, 3, 5, 7, 9, 12, 13, 14, 15, 18, 20, 22, 24, 27, 30, 33, 35, 38, 41, 42, 43, 44, 46, 49, 50, 53, 56, 57, 60, 61, 62, 63], [0, 1, 4, 5, 6, 7, 8, 9, 12, 13, 16, 17, 20, 21, 22, 25, 26, 29, 30, 31, 34, 37, 38, 41, 42, 43, 44, 45, 48, 49, 50, 53, 54, 55, 56, 57, 60, 61, 62, 63, 66, 69, 72, 73, 74, 75, 77, 80, 81, 84, 85, 86, 87, 90, 93, 94], [0, 1, 4, 7, 8, 11, 14, 15, 16, 17, 18, 19, 22, 23, 24, 25, 26, 29, 30, 31, 32, 33, 36, 37, 38, 41, 43, 46, 47, 50, 51, 53, 56, 57, 60, 61], [0, 1, 2, 5, 6, 9, 10, 13, 14, 15, 16, 19, 20, 21, 24, 26, 27], [0, 1, 2, 5, 6, 9, 10, 11, 12, 13, 14, 17, 18, 19, 20, 21, 23, 25, 26, 29, 30, 31, 34, 35, 36, 38, 41, 43, 45, 47, 50, 51, 52, 53, 56, 58, 60, 63, 64, 65, 66, 69, 70, 71, 72, 75, 76, 77, 78, 79, 82, 84, 86, 89, 91, 93, 96, 97, 98, 100, 101, 102, 105, 107, 108, 109, 112, 114, 115, 116, 117, 120, 123, 124], [0, 1, 4, 5, 6, 9, 10, 11, 12, 15, 18, 19, 22, 23], [0, 1, 2, 5, 6, 9, 10, 11, 12, 15, 18, 19, 20, 21, 22, 23, 24, 25, 28, 29, 30, 31, 34, 35, 36, 37, 40, 41, 42, 43, 46, 47, 48, 49, 50, 53, 54, 55, 56, 57, 58, 59, 62, 63, 64, 65, 66, 67, 68, 69, 70, 73, 74, 75, 78, 79, 80, 81, 82, 83, 86, 89, 90], [0, 1, 2, 5, 6, 9, 10, 11, 12, 13, 14, 17, 18, 19, 20, 21, 22, 25, 26, 27, 30, 31, 32, 33, 36, 37, 38, 39, 40, 41, 42, 43, 44, 47, 50, 52, 53, 54, 57, 58, 59, 60, 61, 64, 65, 66, 67, 68, 69, 70, 71, 72, 75, 76, 77, 78, 79, 80, 81, 84, 85, 86, 87, 88, 89, 90, 91, 92, 95, 96, 97, 98, 99, 100, 101, 102, 103, 106, 107, 108, 111, 112, 113, 114, 115, 116, 119, 122, 123], [0, 1, 4, 7, 8, 11, 14, 15, 18, 21, 22, 25, 26, 27, 28, 29, 30, 31, 34, 35], [0, 1, 4, 5, 6, 7, 8, 11, 14, 15, 18, 19, 20, 21, 22, 23, 24, 25, 26, 27, 28, 31, 32], [0, 1, 4, 7, 8, 11, 14, 15], [0, 1, 2, 5, 6, 9, 10, 13, 14, 15, 16, 17, 18, 21, 22, 23, 24, 27, 28, 31, 32, 33, 34, 35, 38, 39, 42, 43, 44, 45, 48, 49, 52, 55, 56, 57, 58, 59, 60, 63, 64, 65, 68, 71, 74, 75, 78, 79], [0, 1, 2, 3, 4, 5, 6, 9, 10, 11, 12, 15, 18, 19, 22, 23, 24, 25, 28, 31, 32, 35, 38, 39, 42, 43], [0, 1, 4, 5, 6, 7, 8, 9, 12, 13, 16, 17, 18, 21, 24, 25, 28, 29, 30, 33, 36, 37, 38, 39, 41, 44, 45, 48, 49, 52, 53, 54, 57, 58, 61, 62, 63, 66, 69, 70], [0, 3, 4, 7, 8, 11, 12, 15, 16, 17, 18, 19, 20, 21, 22, 23, 26, 27, 28, 29, 31, 32, 112, 113, 114, 115, 116, 117, 118, 119, 122, 123, 124, 125, 126, 127, 128, 129, 132, 135, 136, 137, 138, 141, 142, 145, 148, 149, 150, 151, 154, 155, 158, 161, 162, 163, 164, 165, 166, 167, 168, 169, 172, 173, 174, 175, 176, 177, 178, 181, 184, 185, 186, 187, 188, 189, 190, 191, 192, 193, 194, 195, 196, 197, 200, 201, 202, 203, 204, 205, 206, 207, 208, 209, 210, 211, 214, 217, 218, 219, 220, 223, 224, 227, 230, 231, 232, 233, 234, 235, 236, 237, 238, 241, 242, 243, 244, 245, 246, 247, 250, 253, 254, 255, 256, 257, 258, 259, 260, 261, 264, 265, 266, 267, 268, 269, 270, 273, 276, 277, 278, 279, 280, 281, 282, 283, 284, 285, 286, 287, 288, 289, 292, 293, 294, 295, 296, 297, 298, 299, 300, 301, 302, 303, 306, 309, 310, 311, 312, 313, 314, 315, 316, 317, 318, 319, 320, 321, 322, 325, 326, 327, 328, 329, 330, 331, 332, 333, 334, 335, 336, 339, 342, 343, 344, 345, 346, 347, 348, 349, 350, 353, 354, 355, 356, 357, 358, 359, 362, 365, 366, 367, 368, 369, 370, 371, 372, 373, 374, 375, 376, 377, 378, 381, 382, 383, 384, 385, 386, 387, 388, 389, 390, 391, 392, 395, 398, 399, 400, 401, 402, 403, 404, 405, 406, 407, 408, 409, 410, 411, 412, 413, 414, 415, 416, 419, 420, 421, 422, 423, 424, 425, 426, 427, 428, 429, 430, 431, 432, 433, 434, 435, 438, 441, 442, 443, 444, 447, 448, 451, 454, 455, 456, 457, 460, 461, 464, 467, 468, 469, 470, 473, 474, 477, 480, 481, 482, 485, 488, 489]]
def ax_pc (j i : Nat) : Nat := (ax_pcs.getD j []).getD i 0
def ax_ops : List (List ax_O) := [ax_p0, ax_p1, ax_p2, ax_p3, ax_p4, ax_p5, ax_p6, ax_p7, ax_p8, ax_p9, ax_p10, ax_p11, ax_p12, ax_p13, ax_p14, ax_p15, ax_p16, ax_p17, ax_p18, ax_p19, ax_p20, ax_p21, ax_p22, ax_p23, ax_p24, ax_p25, ax_p26, ax_p27, ax_p28, ax_p29, ax_p30, ax_p31, ax_p32, ax_p33, ax_p34, ax_p35, ax_p36, ax_p37, ax_p38, ax_p39, ax_p40, ax_p41, ax_p42, ax_p43, ax_p44, ax_p45, ax_p46, ax_p47, ax_p48, ax_p49, ax_p50, ax_p51, ax_p52, ax_p53, ax_p54, ax_p55, ax_p56, ax_p57, ax_p58, ax_p59, ax_p60, ax_p61, ax_p62, ax_p63, ax_p64, ax_p65, ax_p66, ax_p67, ax_p68, ax_p69, ax_p70, ax_p71, ax_p72, ax_p73, ax_p74, ax_p75, ax_p76, ax_p77, ax_p78, ax_p79, ax_p80, ax_p81, ax_p82, ax_p83, ax_p84, ax_p85, ax_p86, ax_p87, ax_p88, ax_p89, ax_p90, ax_p91, ax_p92, ax_p93, ax_p94, ax_p95, ax_p96, ax_p97, ax_p98, ax_p99, ax_p100, ax_p101, ax_p102, ax_p103, ax_p104, ax_p105, ax_p106, ax_p107, ax_p108, ax_p109, ax_p110, ax_p111, ax_p112, ax_p113, ax_p114, ax_p115]
def ax_P (j i : Nat) : ax_O := (ax_ops.getD j []).getD i ax_no
end
section
/-! How the small machine's things are the JVM's. -/
/-- the classes' numbers and slots, the array classes, where the new cells begin, where the script is -/
abbrev ax_Z : Type := va_G × (Nat → ClassId) × Nat × Nat
def ax_ad (z : ax_Z) (k : Nat) : Nat := match k with
  | 0 => z.2.2.2
  | k + 1 => z.2.2.1 + k
def ax_cv (z : ax_Z) (v : ax_V) : Value := match v with
  | .inl x => .int x
  | .inr r => va_rf (r.map (ax_ad z))
def ax_cc (z : ax_Z) (c : ax_C) : va_E := match c with
  | .inl (t, n, .inl f) => .inl (z.2.1 t, n, .inl f)
  | .inl (t, n, .inr f) => .inl (z.2.1 t, n, .inr (.inr (.inr (.inr (fun j => (f j).map (ax_ad z))))))
  | .inr (ci, fs) => .inr (ci, fs.map (ax_cv z))
def ax_rel (z : ax_Z) (h : ax_H) (U : State) (H : Heap) : Prop :=
  H.size + 1 = z.2.2.1 + h.1 ∧ 0 < h.1 ∧ z.2.2.2 < z.2.2.1 ∧ (∀ k, k + 1 < h.1 → va_at z.1 vwCl (z.2.2.1 + k, ax_cc z (h.2.2 (k + 1))) H) ∧ ∃ (L : Nat) (xs : Nat → Int32), h.2.2 0 = .inl (9, L, .inl xs) ∧ va_X z.2.2.2 L xs U H
theorem ax_rel.moved {z : ax_Z} {h : ax_H} {u U : State} {H : Heap} (hvm : u.vm.Alike U.vm) (r : ax_rel z h u H) : ax_rel z h U H := by
  obtain ⟨a, b, c, d, L, xs, e, f⟩ := r
  exact ⟨a, b, c, d, L, xs, e, f.moved hvm⟩
theorem ax_rel.at {z : ax_Z} {h : ax_H} {U : State} {H : Heap} (r : ax_rel z h U H) {o : Nat} (h0 : 0 < o) (h1 : o < h.1) : va_at z.1 vwCl (ax_ad z o, ax_cc z (h.2.2 o)) H := by
  obtain ⟨k, rfl⟩ : ∃ k, o = k + 1 := ⟨o - 1, by omega⟩
  exact r.2.2.2.1 k h1
theorem ax_ad_inj {z : ax_Z} (hz : z.2.2.2 < z.2.2.1) {a b : Nat} (h : ax_ad z a = ax_ad z b) : a = b := by
  cases a with
  | zero => cases b with
    | zero => rfl
    | succ b => have : z.2.2.2 = z.2.2.1 + b := h; omega
  | succ a => cases b with
    | zero => have : z.2.2.1 + a = z.2.2.2 := h; omega
    | succ b => have : z.2.2.1 + a = z.2.2.1 + b := h; omega
theorem ax_ad_ge {z : ax_Z} {o : Nat} (h : 0 < o) : z.2.2.1 ≤ ax_ad z o := by
  obtain ⟨k, rfl⟩ : ∃ k, o = k + 1 := ⟨o - 1, by omega⟩
  exact Nat.le_add_right _ _
/-- one cell is changed -/
theorem ax_rel.set {z : ax_Z} {h : ax_H} {U : State} {H H1 : Heap} (r : ax_rel z h U H) {o : Nat} (h0 : 0 < o) (c : ax_C) (hs : H1.size = H.size) (hc : va_at z.1 vwCl (ax_ad z o, ax_cc z c) H1) (hq : ∀ q, q ≠ ax_ad z o → H1[q]? = H[q]?) : ax_rel z (ax_set h o c) U H1 := by
  obtain ⟨a, b, hz, d, L, xs, e, f⟩ := r
  refine ⟨by rw [hs]; exact a, b, hz, fun k hk => ?_, L, xs, ?_, f.kept (hq _ ?_)⟩
  · show va_at z.1 vwCl (z.2.2.1 + k, ax_cc z (ax_up h.2.2 o c (k + 1))) H1
    by_cases hko : k + 1 = o
    · subst hko
      simp only [ax_up, if_true]
      exact hc
    · simp only [ax_up, hko, if_false]
      exact (d k hk).kept (hq _ (fun x => hko (ax_ad_inj hz (a := k + 1) (b := o) x)))
  · show ax_up h.2.2 o c 0 = _
    have : ¬ (0 = o) := by omega
    simp only [ax_up, this, if_false]
    exact e
  · intro x
    have := ax_ad_inj hz (a := 0) (b := o) x
    omega
/-- a new cell -/
theorem ax_rel.push {z : ax_Z} {h : ax_H} {U : State} {H H1 : Heap} (r : ax_rel z h U H) (n : Nat) (c : ax_C) (hs : H1.size = H.size + 1) (hc : va_at z.1 vwCl (H.size, ax_cc z c) H1) (hq : ∀ q, q < H.size → H1[q]? = H[q]?) : ax_rel z (ax_push h n c) U H1 := by
  obtain ⟨a, b, hz, d, L, xs, e, f⟩ := r
  refine ⟨by rw [hs]; show _ = _ + (h.1 + 1); omega, Nat.succ_pos _, hz, fun k hk => ?_, L, xs, ?_, f.kept (hq _ (by omega))⟩
  · show va_at z.1 vwCl (z.2.2.1 + k, ax_cc z (ax_up h.2.2 h.1 c (k + 1))) H1
    by_cases hko : k + 1 = h.1
    · simp only [ax_up, hko, if_true]
      rw [show z.2.2.1 + k = H.size by omega]
      exact hc
    · simp only [ax_up, hko, if_false]
      have hk2 : k + 1 < h.1 + 1 := hk
      exact (d k (by omega)).kept (hq _ (by show z.2.2.1 + k < _; omega))
  · show ax_up h.2.2 h.1 c 0 = _
    have : ¬ (0 = h.1) := by omega
    simp only [ax_up, this, if_false]
    exact e
theorem ax_rel.next {z : ax_Z} {h : ax_H} {U : State} {H : Heap} (r : ax_rel z h U H) : ax_ad z h.1 = H.size := by
  obtain ⟨a, b, -⟩ := r
  obtain ⟨k, hk⟩ : ∃ k, h.1 = k + 1 := ⟨h.1 - 1, by omega⟩
  rw [hk]
  show z.2.2.1 + k = _
  omega
/-- locals -/
def ax_lof (z : ax_Z) : Nat → ax_L → List (Nat × Value)
  | _, [] => []
  | k, none :: t => ax_lof z (k + 1) t
  | k, some v :: t => (k, ax_cv z v) :: ax_lof z (k + 1) t
theorem ax_lof_in {z : ax_Z} : ∀ (L : ax_L) (k i : Nat) (v : ax_V), L[i]? = some (some v) → (k + i, ax_cv z v) ∈ ax_lof z k L
  | [], k, i, v, h => by simp at h
  | x :: t, k, i, v, h => by
    cases i with
    | zero =>
      simp only [List.getElem?_cons_zero, Option.some.injEq] at h
      subst h
      exact List.mem_cons_self
    | succ i =>
      rw [List.getElem?_cons_succ] at h
      have := ax_lof_in (z := z) t (k + 1) i v h
      rw [show k + 1 + i = k + (i + 1) by omega] at this
      cases x with
      | none => exact this
      | some w => exact List.mem_cons_of_mem _ this
theorem ax_lof_of {z : ax_Z} : ∀ (L : ax_L) (k : Nat) (q : Nat × Value), q ∈ ax_lof z k L → ∃ (i : Nat) (v : ax_V), L[i]? = some (some v) ∧ q = (k + i, ax_cv z v)
  | [], k, q, h => by simp [ax_lof] at h
  | none :: t, k, q, h => by
    obtain ⟨i, v, a, b⟩ := ax_lof_of t (k + 1) q h
    exact ⟨i + 1, v, by rw [List.getElem?_cons_succ]; exact a, by rw [b]; congr 1; omega⟩
  | some w :: t, k, q, h => by
    rcases List.mem_cons.mp h with rfl | h
    · exact ⟨0, w, rfl, rfl⟩
    · obtain ⟨i, v, a, b⟩ := ax_lof_of t (k + 1) q h
      exact ⟨i + 1, v, by rw [List.getElem?_cons_succ]; exact a, by rw [b]; congr 1; omega⟩
theorem ax_lat {z : ax_Z} {ls : Array Slot} {nL : Nat} {L : ax_L} {i : Nat} {v : ax_V} (h : lv_has ls nL (ax_lof z 0 L)) (hi : L[i]? = some (some v)) : ls[i]? = some (.val (ax_cv z v)) := by
  have := h.2.2 _ (ax_lof_in L 0 i v hi)
  simpa using this
theorem ax_cat (z : ax_Z) (v : ax_V) : (ax_cv z v).category = 1 := by
  rcases v with x | _ | a <;> rfl
theorem ax_lset {z : ax_Z} {ls : Array Slot} {nL : Nat} {L : ax_L} {i : Nat} {v : ax_V} (h : lv_has ls nL ((i, ax_cv z v) :: (ax_lof z 0 L).filter (fun q => !(q.1 == i) && !(q.1 + 1 == i && q.2.category == 2)))) : lv_has ls nL (ax_lof z 0 (L.set i (some v))) := by
  refine ⟨h.1, h.2.1, fun q hq => ?_⟩
  obtain ⟨t, w, a, b⟩ := ax_lof_of _ _ _ hq
  rw [Nat.zero_add] at b
  subst b
  by_cases hti : t = i
  · subst hti
    rw [List.getElem?_set] at a
    simp only [if_true] at a
    split at a
    · cases a
      exact h.2.2 _ List.mem_cons_self
    · cases a
  · rw [List.getElem?_set_ne (Ne.symm hti)] at a
    refine h.2.2 _ (List.mem_cons_of_mem _ (List.mem_filter.mpr ⟨?_, ?_⟩))
    · have := ax_lof_in (z := z) L 0 t w a
      simpa using this
    · simp [hti, ax_cat]
theorem ax_lent {z : ax_Z} : ∀ (as : List ax_V) (k n : Nat) (q : Nat × Value), q ∈ ax_lof z k (as.map some ++ List.replicate n none) → q ∈ lv_args k (as.map (ax_cv z))
  | [], k, n, q, h => by
    obtain ⟨i, v, a, -⟩ := ax_lof_of _ _ _ h
    simp only [List.map_nil, List.nil_append] at a
    have := List.eq_of_mem_replicate (List.mem_of_getElem? a)
    cases this
  | v :: as, k, n, q, h => by
    have hc : ¬ (ax_cv z v).category = 2 := by rw [ax_cat]; decide
    simp only [List.map_cons, lv_args, hc, if_false]
    rcases List.mem_cons.mp h with rfl | h
    · exact List.mem_cons_self
    · exact List.mem_cons_of_mem _ (ax_lent as (k + 1) n q h)
/-- the words -/
def ax_ws : List Cond := lw_tbl.filter goodWord
theorem ax_wm {w : Cond} (h : w ∈ lw_tbl) (g : goodWord w = true) : w ∈ ax_ws := List.mem_filter.mpr ⟨h, g⟩
theorem ax_wt {w : Cond} (i : Nat) (h : tables_1[i]? = some w) (g : goodWord w = true) : w ∈ ax_ws := ax_wm (List.mem_append_right _ (List.mem_of_getElem? h)) g
theorem ax_wp {w : Cond} (i : Nat) (h : (k2_sels lw_privs)[i]? = some w) (g : goodWord w = true) : w ∈ ax_ws := ax_wm (List.mem_append_left _ (List.mem_of_getElem? h)) g
def ax_isNest (w : Cond) : Bool := match w with
  | .methodLinkNest .. => true
  | .fieldLinkNest .. => true
  | _ => false
def ax_nw : List Cond := tables_1.filter ax_isNest
theorem ax_nwm {w : Cond} (i : Nat) (h : tables_1[i]? = some w) (g : ax_isNest w = true) : w ∈ ax_nw := List.mem_filter.mpr ⟨List.mem_of_getElem? h, g⟩
def ax_ao : List String := [RX2, RX1, RX3]
def ax_tys (z : ax_Z) : List (ClassId × FieldType) := [(z.2.1 0, .int), (z.2.1 1, .char), (z.2.1 2, .object RX2), (z.2.1 3, .object RX1), (z.2.1 4, .object RX3)]
/-- what a method's body stands on -/
def ax_cx (z : ax_Z) (j : Nat) (p : Program) (s : State) (m : MethodId) (args : Array Value) (meth : Method) (c : Code) : Prop :=
  p.tables.exec = Jvm.exec ∧ c.code = ax_code j ∧ c.maxLocals = ax_nL j ∧ s.vm.findClass (ax_y j).cls = some m.cls ∧ (∀ w ∈ ax_ws, w.before args s = true) ∧ (∀ w ∈ ax_nw, va_Nw w s) ∧ (∀ C ∈ ax_ao, va_AO C s) ∧ va_K z.1 vwCl (ax_tys z) s ∧ ((ax_y j).name = "<init>" → meth.name = "<init>")
/-- the JVM at a place of the small machine comes to Q -/
def ax_W (p : Program) (l : Launch) (e : Env) (R : Room) (s : State) (m : MethodId) (args : Array Value) (below : List Frame) (meth : Method) (c : Code) (Q : State → Prop) (z : ax_Z) (n0 s0 nL pc : Nat) (L : ax_L) (st : List ax_V) (h : ax_H) : Prop :=
  ∀ (ls : Array Slot) (H : Heap) (locs : List Loc) (cells slots : Nat), lv_has ls nL (ax_lof z 0 L) → ax_rel z h s H → (∀ q ∈ locs, z.2.2.1 ≤ q.base) → cells + n0 = h.1 → slots + s0 = h.2.1 → W p l e R s m args below meth c H locs cells slots Q (F0 m pc ls (st.map (ax_cv z)))
/-- a step that isn't a call -/
def ax_OK (j pc : Nat) (o : ax_O) : Prop := ∀ (p : Program) (l : Launch) (e : Env) (R : Room) (s : State) (m : MethodId) (args : Array Value) (below : List Frame) (meth : Method) (c : Code) (Q : State → Prop) (z : ax_Z) (n0 s0 : Nat), ax_cx z j p s m args meth c → 1 ≤ R.frames → 20 ≤ R.locals →
  ∀ (L : ax_L) (st : List ax_V) (h : ax_H) (i' : Nat) (L' : ax_L) (st' : List ax_V) (h' : ax_H), o L st h = some (.inl (i', L', st', h')) → h'.1 ≤ R.cells + n0 → h'.2.1 ≤ R.slots + s0 → ax_W p l e R s m args below meth c Q z n0 s0 (ax_nL j) (ax_pc j i') L' st' h' → ax_W p l e R s m args below meth c Q z n0 s0 (ax_nL j) pc L st h
/-- a method's start and end -/
def ax_Pc (z : ax_Z) (as : List ax_V) (h : ax_H) : Array Value → State → Prop := va_Pc (as.map (ax_cv z)) (fun U => ax_rel z h U U.heap ∧ va_K z.1 vwCl (ax_tys z) U ∧ (∀ w ∈ ax_nw, va_Nw w U) ∧ (∀ C ∈ ax_ao, va_AO C U))
def ax_Qc (z : ax_Z) (r : Option ax_V) (h : ax_H) : Array Value → State → Outcome → State → Prop := fun _ _ o t => o = .returned (r.map (ax_cv z)) ∧ ax_rel z h t t.heap
def ax_wsm (j : Nat) : List Cond := Cond.code (ax_y j) (ax_code j) (ax_nL j) (ax_rt0 j) :: ax_ws
def ax_Met (l : Launch) (z : ax_Z) (d k : Nat) (as : List ax_V) (h : ax_H) (r : Option ax_V) (h' : ax_H) : Prop :=
  Met l (ax_y k) (ax_wsm k) { frames := d, cells := h'.1 - h.1, slots := h'.2.1 - h.2.1, locals := 60 * d } (ax_Pc z as h) (ax_Qc z r h') (h'.1 - h.1) (h'.2.1 - h.2.1) (fun q => z.2.2.1 ≤ q)
/-- a step that calls -/
def ax_OKc (j pc : Nat) (o : ax_O) : Prop := ∀ (p : Program) (l : Launch) (e : Env) (R : Room) (s : State) (m : MethodId) (args : Array Value) (below : List Frame) (meth : Method) (c : Code) (Q : State → Prop) (z : ax_Z) (n0 s0 d : Nat), ax_cx z j p s m args meth c → d + 1 ≤ R.frames → 60 * (d + 1) ≤ R.locals →
  ∀ (L : ax_L) (st : List ax_V) (h : ax_H) (k : Nat) (as : List ax_V) (i' : Nat) (L' : ax_L) (st' : List ax_V), o L st h = some (.inr (.inl (k, as, i', L', st'))) → ∀ (r : Option ax_V) (h' : ax_H), ax_Met l z d k as h r h' → h.1 ≤ h'.1 → h.2.1 ≤ h'.2.1 → h'.1 ≤ R.cells + n0 → h'.2.1 ≤ R.slots + s0 →
  ax_W p l e R s m args below meth c Q z n0 s0 (ax_nL j) (ax_pc j i') L' (r.toList ++ st') h' → ax_W p l e R s m args below meth c Q z n0 s0 (ax_nL j) pc L st h
/-- a step that returns -/
def ax_OKr (j pc : Nat) (o : ax_O) : Prop := ∀ (p : Program) (l : Launch) (e : Env) (R : Room) (s : State) (m : MethodId) (args : Array Value) (below : List Frame) (meth : Method) (c : Code) (z : ax_Z) (n0 s0 : Nat), ax_cx z j p s m args meth c → meth.locks = false → meth.sig.returnType = ax_rt0 j →
  ∀ (L : ax_L) (st : List ax_V) (h : ax_H) (r : Option ax_V), o L st h = some (.inr (.inr r)) → ax_W p l e R s m args below meth c (MQ below (ax_Qc z r h) args s (h.1 - n0) (h.2.1 - s0) (fun q => z.2.2.1 ≤ q)) z n0 s0 (ax_nL j) pc L st h
/-- the heap grows -/
def ax_gr (o : ax_O) : Prop := ∀ L st h x, o L st h = some (.inl x) → h.1 ≤ x.2.2.2.1 ∧ h.2.1 ≤ x.2.2.2.2.1
/-- a called method's arguments fit its locals -/
def ax_ln (o : ax_O) : Prop := ∀ L st h k as i' L' st', o L st h = some (.inr (.inl (k, as, i', L', st'))) → as.length ≤ ax_nL k ∧ plainName (ax_y k).cls = true
/-- all of them -/
def ax_Ok (j pc : Nat) (o : ax_O) : Prop := ax_OK j pc o ∧ ax_OKc j pc o ∧ ax_OKr j pc o ∧ ax_gr o ∧ ax_ln o
/-- no call and no return -/
def ax_pl (o : ax_O) : Prop := (∀ L st h x, o L st h ≠ some (.inr x)) ∧ ax_gr o
theorem ax_Ok.of {j pc : Nat} {o : ax_O} (hp : ax_pl o) (h : ax_OK j pc o) : ax_Ok j pc o :=
  ⟨h, fun _ _ _ _ _ _ _ _ _ _ _ _ _ _ _ _ _ _ _ _ _ _ _ _ _ _ q => absurd q (hp.1 _ _ _ _), fun _ _ _ _ _ _ _ _ _ _ _ _ _ _ _ _ _ _ _ _ q => absurd q (hp.1 _ _ _ _), hp.2, fun _ _ _ _ _ _ _ _ q => absurd q (hp.1 _ _ _ _)⟩
end
section
/-! Each kind of step is the JVM's. Printed by wip/whole/gen/emit_sound.py -/
theorem pl_const (a : Int32) (b : Nat) : ax_pl (ax_const a b) := by
  constructor
  · intro L st h x q
    unfold ax_const at q
    (repeat' split at q) <;> cases q
  · intro L st h x q
    unfold ax_const at q
    (repeat' split at q) <;> cases q <;> first | exact ⟨Nat.le_refl _, Nat.le_refl _⟩ | exact ⟨Nat.le_succ _, Nat.le_add_right _ _⟩
theorem pl_null (b : Nat) : ax_pl (ax_null b) := by
  constructor
  · intro L st h x q
    unfold ax_null at q
    (repeat' split at q) <;> cases q
  · intro L st h x q
    unfold ax_null at q
    (repeat' split at q) <;> cases q <;> first | exact ⟨Nat.le_refl _, Nat.le_refl _⟩ | exact ⟨Nat.le_succ _, Nat.le_add_right _ _⟩
theorem pl_iload (a b : Nat) : ax_pl (ax_iload a b) := by
  constructor
  · intro L st h x q
    unfold ax_iload at q
    (repeat' split at q) <;> cases q
  · intro L st h x q
    unfold ax_iload at q
    (repeat' split at q) <;> cases q <;> first | exact ⟨Nat.le_refl _, Nat.le_refl _⟩ | exact ⟨Nat.le_succ _, Nat.le_add_right _ _⟩
theorem pl_aload (a b : Nat) : ax_pl (ax_aload a b) := by
  constructor
  · intro L st h x q
    unfold ax_aload at q
    (repeat' split at q) <;> cases q
  · intro L st h x q
    unfold ax_aload at q
    (repeat' split at q) <;> cases q <;> first | exact ⟨Nat.le_refl _, Nat.le_refl _⟩ | exact ⟨Nat.le_succ _, Nat.le_add_right _ _⟩
theorem pl_istore (a b : Nat) : ax_pl (ax_istore a b) := by
  constructor
  · intro L st h x q
    unfold ax_istore at q
    (repeat' split at q) <;> cases q
  · intro L st h x q
    unfold ax_istore at q
    (repeat' split at q) <;> cases q <;> first | exact ⟨Nat.le_refl _, Nat.le_refl _⟩ | exact ⟨Nat.le_succ _, Nat.le_add_right _ _⟩
theorem pl_astore (a b : Nat) : ax_pl (ax_astore a b) := by
  constructor
  · intro L st h x q
    unfold ax_astore at q
    (repeat' split at q) <;> cases q
  · intro L st h x q
    unfold ax_astore at q
    (repeat' split at q) <;> cases q <;> first | exact ⟨Nat.le_refl _, Nat.le_refl _⟩ | exact ⟨Nat.le_succ _, Nat.le_add_right _ _⟩
theorem pl_iinc (a : Nat) (v : Int32) (b : Nat) : ax_pl (ax_iinc a v b) := by
  constructor
  · intro L st h x q
    unfold ax_iinc at q
    (repeat' split at q) <;> cases q
  · intro L st h x q
    unfold ax_iinc at q
    (repeat' split at q) <;> cases q <;> first | exact ⟨Nat.le_refl _, Nat.le_refl _⟩ | exact ⟨Nat.le_succ _, Nat.le_add_right _ _⟩
theorem pl_bin (f : Int32 → Int32 → Int32) (b : Nat) : ax_pl (ax_bin f b) := by
  constructor
  · intro L st h x q
    unfold ax_bin at q
    (repeat' split at q) <;> cases q
  · intro L st h x q
    unfold ax_bin at q
    (repeat' split at q) <;> cases q <;> first | exact ⟨Nat.le_refl _, Nat.le_refl _⟩ | exact ⟨Nat.le_succ _, Nat.le_add_right _ _⟩
theorem pl_un (f : Int32 → Int32) (b : Nat) : ax_pl (ax_un f b) := by
  constructor
  · intro L st h x q
    unfold ax_un at q
    (repeat' split at q) <;> cases q
  · intro L st h x q
    unfold ax_un at q
    (repeat' split at q) <;> cases q <;> first | exact ⟨Nat.le_refl _, Nat.le_refl _⟩ | exact ⟨Nat.le_succ _, Nat.le_add_right _ _⟩
theorem pl_dup (b : Nat) : ax_pl (ax_dup b) := by
  constructor
  · intro L st h x q
    unfold ax_dup at q
    (repeat' split at q) <;> cases q
  · intro L st h x q
    unfold ax_dup at q
    (repeat' split at q) <;> cases q <;> first | exact ⟨Nat.le_refl _, Nat.le_refl _⟩ | exact ⟨Nat.le_succ _, Nat.le_add_right _ _⟩
theorem pl_dup2 (b : Nat) : ax_pl (ax_dup2 b) := by
  constructor
  · intro L st h x q
    unfold ax_dup2 at q
    (repeat' split at q) <;> cases q
  · intro L st h x q
    unfold ax_dup2 at q
    (repeat' split at q) <;> cases q <;> first | exact ⟨Nat.le_refl _, Nat.le_refl _⟩ | exact ⟨Nat.le_succ _, Nat.le_add_right _ _⟩
theorem pl_pop (b : Nat) : ax_pl (ax_pop b) := by
  constructor
  · intro L st h x q
    unfold ax_pop at q
    (repeat' split at q) <;> cases q
  · intro L st h x q
    unfold ax_pop at q
    (repeat' split at q) <;> cases q <;> first | exact ⟨Nat.le_refl _, Nat.le_refl _⟩ | exact ⟨Nat.le_succ _, Nat.le_add_right _ _⟩
theorem pl_goto (b : Nat) : ax_pl (ax_goto b) := by
  constructor
  · intro L st h x q
    unfold ax_goto at q
    (repeat' split at q) <;> cases q
  · intro L st h x q
    unfold ax_goto at q
    (repeat' split at q) <;> cases q <;> first | exact ⟨Nat.le_refl _, Nat.le_refl _⟩ | exact ⟨Nat.le_succ _, Nat.le_add_right _ _⟩
theorem pl_slen (b : Nat) : ax_pl (ax_slen b) := by
  constructor
  · intro L st h x q
    unfold ax_slen at q
    (repeat' split at q) <;> cases q
  · intro L st h x q
    unfold ax_slen at q
    (repeat' split at q) <;> cases q <;> first | exact ⟨Nat.le_refl _, Nat.le_refl _⟩ | exact ⟨Nat.le_succ _, Nat.le_add_right _ _⟩
theorem pl_sld (b : Nat) : ax_pl (ax_sld b) := by
  constructor
  · intro L st h x q
    unfold ax_sld at q
    (repeat' split at q) <;> cases q
  · intro L st h x q
    unfold ax_sld at q
    (repeat' split at q) <;> cases q <;> first | exact ⟨Nat.le_refl _, Nat.le_refl _⟩ | exact ⟨Nat.le_succ _, Nat.le_add_right _ _⟩
theorem pl_aald (b : Nat) : ax_pl (ax_aald b) := by
  constructor
  · intro L st h x q
    unfold ax_aald at q
    (repeat' split at q) <;> cases q
  · intro L st h x q
    unfold ax_aald at q
    (repeat' split at q) <;> cases q <;> first | exact ⟨Nat.le_refl _, Nat.le_refl _⟩ | exact ⟨Nat.le_succ _, Nat.le_add_right _ _⟩
theorem pl_aast (b : Nat) : ax_pl (ax_aast b) := by
  constructor
  · intro L st h x q
    unfold ax_aast at q
    (repeat' split at q) <;> cases q
  · intro L st h x q
    unfold ax_aast at q
    (repeat' split at q) <;> cases q <;> first | exact ⟨Nat.le_refl _, Nat.le_refl _⟩ | exact ⟨Nat.le_succ _, Nat.le_add_right _ _⟩
theorem pl_obj (b : Nat) : ax_pl (ax_obj b) := by
  constructor
  · intro L st h x q
    unfold ax_obj at q
    (repeat' split at q) <;> cases q
  · intro L st h x q
    unfold ax_obj at q
    (repeat' split at q) <;> cases q <;> first | exact ⟨Nat.le_refl _, Nat.le_refl _⟩ | exact ⟨Nat.le_succ _, Nat.le_add_right _ _⟩
theorem pl_if (f : Int32 → Bool) (a b : Nat) : ax_pl (ax_if f a b) := by
  constructor
  · intro L st h x q
    unfold ax_if at q
    (repeat' split at q) <;> cases q
  · intro L st h x q
    unfold ax_if at q
    (repeat' split at q) <;> cases q <;> first | exact ⟨Nat.le_refl _, Nat.le_refl _⟩ | exact ⟨Nat.le_succ _, Nat.le_add_right _ _⟩
theorem pl_icmp (f : Int32 → Int32 → Bool) (a b : Nat) : ax_pl (ax_icmp f a b) := by
  constructor
  · intro L st h x q
    unfold ax_icmp at q
    (repeat' split at q) <;> cases q
  · intro L st h x q
    unfold ax_icmp at q
    (repeat' split at q) <;> cases q <;> first | exact ⟨Nat.le_refl _, Nat.le_refl _⟩ | exact ⟨Nat.le_succ _, Nat.le_add_right _ _⟩
theorem pl_ifnull (a b : Nat) : ax_pl (ax_ifnull a b) := by
  constructor
  · intro L st h x q
    unfold ax_ifnull at q
    (repeat' split at q) <;> cases q
  · intro L st h x q
    unfold ax_ifnull at q
    (repeat' split at q) <;> cases q <;> first | exact ⟨Nat.le_refl _, Nat.le_refl _⟩ | exact ⟨Nat.le_succ _, Nat.le_add_right _ _⟩
theorem pl_ifnonnull (a b : Nat) : ax_pl (ax_ifnonnull a b) := by
  constructor
  · intro L st h x q
    unfold ax_ifnonnull at q
    (repeat' split at q) <;> cases q
  · intro L st h x q
    unfold ax_ifnonnull at q
    (repeat' split at q) <;> cases q <;> first | exact ⟨Nat.le_refl _, Nat.le_refl _⟩ | exact ⟨Nat.le_succ _, Nat.le_add_right _ _⟩
theorem pl_ald (a b : Nat) : ax_pl (ax_ald a b) := by
  constructor
  · intro L st h x q
    unfold ax_ald at q
    (repeat' split at q) <;> cases q
  · intro L st h x q
    unfold ax_ald at q
    (repeat' split at q) <;> cases q <;> first | exact ⟨Nat.le_refl _, Nat.le_refl _⟩ | exact ⟨Nat.le_succ _, Nat.le_add_right _ _⟩
theorem pl_ast (a b : Nat) : ax_pl (ax_ast a b) := by
  constructor
  · intro L st h x q
    unfold ax_ast at q
    (repeat' split at q) <;> cases q
  · intro L st h x q
    unfold ax_ast at q
    (repeat' split at q) <;> cases q <;> first | exact ⟨Nat.le_refl _, Nat.le_refl _⟩ | exact ⟨Nat.le_succ _, Nat.le_add_right _ _⟩
theorem pl_newa (a b : Nat) : ax_pl (ax_newa a b) := by
  constructor
  · intro L st h x q
    unfold ax_newa at q
    (repeat' split at q) <;> cases q
  · intro L st h x q
    unfold ax_newa at q
    (repeat' split at q) <;> cases q <;> first | exact ⟨Nat.le_refl _, Nat.le_refl _⟩ | exact ⟨Nat.le_succ _, Nat.le_add_right _ _⟩
theorem pl_newq (a b : Nat) : ax_pl (ax_newq a b) := by
  constructor
  · intro L st h x q
    unfold ax_newq at q
    (repeat' split at q) <;> cases q
  · intro L st h x q
    unfold ax_newq at q
    (repeat' split at q) <;> cases q <;> first | exact ⟨Nat.le_refl _, Nat.le_refl _⟩ | exact ⟨Nat.le_succ _, Nat.le_add_right _ _⟩
theorem pl_sw (ks : List (Int × Nat)) (b : Nat) : ax_pl (ax_sw ks b) := by
  constructor
  · intro L st h x q
    unfold ax_sw at q
    (repeat' split at q) <;> cases q
  · intro L st h x q
    unfold ax_sw at q
    (repeat' split at q) <;> cases q <;> first | exact ⟨Nat.le_refl _, Nat.le_refl _⟩ | exact ⟨Nat.le_succ _, Nat.le_add_right _ _⟩
theorem pl_get (a k b : Nat) : ax_pl (ax_get a k b) := by
  constructor
  · intro L st h x q
    unfold ax_get at q
    (repeat' split at q) <;> cases q
  · intro L st h x q
    unfold ax_get at q
    (repeat' split at q) <;> cases q <;> first | exact ⟨Nat.le_refl _, Nat.le_refl _⟩ | exact ⟨Nat.le_succ _, Nat.le_add_right _ _⟩
theorem pl_put (a k t b : Nat) : ax_pl (ax_put a k t b) := by
  constructor
  · intro L st h x q
    unfold ax_put at q
    (repeat' split at q) <;> cases q
  · intro L st h x q
    unfold ax_put at q
    (repeat' split at q) <;> cases q <;> first | exact ⟨Nat.le_refl _, Nat.le_refl _⟩ | exact ⟨Nat.le_succ _, Nat.le_add_right _ _⟩
theorem pl_new (a : Nat) (fs : List ax_V) (b : Nat) : ax_pl (ax_new a fs b) := by
  constructor
  · intro L st h x q
    unfold ax_new at q
    (repeat' split at q) <;> cases q
  · intro L st h x q
    unfold ax_new at q
    (repeat' split at q) <;> cases q <;> first | exact ⟨Nat.le_refl _, Nat.le_refl _⟩ | exact ⟨Nat.le_succ _, Nat.le_add_right _ _⟩
theorem ok_iconst {j pc nx : Nat} {n : Int} {v : Int32} (hv : Int32.ofInt n = v) (hd : decode (ax_code j) pc = .ok (.iconst n, 1)) (hn : ax_pc j nx = pc + 1) : ax_Ok j pc (ax_const v nx) := by
  refine ax_Ok.of (pl_const _ _) ?_
  intro p l e R s m args below meth c Q z n0 s0 cx hfr hlo L st h i' L' st' h' ho hcz hsz kk ls H locs cells slots hl hr hq hc hs
  obtain ⟨hx, hb, hml, hown, hts, hnw, hao, hK, hini⟩ := cx
  cases ho
  rw [hn] at kk
  exact lv_iconst hx hb hd hv (kk ls H locs cells slots hl hr hq hc hs)

theorem ok_bipush {j pc nx : Nat} {n : Int} {v : Int32} (hv : (Int8.ofInt n).toInt32 = v) (hd : decode (ax_code j) pc = .ok (.bipush n, 2)) (hn : ax_pc j nx = pc + 2) : ax_Ok j pc (ax_const v nx) := by
  refine ax_Ok.of (pl_const _ _) ?_
  intro p l e R s m args below meth c Q z n0 s0 cx hfr hlo L st h i' L' st' h' ho hcz hsz kk ls H locs cells slots hl hr hq hc hs
  obtain ⟨hx, hb, hml, hown, hts, hnw, hao, hK, hini⟩ := cx
  cases ho
  rw [hn] at kk
  exact lv_bipush hx hb hd hv (kk ls H locs cells slots hl hr hq hc hs)

theorem ok_sipush {j pc nx : Nat} {n : Int} {v : Int32} (hv : (Int16.ofInt n).toInt32 = v) (hd : decode (ax_code j) pc = .ok (.sipush n, 3)) (hn : ax_pc j nx = pc + 3) : ax_Ok j pc (ax_const v nx) := by
  refine ax_Ok.of (pl_const _ _) ?_
  intro p l e R s m args below meth c Q z n0 s0 cx hfr hlo L st h i' L' st' h' ho hcz hsz kk ls H locs cells slots hl hr hq hc hs
  obtain ⟨hx, hb, hml, hown, hts, hnw, hao, hK, hini⟩ := cx
  cases ho
  rw [hn] at kk
  exact lv_sipush hx hb hd hv (kk ls H locs cells slots hl hr hq hc hs)

theorem ok_null {j pc nx : Nat} (hd : decode (ax_code j) pc = .ok (.aconst_null, 1)) (hn : ax_pc j nx = pc + 1) : ax_Ok j pc (ax_null nx) := by
  refine ax_Ok.of (pl_null _) ?_
  intro p l e R s m args below meth c Q z n0 s0 cx hfr hlo L st h i' L' st' h' ho hcz hsz kk ls H locs cells slots hl hr hq hc hs
  obtain ⟨hx, hb, hml, hown, hts, hnw, hao, hK, hini⟩ := cx
  cases ho
  rw [hn] at kk
  exact lv_null hx hb hd (kk ls H locs cells slots hl hr hq hc hs)

theorem ok_iload_n {j pc i nx : Nat} {k : Fin 4} (hk : (k : Nat) = i) (hd : decode (ax_code j) pc = .ok (.iload_n k, 1)) (hn : ax_pc j nx = pc + 1) : ax_Ok j pc (ax_iload i nx) := by
  refine ax_Ok.of (pl_iload _ _) ?_
  intro p l e R s m args below meth c Q z n0 s0 cx hfr hlo L st h i' L' st' h' ho hcz hsz kk ls H locs cells slots hl hr hq hc hs
  obtain ⟨hx, hb, hml, hown, hts, hnw, hao, hK, hini⟩ := cx
  unfold ax_iload at ho
  split at ho
  · next x hxx =>
    cases ho
    rw [hn] at kk
    exact lv_iload_n hx hb hd hk (ax_lat hl hxx) (kk ls H locs cells slots hl hr hq hc hs)
  · cases ho

theorem ok_iload {j pc i nx : Nat} (hd : decode (ax_code j) pc = .ok (.iload i, 2)) (hn : ax_pc j nx = pc + 2) : ax_Ok j pc (ax_iload i nx) := by
  refine ax_Ok.of (pl_iload _ _) ?_
  intro p l e R s m args below meth c Q z n0 s0 cx hfr hlo L st h i' L' st' h' ho hcz hsz kk ls H locs cells slots hl hr hq hc hs
  obtain ⟨hx, hb, hml, hown, hts, hnw, hao, hK, hini⟩ := cx
  unfold ax_iload at ho
  split at ho
  · next x hxx =>
    cases ho
    rw [hn] at kk
    exact lv_iload hx hb hd (ax_lat hl hxx) (kk ls H locs cells slots hl hr hq hc hs)
  · cases ho

theorem ok_aload_n {j pc i nx : Nat} {k : Fin 4} (hk : (k : Nat) = i) (hd : decode (ax_code j) pc = .ok (.aload_n k, 1)) (hn : ax_pc j nx = pc + 1) : ax_Ok j pc (ax_aload i nx) := by
  refine ax_Ok.of (pl_aload _ _) ?_
  intro p l e R s m args below meth c Q z n0 s0 cx hfr hlo L st h i' L' st' h' ho hcz hsz kk ls H locs cells slots hl hr hq hc hs
  obtain ⟨hx, hb, hml, hown, hts, hnw, hao, hK, hini⟩ := cx
  unfold ax_aload at ho
  split at ho
  · next x hxx =>
    cases ho
    rw [hn] at kk
    have hz := ax_lat hl hxx
    cases x with
    | none => exact lv_aload_nN hx hb hd hk hz (kk ls H locs cells slots hl hr hq hc hs)
    | some a => exact lv_aload_n hx hb hd hk hz (kk ls H locs cells slots hl hr hq hc hs)
  · cases ho

theorem ok_aload {j pc i nx : Nat} (hd : decode (ax_code j) pc = .ok (.aload i, 2)) (hn : ax_pc j nx = pc + 2) : ax_Ok j pc (ax_aload i nx) := by
  refine ax_Ok.of (pl_aload _ _) ?_
  intro p l e R s m args below meth c Q z n0 s0 cx hfr hlo L st h i' L' st' h' ho hcz hsz kk ls H locs cells slots hl hr hq hc hs
  obtain ⟨hx, hb, hml, hown, hts, hnw, hao, hK, hini⟩ := cx
  unfold ax_aload at ho
  split at ho
  · next x hxx =>
    cases ho
    rw [hn] at kk
    have hz := ax_lat hl hxx
    cases x with
    | none => exact lv_aloadN hx hb hd hz (kk ls H locs cells slots hl hr hq hc hs)
    | some a => exact lv_aload hx hb hd hz (kk ls H locs cells slots hl hr hq hc hs)
  · cases ho

theorem ok_istore_n {j pc i nx : Nat} {k : Fin 4} (hk : (k : Nat) = i) (hi : i < ax_nL j) (hd : decode (ax_code j) pc = .ok (.istore_n k, 1)) (hn : ax_pc j nx = pc + 1) : ax_Ok j pc (ax_istore i nx) := by
  refine ax_Ok.of (pl_istore _ _) ?_
  intro p l e R s m args below meth c Q z n0 s0 cx hfr hlo L st h i' L' st' h' ho hcz hsz kk ls H locs cells slots hl hr hq hc hs
  obtain ⟨hx, hb, hml, hown, hts, hnw, hao, hK, hini⟩ := cx
  unfold ax_istore at ho
  split at ho
  · next x t =>
    cases ho
    rw [hn] at kk
    exact lv_istore_n hx hb hd hk hl hi rfl (fun ls' hl' => kk ls' H locs cells slots (ax_lset (v := .inl x) hl') hr hq hc hs)
  · cases ho

theorem ok_istore {j pc i nx : Nat} (hi : i < ax_nL j) (hd : decode (ax_code j) pc = .ok (.istore i, 2)) (hn : ax_pc j nx = pc + 2) : ax_Ok j pc (ax_istore i nx) := by
  refine ax_Ok.of (pl_istore _ _) ?_
  intro p l e R s m args below meth c Q z n0 s0 cx hfr hlo L st h i' L' st' h' ho hcz hsz kk ls H locs cells slots hl hr hq hc hs
  obtain ⟨hx, hb, hml, hown, hts, hnw, hao, hK, hini⟩ := cx
  unfold ax_istore at ho
  split at ho
  · next x t =>
    cases ho
    rw [hn] at kk
    exact lv_istore hx hb hd hl hi rfl (fun ls' hl' => kk ls' H locs cells slots (ax_lset (v := .inl x) hl') hr hq hc hs)
  · cases ho

theorem ok_astore_n {j pc i nx : Nat} {k : Fin 4} (hk : (k : Nat) = i) (hi : i < ax_nL j) (hd : decode (ax_code j) pc = .ok (.astore_n k, 1)) (hn : ax_pc j nx = pc + 1) : ax_Ok j pc (ax_astore i nx) := by
  refine ax_Ok.of (pl_astore _ _) ?_
  intro p l e R s m args below meth c Q z n0 s0 cx hfr hlo L st h i' L' st' h' ho hcz hsz kk ls H locs cells slots hl hr hq hc hs
  obtain ⟨hx, hb, hml, hown, hts, hnw, hao, hK, hini⟩ := cx
  unfold ax_astore at ho
  split at ho
  · next x t =>
    cases ho
    rw [hn] at kk
    cases x with
    | none => exact lv_astore_nN hx hb hd hk hl hi rfl (fun ls' hl' => kk ls' H locs cells slots (ax_lset (v := .inr none) hl') hr hq hc hs)
    | some a => exact lv_astore_n hx hb hd hk hl hi rfl (fun ls' hl' => kk ls' H locs cells slots (ax_lset (v := .inr (some a)) hl') hr hq hc hs)
  · cases ho

theorem ok_astore {j pc i nx : Nat} (hi : i < ax_nL j) (hd : decode (ax_code j) pc = .ok (.astore i, 2)) (hn : ax_pc j nx = pc + 2) : ax_Ok j pc (ax_astore i nx) := by
  refine ax_Ok.of (pl_astore _ _) ?_
  intro p l e R s m args below meth c Q z n0 s0 cx hfr hlo L st h i' L' st' h' ho hcz hsz kk ls H locs cells slots hl hr hq hc hs
  obtain ⟨hx, hb, hml, hown, hts, hnw, hao, hK, hini⟩ := cx
  unfold ax_astore at ho
  split at ho
  · next x t =>
    cases ho
    rw [hn] at kk
    cases x with
    | none => exact lv_astoreN hx hb hd hl hi rfl (fun ls' hl' => kk ls' H locs cells slots (ax_lset (v := .inr none) hl') hr hq hc hs)
    | some a => exact lv_astore hx hb hd hl hi rfl (fun ls' hl' => kk ls' H locs cells slots (ax_lset (v := .inr (some a)) hl') hr hq hc hs)
  · cases ho

theorem ok_iinc {j pc i nx : Nat} {n : Int} {v : Int32} (hv : Int32.ofInt n = v) (hi : i < ax_nL j) (hd : decode (ax_code j) pc = .ok (.iinc i n, 3)) (hn : ax_pc j nx = pc + 3) : ax_Ok j pc (ax_iinc i v nx) := by
  refine ax_Ok.of (pl_iinc _ _ _) ?_
  intro p l e R s m args below meth c Q z n0 s0 cx hfr hlo L st h i' L' st' h' ho hcz hsz kk ls H locs cells slots hl hr hq hc hs
  obtain ⟨hx, hb, hml, hown, hts, hnw, hao, hK, hini⟩ := cx
  unfold ax_iinc at ho
  split at ho
  · next x hxx =>
    cases ho
    rw [hn] at kk
    obtain ⟨k, hk⟩ := List.getElem?_of_mem (ax_lof_in (z := z) L 0 i _ hxx)
    rw [Nat.zero_add] at hk
    exact lv_iinc hx hb hd hl hk (by rw [hv]) hi rfl (fun ls' hl' => kk ls' H locs cells slots (ax_lset (v := .inl (x + v)) hl') hr hq hc hs)
  · cases ho

theorem ok_iadd {j pc nx : Nat} (hd : decode (ax_code j) pc = .ok (.iadd, 1)) (hn : ax_pc j nx = pc + 1) : ax_Ok j pc (ax_bin (fun x y => x + y) nx) := by
  refine ax_Ok.of (pl_bin _ _) ?_
  intro p l e R s m args below meth c Q z n0 s0 cx hfr hlo L st h i' L' st' h' ho hcz hsz kk ls H locs cells slots hl hr hq hc hs
  obtain ⟨hx, hb, hml, hown, hts, hnw, hao, hK, hini⟩ := cx
  unfold ax_bin at ho
  split at ho
  · cases ho
    rw [hn] at kk
    exact lv_iadd hx hb hd (kk ls H locs cells slots hl hr hq hc hs)
  · cases ho

theorem ok_isub {j pc nx : Nat} (hd : decode (ax_code j) pc = .ok (.isub, 1)) (hn : ax_pc j nx = pc + 1) : ax_Ok j pc (ax_bin (fun x y => x - y) nx) := by
  refine ax_Ok.of (pl_bin _ _) ?_
  intro p l e R s m args below meth c Q z n0 s0 cx hfr hlo L st h i' L' st' h' ho hcz hsz kk ls H locs cells slots hl hr hq hc hs
  obtain ⟨hx, hb, hml, hown, hts, hnw, hao, hK, hini⟩ := cx
  unfold ax_bin at ho
  split at ho
  · cases ho
    rw [hn] at kk
    exact lv_isub hx hb hd (kk ls H locs cells slots hl hr hq hc hs)
  · cases ho

theorem ok_imul {j pc nx : Nat} (hd : decode (ax_code j) pc = .ok (.imul, 1)) (hn : ax_pc j nx = pc + 1) : ax_Ok j pc (ax_bin (fun x y => x * y) nx) := by
  refine ax_Ok.of (pl_bin _ _) ?_
  intro p l e R s m args below meth c Q z n0 s0 cx hfr hlo L st h i' L' st' h' ho hcz hsz kk ls H locs cells slots hl hr hq hc hs
  obtain ⟨hx, hb, hml, hown, hts, hnw, hao, hK, hini⟩ := cx
  unfold ax_bin at ho
  split at ho
  · cases ho
    rw [hn] at kk
    exact lv_imul hx hb hd (kk ls H locs cells slots hl hr hq hc hs)
  · cases ho

theorem ok_iand {j pc nx : Nat} (hd : decode (ax_code j) pc = .ok (.iand, 1)) (hn : ax_pc j nx = pc + 1) : ax_Ok j pc (ax_bin (fun x y => x &&& y) nx) := by
  refine ax_Ok.of (pl_bin _ _) ?_
  intro p l e R s m args below meth c Q z n0 s0 cx hfr hlo L st h i' L' st' h' ho hcz hsz kk ls H locs cells slots hl hr hq hc hs
  obtain ⟨hx, hb, hml, hown, hts, hnw, hao, hK, hini⟩ := cx
  unfold ax_bin at ho
  split at ho
  · cases ho
    rw [hn] at kk
    exact lv_iand hx hb hd (kk ls H locs cells slots hl hr hq hc hs)
  · cases ho

theorem ok_ior {j pc nx : Nat} (hd : decode (ax_code j) pc = .ok (.ior, 1)) (hn : ax_pc j nx = pc + 1) : ax_Ok j pc (ax_bin (fun x y => x ||| y) nx) := by
  refine ax_Ok.of (pl_bin _ _) ?_
  intro p l e R s m args below meth c Q z n0 s0 cx hfr hlo L st h i' L' st' h' ho hcz hsz kk ls H locs cells slots hl hr hq hc hs
  obtain ⟨hx, hb, hml, hown, hts, hnw, hao, hK, hini⟩ := cx
  unfold ax_bin at ho
  split at ho
  · cases ho
    rw [hn] at kk
    exact lv_ior hx hb hd (kk ls H locs cells slots hl hr hq hc hs)
  · cases ho

theorem ok_ishl {j pc nx : Nat} (hd : decode (ax_code j) pc = .ok (.ishl, 1)) (hn : ax_pc j nx = pc + 1) : ax_Ok j pc (ax_bin (fun x y => x <<< (y &&& 31)) nx) := by
  refine ax_Ok.of (pl_bin _ _) ?_
  intro p l e R s m args below meth c Q z n0 s0 cx hfr hlo L st h i' L' st' h' ho hcz hsz kk ls H locs cells slots hl hr hq hc hs
  obtain ⟨hx, hb, hml, hown, hts, hnw, hao, hK, hini⟩ := cx
  unfold ax_bin at ho
  split at ho
  · cases ho
    rw [hn] at kk
    exact lv_ishl hx hb hd (kk ls H locs cells slots hl hr hq hc hs)
  · cases ho

theorem ok_i2c {j pc nx : Nat} (hd : decode (ax_code j) pc = .ok (.i2c, 1)) (hn : ax_pc j nx = pc + 1) : ax_Ok j pc (ax_un (fun x => (x.toUInt32 % 65536).toInt32) nx) := by
  refine ax_Ok.of (pl_un _ _) ?_
  intro p l e R s m args below meth c Q z n0 s0 cx hfr hlo L st h i' L' st' h' ho hcz hsz kk ls H locs cells slots hl hr hq hc hs
  obtain ⟨hx, hb, hml, hown, hts, hnw, hao, hK, hini⟩ := cx
  unfold ax_un at ho
  split at ho
  · cases ho
    rw [hn] at kk
    exact lv_i2c hx hb hd rfl (kk ls H locs cells slots hl hr hq hc hs)
  · cases ho

theorem ok_dup {j pc nx : Nat} (hd : decode (ax_code j) pc = .ok (.dup, 1)) (hn : ax_pc j nx = pc + 1) : ax_Ok j pc (ax_dup nx) := by
  refine ax_Ok.of (pl_dup _) ?_
  intro p l e R s m args below meth c Q z n0 s0 cx hfr hlo L st h i' L' st' h' ho hcz hsz kk ls H locs cells slots hl hr hq hc hs
  obtain ⟨hx, hb, hml, hown, hts, hnw, hao, hK, hini⟩ := cx
  unfold ax_dup at ho
  split at ho
  · cases ho
    rw [hn] at kk
    exact lv_dup hx hb hd (ax_cat z _) (kk ls H locs cells slots hl hr hq hc hs)
  · cases ho

theorem ok_dup2 {j pc nx : Nat} (hd : decode (ax_code j) pc = .ok (.dup2, 1)) (hn : ax_pc j nx = pc + 1) : ax_Ok j pc (ax_dup2 nx) := by
  refine ax_Ok.of (pl_dup2 _) ?_
  intro p l e R s m args below meth c Q z n0 s0 cx hfr hlo L st h i' L' st' h' ho hcz hsz kk ls H locs cells slots hl hr hq hc hs
  obtain ⟨hx, hb, hml, hown, hts, hnw, hao, hK, hini⟩ := cx
  unfold ax_dup2 at ho
  split at ho
  · cases ho
    rw [hn] at kk
    exact lv_dup2_11 hx hb hd (ax_cat z _) (ax_cat z _) (kk ls H locs cells slots hl hr hq hc hs)
  · cases ho

theorem ok_pop {j pc nx : Nat} (hd : decode (ax_code j) pc = .ok (.pop, 1)) (hn : ax_pc j nx = pc + 1) : ax_Ok j pc (ax_pop nx) := by
  refine ax_Ok.of (pl_pop _) ?_
  intro p l e R s m args below meth c Q z n0 s0 cx hfr hlo L st h i' L' st' h' ho hcz hsz kk ls H locs cells slots hl hr hq hc hs
  obtain ⟨hx, hb, hml, hown, hts, hnw, hao, hK, hini⟩ := cx
  unfold ax_pop at ho
  split at ho
  · cases ho
    rw [hn] at kk
    exact lv_pop hx hb hd (ax_cat z _) (kk ls H locs cells slots hl hr hq hc hs)
  · cases ho

theorem ok_goto {j pc nx : Nat} {off : Int} (hd : decode (ax_code j) pc = .ok (.goto off, 3)) (hn : (pc : Int) + off = (ax_pc j nx : Int)) : ax_Ok j pc (ax_goto nx) := by
  refine ax_Ok.of (pl_goto _) ?_
  intro p l e R s m args below meth c Q z n0 s0 cx hfr hlo L st h i' L' st' h' ho hcz hsz kk ls H locs cells slots hl hr hq hc hs
  obtain ⟨hx, hb, hml, hown, hts, hnw, hao, hK, hini⟩ := cx
  cases ho
  exact lv_goto hx hb hd hn (kk ls H locs cells slots hl hr hq hc hs)

theorem ok_if_eq {j pc tg nx : Nat} {off : Int} (hd : decode (ax_code j) pc = .ok (.ifCond .eq off, 3)) (ht : (pc : Int) + off = (ax_pc j tg : Int)) (hn : ax_pc j nx = pc + 3) : ax_Ok j pc (ax_if (fun x => decide (x = 0)) tg nx) := by
  refine ax_Ok.of (pl_if _ _ _) ?_
  intro p l e R s m args below meth c Q z n0 s0 cx hfr hlo L st h i' L' st' h' ho hcz hsz kk ls H locs cells slots hl hr hq hc hs
  obtain ⟨hx, hb, hml, hown, hts, hnw, hao, hK, hini⟩ := cx
  unfold ax_if at ho
  split at ho
  · next x t =>
    cases ho
    dsimp only at kk
    exact lv_if_eq hx hb hd ht (fun q => by rw [show (decide (x = 0)) = true from decide_eq_true q] at kk; rw [cond_true] at kk; exact kk ls H locs cells slots hl hr hq hc hs) (fun q => by rw [show (decide (x = 0)) = false from decide_eq_false q] at kk; rw [cond_false, hn] at kk; exact kk ls H locs cells slots hl hr hq hc hs)
  · cases ho

theorem ok_if_ne {j pc tg nx : Nat} {off : Int} (hd : decode (ax_code j) pc = .ok (.ifCond .ne off, 3)) (ht : (pc : Int) + off = (ax_pc j tg : Int)) (hn : ax_pc j nx = pc + 3) : ax_Ok j pc (ax_if (fun x => decide (¬ x = 0)) tg nx) := by
  refine ax_Ok.of (pl_if _ _ _) ?_
  intro p l e R s m args below meth c Q z n0 s0 cx hfr hlo L st h i' L' st' h' ho hcz hsz kk ls H locs cells slots hl hr hq hc hs
  obtain ⟨hx, hb, hml, hown, hts, hnw, hao, hK, hini⟩ := cx
  unfold ax_if at ho
  split at ho
  · next x t =>
    cases ho
    dsimp only at kk
    exact lv_if_ne hx hb hd ht (fun q => by rw [show (decide (¬ x = 0)) = true from decide_eq_true q] at kk; rw [cond_true] at kk; exact kk ls H locs cells slots hl hr hq hc hs) (fun q => by rw [show (decide (¬ x = 0)) = false from decide_eq_false (fun w => w q)] at kk; rw [cond_false, hn] at kk; exact kk ls H locs cells slots hl hr hq hc hs)
  · cases ho

theorem ok_if_lt {j pc tg nx : Nat} {off : Int} (hd : decode (ax_code j) pc = .ok (.ifCond .lt off, 3)) (ht : (pc : Int) + off = (ax_pc j tg : Int)) (hn : ax_pc j nx = pc + 3) : ax_Ok j pc (ax_if (fun x => decide (x < 0)) tg nx) := by
  refine ax_Ok.of (pl_if _ _ _) ?_
  intro p l e R s m args below meth c Q z n0 s0 cx hfr hlo L st h i' L' st' h' ho hcz hsz kk ls H locs cells slots hl hr hq hc hs
  obtain ⟨hx, hb, hml, hown, hts, hnw, hao, hK, hini⟩ := cx
  unfold ax_if at ho
  split at ho
  · next x t =>
    cases ho
    dsimp only at kk
    exact lv_if_lt hx hb hd ht (fun q => by rw [show (decide (x < 0)) = true from decide_eq_true q] at kk; rw [cond_true] at kk; exact kk ls H locs cells slots hl hr hq hc hs) (fun q => by rw [show (decide (x < 0)) = false from decide_eq_false q] at kk; rw [cond_false, hn] at kk; exact kk ls H locs cells slots hl hr hq hc hs)
  · cases ho

theorem ok_if_ge {j pc tg nx : Nat} {off : Int} (hd : decode (ax_code j) pc = .ok (.ifCond .ge off, 3)) (ht : (pc : Int) + off = (ax_pc j tg : Int)) (hn : ax_pc j nx = pc + 3) : ax_Ok j pc (ax_if (fun x => decide (0 ≤ x)) tg nx) := by
  refine ax_Ok.of (pl_if _ _ _) ?_
  intro p l e R s m args below meth c Q z n0 s0 cx hfr hlo L st h i' L' st' h' ho hcz hsz kk ls H locs cells slots hl hr hq hc hs
  obtain ⟨hx, hb, hml, hown, hts, hnw, hao, hK, hini⟩ := cx
  unfold ax_if at ho
  split at ho
  · next x t =>
    cases ho
    dsimp only at kk
    exact lv_if_ge hx hb hd ht (fun q => by rw [show (decide (0 ≤ x)) = true from decide_eq_true q] at kk; rw [cond_true] at kk; exact kk ls H locs cells slots hl hr hq hc hs) (fun q => by rw [show (decide (0 ≤ x)) = false from decide_eq_false q] at kk; rw [cond_false, hn] at kk; exact kk ls H locs cells slots hl hr hq hc hs)
  · cases ho

theorem ok_if_gt {j pc tg nx : Nat} {off : Int} (hd : decode (ax_code j) pc = .ok (.ifCond .gt off, 3)) (ht : (pc : Int) + off = (ax_pc j tg : Int)) (hn : ax_pc j nx = pc + 3) : ax_Ok j pc (ax_if (fun x => decide (0 < x)) tg nx) := by
  refine ax_Ok.of (pl_if _ _ _) ?_
  intro p l e R s m args below meth c Q z n0 s0 cx hfr hlo L st h i' L' st' h' ho hcz hsz kk ls H locs cells slots hl hr hq hc hs
  obtain ⟨hx, hb, hml, hown, hts, hnw, hao, hK, hini⟩ := cx
  unfold ax_if at ho
  split at ho
  · next x t =>
    cases ho
    dsimp only at kk
    exact lv_if_gt hx hb hd ht (fun q => by rw [show (decide (0 < x)) = true from decide_eq_true q] at kk; rw [cond_true] at kk; exact kk ls H locs cells slots hl hr hq hc hs) (fun q => by rw [show (decide (0 < x)) = false from decide_eq_false q] at kk; rw [cond_false, hn] at kk; exact kk ls H locs cells slots hl hr hq hc hs)
  · cases ho

theorem ok_if_le {j pc tg nx : Nat} {off : Int} (hd : decode (ax_code j) pc = .ok (.ifCond .le off, 3)) (ht : (pc : Int) + off = (ax_pc j tg : Int)) (hn : ax_pc j nx = pc + 3) : ax_Ok j pc (ax_if (fun x => decide (x ≤ 0)) tg nx) := by
  refine ax_Ok.of (pl_if _ _ _) ?_
  intro p l e R s m args below meth c Q z n0 s0 cx hfr hlo L st h i' L' st' h' ho hcz hsz kk ls H locs cells slots hl hr hq hc hs
  obtain ⟨hx, hb, hml, hown, hts, hnw, hao, hK, hini⟩ := cx
  unfold ax_if at ho
  split at ho
  · next x t =>
    cases ho
    dsimp only at kk
    exact lv_if_le hx hb hd ht (fun q => by rw [show (decide (x ≤ 0)) = true from decide_eq_true q] at kk; rw [cond_true] at kk; exact kk ls H locs cells slots hl hr hq hc hs) (fun q => by rw [show (decide (x ≤ 0)) = false from decide_eq_false q] at kk; rw [cond_false, hn] at kk; exact kk ls H locs cells slots hl hr hq hc hs)
  · cases ho

theorem ok_icmp_eq {j pc tg nx : Nat} {off : Int} (hd : decode (ax_code j) pc = .ok (.if_icmp .eq off, 3)) (ht : (pc : Int) + off = (ax_pc j tg : Int)) (hn : ax_pc j nx = pc + 3) : ax_Ok j pc (ax_icmp (fun x y => decide (x = y)) tg nx) := by
  refine ax_Ok.of (pl_icmp _ _ _) ?_
  intro p l e R s m args below meth c Q z n0 s0 cx hfr hlo L st h i' L' st' h' ho hcz hsz kk ls H locs cells slots hl hr hq hc hs
  obtain ⟨hx, hb, hml, hown, hts, hnw, hao, hK, hini⟩ := cx
  unfold ax_icmp at ho
  split at ho
  · next y x t =>
    cases ho
    dsimp only at kk
    exact lv_icmp_eq hx hb hd ht (fun q => by rw [show (decide (x = y)) = true from decide_eq_true q] at kk; rw [cond_true] at kk; exact kk ls H locs cells slots hl hr hq hc hs) (fun q => by rw [show (decide (x = y)) = false from decide_eq_false q] at kk; rw [cond_false, hn] at kk; exact kk ls H locs cells slots hl hr hq hc hs)
  · cases ho

theorem ok_icmp_ne {j pc tg nx : Nat} {off : Int} (hd : decode (ax_code j) pc = .ok (.if_icmp .ne off, 3)) (ht : (pc : Int) + off = (ax_pc j tg : Int)) (hn : ax_pc j nx = pc + 3) : ax_Ok j pc (ax_icmp (fun x y => decide (¬ x = y)) tg nx) := by
  refine ax_Ok.of (pl_icmp _ _ _) ?_
  intro p l e R s m args below meth c Q z n0 s0 cx hfr hlo L st h i' L' st' h' ho hcz hsz kk ls H locs cells slots hl hr hq hc hs
  obtain ⟨hx, hb, hml, hown, hts, hnw, hao, hK, hini⟩ := cx
  unfold ax_icmp at ho
  split at ho
  · next y x t =>
    cases ho
    dsimp only at kk
    exact lv_icmp_ne hx hb hd ht (fun q => by rw [show (decide (¬ x = y)) = true from decide_eq_true q] at kk; rw [cond_true] at kk; exact kk ls H locs cells slots hl hr hq hc hs) (fun q => by rw [show (decide (¬ x = y)) = false from decide_eq_false (fun w => w q)] at kk; rw [cond_false, hn] at kk; exact kk ls H locs cells slots hl hr hq hc hs)
  · cases ho

theorem ok_icmp_lt {j pc tg nx : Nat} {off : Int} (hd : decode (ax_code j) pc = .ok (.if_icmp .lt off, 3)) (ht : (pc : Int) + off = (ax_pc j tg : Int)) (hn : ax_pc j nx = pc + 3) : ax_Ok j pc (ax_icmp (fun x y => decide (x < y)) tg nx) := by
  refine ax_Ok.of (pl_icmp _ _ _) ?_
  intro p l e R s m args below meth c Q z n0 s0 cx hfr hlo L st h i' L' st' h' ho hcz hsz kk ls H locs cells slots hl hr hq hc hs
  obtain ⟨hx, hb, hml, hown, hts, hnw, hao, hK, hini⟩ := cx
  unfold ax_icmp at ho
  split at ho
  · next y x t =>
    cases ho
    dsimp only at kk
    exact lv_icmp_lt hx hb hd ht (fun q => by rw [show (decide (x < y)) = true from decide_eq_true q] at kk; rw [cond_true] at kk; exact kk ls H locs cells slots hl hr hq hc hs) (fun q => by rw [show (decide (x < y)) = false from decide_eq_false q] at kk; rw [cond_false, hn] at kk; exact kk ls H locs cells slots hl hr hq hc hs)
  · cases ho

theorem ok_icmp_ge {j pc tg nx : Nat} {off : Int} (hd : decode (ax_code j) pc = .ok (.if_icmp .ge off, 3)) (ht : (pc : Int) + off = (ax_pc j tg : Int)) (hn : ax_pc j nx = pc + 3) : ax_Ok j pc (ax_icmp (fun x y => decide (y ≤ x)) tg nx) := by
  refine ax_Ok.of (pl_icmp _ _ _) ?_
  intro p l e R s m args below meth c Q z n0 s0 cx hfr hlo L st h i' L' st' h' ho hcz hsz kk ls H locs cells slots hl hr hq hc hs
  obtain ⟨hx, hb, hml, hown, hts, hnw, hao, hK, hini⟩ := cx
  unfold ax_icmp at ho
  split at ho
  · next y x t =>
    cases ho
    dsimp only at kk
    exact lv_icmp_ge hx hb hd ht (fun q => by rw [show (decide (y ≤ x)) = true from decide_eq_true q] at kk; rw [cond_true] at kk; exact kk ls H locs cells slots hl hr hq hc hs) (fun q => by rw [show (decide (y ≤ x)) = false from decide_eq_false q] at kk; rw [cond_false, hn] at kk; exact kk ls H locs cells slots hl hr hq hc hs)
  · cases ho

theorem ok_icmp_gt {j pc tg nx : Nat} {off : Int} (hd : decode (ax_code j) pc = .ok (.if_icmp .gt off, 3)) (ht : (pc : Int) + off = (ax_pc j tg : Int)) (hn : ax_pc j nx = pc + 3) : ax_Ok j pc (ax_icmp (fun x y => decide (y < x)) tg nx) := by
  refine ax_Ok.of (pl_icmp _ _ _) ?_
  intro p l e R s m args below meth c Q z n0 s0 cx hfr hlo L st h i' L' st' h' ho hcz hsz kk ls H locs cells slots hl hr hq hc hs
  obtain ⟨hx, hb, hml, hown, hts, hnw, hao, hK, hini⟩ := cx
  unfold ax_icmp at ho
  split at ho
  · next y x t =>
    cases ho
    dsimp only at kk
    exact lv_icmp_gt hx hb hd ht (fun q => by rw [show (decide (y < x)) = true from decide_eq_true q] at kk; rw [cond_true] at kk; exact kk ls H locs cells slots hl hr hq hc hs) (fun q => by rw [show (decide (y < x)) = false from decide_eq_false q] at kk; rw [cond_false, hn] at kk; exact kk ls H locs cells slots hl hr hq hc hs)
  · cases ho

theorem ok_icmp_le {j pc tg nx : Nat} {off : Int} (hd : decode (ax_code j) pc = .ok (.if_icmp .le off, 3)) (ht : (pc : Int) + off = (ax_pc j tg : Int)) (hn : ax_pc j nx = pc + 3) : ax_Ok j pc (ax_icmp (fun x y => decide (x ≤ y)) tg nx) := by
  refine ax_Ok.of (pl_icmp _ _ _) ?_
  intro p l e R s m args below meth c Q z n0 s0 cx hfr hlo L st h i' L' st' h' ho hcz hsz kk ls H locs cells slots hl hr hq hc hs
  obtain ⟨hx, hb, hml, hown, hts, hnw, hao, hK, hini⟩ := cx
  unfold ax_icmp at ho
  split at ho
  · next y x t =>
    cases ho
    dsimp only at kk
    exact lv_icmp_le hx hb hd ht (fun q => by rw [show (decide (x ≤ y)) = true from decide_eq_true q] at kk; rw [cond_true] at kk; exact kk ls H locs cells slots hl hr hq hc hs) (fun q => by rw [show (decide (x ≤ y)) = false from decide_eq_false q] at kk; rw [cond_false, hn] at kk; exact kk ls H locs cells slots hl hr hq hc hs)
  · cases ho

theorem ok_ifnull {j pc tg nx : Nat} {off : Int} (hd : decode (ax_code j) pc = .ok (.ifnull off, 3)) (ht : (pc : Int) + off = (ax_pc j tg : Int)) (hn : ax_pc j nx = pc + 3) : ax_Ok j pc (ax_ifnull tg nx) := by
  refine ax_Ok.of (pl_ifnull _ _) ?_
  intro p l e R s m args below meth c Q z n0 s0 cx hfr hlo L st h i' L' st' h' ho hcz hsz kk ls H locs cells slots hl hr hq hc hs
  obtain ⟨hx, hb, hml, hown, hts, hnw, hao, hK, hini⟩ := cx
  unfold ax_ifnull at ho
  split at ho
  · cases ho
    exact lv_ifnullN hx hb hd ht (kk ls H locs cells slots hl hr hq hc hs)
  · cases ho
    rw [hn] at kk
    exact lv_ifnull hx hb hd (kk ls H locs cells slots hl hr hq hc hs)
  · cases ho

theorem ok_ifnonnull {j pc tg nx : Nat} {off : Int} (hd : decode (ax_code j) pc = .ok (.ifnonnull off, 3)) (ht : (pc : Int) + off = (ax_pc j tg : Int)) (hn : ax_pc j nx = pc + 3) : ax_Ok j pc (ax_ifnonnull tg nx) := by
  refine ax_Ok.of (pl_ifnonnull _ _) ?_
  intro p l e R s m args below meth c Q z n0 s0 cx hfr hlo L st h i' L' st' h' ho hcz hsz kk ls H locs cells slots hl hr hq hc hs
  obtain ⟨hx, hb, hml, hown, hts, hnw, hao, hK, hini⟩ := cx
  unfold ax_ifnonnull at ho
  split at ho
  · cases ho
    rw [hn] at kk
    exact lv_ifnonnullN hx hb hd (kk ls H locs cells slots hl hr hq hc hs)
  · cases ho
    exact lv_ifnonnull hx hb hd ht (kk ls H locs cells slots hl hr hq hc hs)
  · cases ho
end
section
/-! Fields, arrays, new cells, calls, returns. -/
theorem ax_inE {i : Int32} {n : Nat} (h : ax_in i n = true) : vp_in i n := by
  unfold ax_in at h
  rw [Bool.and_eq_true, decide_eq_true_eq, decide_eq_true_eq] at h
  exact fun q => q.elim h.1 (fun z => Nat.lt_irrefl _ (Nat.lt_of_lt_of_le h.2 z))
theorem ax_ccI (z : ax_Z) (t n : Nat) (f : Nat → Int32) : ax_cc z (.inl (t, n, .inl f)) = .inl (z.2.1 t, n, .inl f) := rfl
theorem ax_ccO (z : ax_Z) (ci : Nat) (fs : List ax_V) : ax_cc z (.inr (ci, fs)) = .inr (ci, fs.map (ax_cv z)) := rfl
theorem ax_one {z : ax_Z} {h : ax_H} {s : State} {H : Heap} (hr : ax_rel z h s H) {o : Nat} {c : ax_C} (h0 : 0 < o) (h1 : o < h.1) (hc : h.2.2 o = c) : va_P z.1 vwCl [(ax_ad z o, ax_cc z c)] H := by
  intro k q hk
  have hz : k = 0 := by
    have := (List.getElem?_eq_some_iff.mp hk).1
    simp at this
    omega
  subst hz
  cases hk
  rw [← hc]
  exact hr.at h0 h1
theorem ok_get {j pc ci k nx : Nat} {C : String} {T : u_T} {N idx : Nat} (hcl : vwCl[ci]? = some (C, T, N)) (hin : ∀ w ∈ u_ws C T N, w ∈ ax_ws) (hk : k < N) {ref name desc : String} (hlink : Cond.fieldLink (ax_y j).cls idx ref name desc ∈ ax_ws) (hT : ((T k).1, (T k).2.1, (T k).2.2.1) = (ref, name, desc)) (hd : decode (ax_code j) pc = .ok (.getfield idx, 3)) (hn : ax_pc j nx = pc + 3) : ax_Ok j pc (ax_get ci k nx) := by
  refine ax_Ok.of (pl_get _ _ _) ?_
  intro p l e R s m args below meth c Q z n0 s0 cx hfr hlo L st h i' L' st' h' ho hcz hsz kk ls H locs cells slots hl hr hq hc hs
  obtain ⟨hx, hb, hml, hown, hts, hnw, hao, hK, hini⟩ := cx
  cases hT
  unfold ax_get at ho
  split at ho
  · next o t =>
    split at ho
    · next cj fs hcell =>
      split at ho
      · next hcnd =>
        obtain ⟨rfl, h0, h1⟩ := hcnd
        split at ho
        · next v hv =>
          cases ho
          rw [hn] at kk
          exact va_get (D := z.1) (ci := cj) hx hb hts hin hown hK (ax_one hr h0 h1 hcell) 0 rfl hcl k hk (hts _ hlink) (fun _ h9 => h9) (v := ax_cv z v) (by rw [List.getElem?_map, hv]; rfl) hd (kk ls H locs cells slots hl hr hq hc hs)
        · cases ho
      · cases ho
    · cases ho
  · cases ho
theorem ok_getN {j pc ci k nx : Nat} {C : String} {T : u_T} {N idx : Nat} {host : String} (hcl : vwCl[ci]? = some (C, T, N)) (hin : ∀ w ∈ u_ws C T N, w ∈ ax_ws) (hk : k < N) {ref name desc : String} (hlink : Cond.fieldLinkNest (ax_y j).cls idx ref name desc host ∈ ax_nw) (hT : ((T k).1, (T k).2.1, (T k).2.2.1) = (ref, name, desc)) (hd : decode (ax_code j) pc = .ok (.getfield idx, 3)) (hn : ax_pc j nx = pc + 3) : ax_Ok j pc (ax_get ci k nx) := by
  refine ax_Ok.of (pl_get _ _ _) ?_
  intro p l e R s m args below meth c Q z n0 s0 cx hfr hlo L st h i' L' st' h' ho hcz hsz kk ls H locs cells slots hl hr hq hc hs
  obtain ⟨hx, hb, hml, hown, hts, hnw, hao, hK, hini⟩ := cx
  cases hT
  unfold ax_get at ho
  split at ho
  · next o t =>
    split at ho
    · next cj fs hcell =>
      split at ho
      · next hcnd =>
        obtain ⟨rfl, h0, h1⟩ := hcnd
        split at ho
        · next v hv =>
          cases ho
          rw [hn] at kk
          exact va_getN (D := z.1) (ci := cj) hx hb hts hin hown hK (ax_one hr h0 h1 hcell) 0 rfl hcl k hk (va_Nw.use rfl (hnw _ hlink)) (fun _ h9 => h9) (v := ax_cv z v) (by rw [List.getElem?_map, hv]; rfl) hd (kk ls H locs cells slots hl hr hq hc hs)
        · cases ho
      · cases ho
    · cases ho
  · cases ho
def ax_ftOk (ty : Nat) (ft : FieldType) : Prop := match ty with
  | 0 => ft = .int
  | 1 => ft = .boolean
  | 2 => ft = .char
  | _ => ft.isReference = true
/-- what fits a field, as the JVM says it -/
theorem ax_fitE {z : ax_Z} {ty : Nat} {v : ax_V} {ft : FieldType} (h : ax_fit ty v = true) (hf : ax_ftOk ty ft) : narrow ft (ax_cv z v) = ax_cv z v ∧ fits ft (ax_cv z v) = true := by
  rcases v with x | r
  · unfold ax_fit at h
    dsimp only at h
    split at h
    · have hf : ft = .int := hf
      subst hf; exact ⟨rfl, rfl⟩
    · have hf : ft = .boolean := hf
      subst hf
      rcases of_decide_eq_true h with rfl | rfl <;> exact ⟨rfl, rfl⟩
    · have hf : ft = .char := hf
      subst hf
      have h := of_decide_eq_true h
      show narrow .char (.int x) = .int x ∧ fits .char (.int x) = true
      rw [← h]
      exact ⟨pk_nc x, pk_fc x⟩
    · cases h
  · unfold ax_fit at h
    have h3 : ty = 3 := by simpa using h
    subst h3
    have hf : ft.isReference = true := hf
    cases r <;> cases ft <;> first | (cases hf; done) | exact ⟨rfl, rfl⟩
/-- an object's cell behind a put -/
theorem ax_putAt {z : ax_Z} {o ci : Nat} {C : String} {T : u_T} {N k : Nat} {fs : List ax_V} {v : ax_V} {H1 : Heap} {cell : Cell} {i0 : Nat} (hcl : vwCl[ci]? = some (C, T, N)) (q2 : cell.cls = z.1.1 ci) (q3 : cell.vm = .none) (q4 : ∀ k, k < N → cell.slots[z.1.2 ci k]? = some (vp_V (fs.map (ax_cv z)) k)) (hap : ∀ x y, x < N → y < N → x ≠ y → z.1.2 ci x ≠ z.1.2 ci y) (hk : k < N) (hl : k < fs.length) (he : i0 = z.1.2 ci k) (e1 : H1[ax_ad z o]? = some (cell.setSlot i0 (ax_cv z v))) : va_at z.1 vwCl (ax_ad z o, ax_cc z (.inr (ci, fs.set k v))) H1 := by
  subst he
  refine ⟨_, hcl, ?_⟩
  have hm : (fs.set k v).map (ax_cv z) = (fs.map (ax_cv z)).set k (ax_cv z v) := by rw [List.map_set]
  show t_OB _ _ _ _ H1 (vp_V ((fs.set k v).map (ax_cv z)))
  rw [hm]
  exact t_OB.to (V := updV (vp_V (fs.map (ax_cv z))) k (ax_cv z v)) ⟨_, e1, q2, q3, t_set q4 hap hk _⟩ (fun j _ => vp_updV_set (by simpa using hl) _ j)
theorem ok_put {j pc ci k ty nx : Nat} {C : String} {T : u_T} {N idx : Nat} (hcl : vwCl[ci]? = some (C, T, N)) (hin : ∀ w ∈ u_ws C T N, w ∈ ax_ws) (ty0 : Nat → FieldType) (hty : ∀ k, k < N → parseFieldDescriptor (T k).2.2.1 = some (ty0 k)) (hnm : ∀ a, a < N → ∀ b, b < N → a ≠ b → (T a).2.1 ≠ (T b).2.1) (hk : k < N) {ref name desc : String} (hlink : Cond.fieldLink (ax_y j).cls idx ref name desc ∈ ax_ws) (hT : ((T k).1, (T k).2.1, (T k).2.2.1) = (ref, name, desc)) (hfin : (T k).2.2.2 = false) (hft : ax_ftOk ty (ty0 k)) (hd : decode (ax_code j) pc = .ok (.putfield idx, 3)) (hn : ax_pc j nx = pc + 3) : ax_Ok j pc (ax_put ci k ty nx) := by
  refine ax_Ok.of (pl_put _ _ _ _) ?_
  intro p l e R s m args below meth c Q z n0 s0 cx hfr hlo L st h i' L' st' h' ho hcz hsz kk ls H locs cells slots hl hr hq hc hs
  obtain ⟨hx, hb, hml, hown, hts, hnw, hao, hK, hini⟩ := cx
  cases hT
  unfold ax_put at ho
  split at ho
  · next v o t =>
    split at ho
    · next cj fs hcell =>
      split at ho
      · next hcnd =>
        obtain ⟨rfl, h0, h1, hkl, hfit⟩ := hcnd
        cases ho
        rw [hn] at kk
        obtain ⟨hn1, hn2⟩ := ax_fitE (z := z) hfit hft
        have hap := va_apart (own := C) hts hin ty0 hty hnm hK hcl
        have hat := hr.at h0 h1
        rw [hcell] at hat
        obtain ⟨r, h1', cell, q1, q2, q3, q4⟩ := hat
        have hrr : r = (C, T, N) := Option.some.inj (h1'.symm.trans hcl)
        subst hrr
        obtain ⟨hS, hfc, kC, hkC, hkind⟩ := hK.1 cj _ hcl
        obtain ⟨cf, kf, fi, f, hi, hsl⟩ := hS k hk
        have hlay := hts _ (hin _ (u_in_lay hk))
        unfold u_lay at hlay
        rw [if_neg (by rw [hfin]; decide)] at hlay
        have hst := (u_facts hfc hkC (u_lays hts hin hk) hi).1
        have h6 := u_store hfc hkC hkind hlay hi (hty k hk) hn1 hn2
        refine W.putK hx hb (f := f) ⟨hown, hts _ hlink, ⟨_, _, _, hi⟩, hst⟩ (by rw [q2]; exact h6) q1 q3 (by rw [hsl]; exact k2_hasslot (q4 k hk)) rfl rfl hd fun H' e1 e2 e3 => ?_
        refine kk ls H' _ cells slots hl (hr.set h0 _ e2 (ax_putAt hcl q2 q3 q4 hap hk hkl hsl e1) e3) (fun q hq' => ?_) hc hs
        rcases List.mem_append.mp hq' with h | h
        · exact hq q h
        · rw [List.mem_singleton.mp h]; exact ax_ad_ge h0
      · cases ho
    · cases ho
  · cases ho
theorem ok_putN {j pc ci k ty nx : Nat} {C : String} {T : u_T} {N idx : Nat} {host : String} (hcl : vwCl[ci]? = some (C, T, N)) (hin : ∀ w ∈ u_ws C T N, w ∈ ax_ws) (ty0 : Nat → FieldType) (hty : ∀ k, k < N → parseFieldDescriptor (T k).2.2.1 = some (ty0 k)) (hnm : ∀ a, a < N → ∀ b, b < N → a ≠ b → (T a).2.1 ≠ (T b).2.1) (hk : k < N) {ref name desc : String} (hlink : Cond.fieldLinkNest (ax_y j).cls idx ref name desc host ∈ ax_nw) (hT : ((T k).1, (T k).2.1, (T k).2.2.1) = (ref, name, desc)) (hfin : (T k).2.2.2 = false) (hft : ax_ftOk ty (ty0 k)) (hd : decode (ax_code j) pc = .ok (.putfield idx, 3)) (hn : ax_pc j nx = pc + 3) : ax_Ok j pc (ax_put ci k ty nx) := by
  refine ax_Ok.of (pl_put _ _ _ _) ?_
  intro p l e R s m args below meth c Q z n0 s0 cx hfr hlo L st h i' L' st' h' ho hcz hsz kk ls H locs cells slots hl hr hq hc hs
  obtain ⟨hx, hb, hml, hown, hts, hnw, hao, hK, hini⟩ := cx
  cases hT
  unfold ax_put at ho
  split at ho
  · next v o t =>
    split at ho
    · next cj fs hcell =>
      split at ho
      · next hcnd =>
        obtain ⟨rfl, h0, h1, hkl, hfit⟩ := hcnd
        cases ho
        rw [hn] at kk
        obtain ⟨hn1, hn2⟩ := ax_fitE (z := z) hfit hft
        have hap := va_apart (own := C) hts hin ty0 hty hnm hK hcl
        have hat := hr.at h0 h1
        rw [hcell] at hat
        obtain ⟨r, h1', cell, q1, q2, q3, q4⟩ := hat
        have hrr : r = (C, T, N) := Option.some.inj (h1'.symm.trans hcl)
        subst hrr
        obtain ⟨hS, hfc, kC, hkC, hkind⟩ := hK.1 cj _ hcl
        obtain ⟨cf, kf, fi, f, hi, hsl⟩ := hS k hk
        have hlay := hts _ (hin _ (u_in_lay hk))
        unfold u_lay at hlay
        rw [if_neg (by rw [hfin]; decide)] at hlay
        have hst := (u_facts hfc hkC (u_lays hts hin hk) hi).1
        have h6 := u_store hfc hkC hkind hlay hi (hty k hk) hn1 hn2
        refine va_WputK hx hb (f := f) hown (va_Nw.use rfl (hnw _ hlink)) hi hst (by rw [q2]; exact h6) q1 q3 (by rw [hsl]; exact k2_hasslot (q4 k hk)) rfl rfl hd fun H' e1 e2 e3 => ?_
        refine kk ls H' _ cells slots hl (hr.set h0 _ e2 (ax_putAt hcl q2 q3 q4 hap hk hkl hsl e1) e3) (fun q hq' => ?_) hc hs
        rcases List.mem_append.mp hq' with h | h
        · exact hq q h
        · rw [List.mem_singleton.mp h]; exact ax_ad_ge h0
      · cases ho
    · cases ho
  · cases ho
theorem ok_putF {j pc ci k ty nx : Nat} {C : String} {T : u_T} {N idx : Nat} (hcl : vwCl[ci]? = some (C, T, N)) (hin : ∀ w ∈ u_ws C T N, w ∈ ax_ws) (ty0 : Nat → FieldType) (hty : ∀ k, k < N → parseFieldDescriptor (T k).2.2.1 = some (ty0 k)) (hnm : ∀ a, a < N → ∀ b, b < N → a ≠ b → (T a).2.1 ≠ (T b).2.1) (hk : k < N) {ref name desc : String} (hlink : Cond.fieldLink (ax_y j).cls idx ref name desc ∈ ax_ws) (hT : ((T k).1, (T k).2.1, (T k).2.2.1) = (ref, name, desc)) (hfin : (T k).2.2.2 = true) (hdecl : (T k).1 = (ax_y j).cls) (hnmi : (ax_y j).name = "<init>") (hft : ax_ftOk ty (ty0 k)) (hd : decode (ax_code j) pc = .ok (.putfield idx, 3)) (hn : ax_pc j nx = pc + 3) : ax_Ok j pc (ax_put ci k ty nx) := by
  refine ax_Ok.of (pl_put _ _ _ _) ?_
  intro p l e R s m args below meth c Q z n0 s0 cx hfr hlo L st h i' L' st' h' ho hcz hsz kk ls H locs cells slots hl hr hq hc hs
  obtain ⟨hx, hb, hml, hown, hts, hnw, hao, hK, hini⟩ := cx
  cases hT
  unfold ax_put at ho
  split at ho
  · next v o t =>
    split at ho
    · next cj fs hcell =>
      split at ho
      · next hcnd =>
        obtain ⟨rfl, h0, h1, hkl, hfit⟩ := hcnd
        cases ho
        rw [hn] at kk
        obtain ⟨hn1, hn2⟩ := ax_fitE (z := z) hfit hft
        have hap := va_apart (own := C) hts hin ty0 hty hnm hK hcl
        have hat := hr.at h0 h1
        rw [hcell] at hat
        obtain ⟨r, h1', cell, q1, q2, q3, q4⟩ := hat
        have hrr : r = (C, T, N) := Option.some.inj (h1'.symm.trans hcl)
        subst hrr
        obtain ⟨hS, hfc, kC, hkC, hkind⟩ := hK.1 cj _ hcl
        obtain ⟨cf, kf, fi, f, hi, hsl⟩ := hS k hk
        have hst := (u_facts hfc hkC (u_lays hts hin hk) hi).1
        have h6 := u_fits hfc hkC hkind (u_lays hts hin hk) hi (hty k hk) hn1 hn2
        have hlay := hts _ (hin _ (u_in_lay hk))
        unfold u_lay at hlay
        rw [if_pos hfin] at hlay
        have hcf : m.cls = cf := by
          obtain ⟨_, _, c', _, _, _, -, -, hf', -, -, -, hown2, -⟩ := Cond.laysFinal_spec hlay
          have e1 : c' = cf := by have := hi.symm.trans hf'; simp at this; exact this.1.symm
          rw [hdecl] at hown2
          rw [← e1]; exact Option.some.inj (hown.symm.trans hown2)
        refine W.putFinK hx hb hown (hts _ hlink) hi hst hcf (hini hnmi) (by rw [q2]; exact h6) q1 q3 (by rw [hsl]; exact k2_hasslot (q4 k hk)) rfl rfl hd fun H' e1 e2 e3 => ?_
        refine kk ls H' _ cells slots hl (hr.set h0 _ e2 (ax_putAt hcl q2 q3 q4 hap hk hkl hsl e1) e3) (fun q hq' => ?_) hc hs
        rcases List.mem_append.mp hq' with h | h
        · exact hq q h
        · rw [List.mem_singleton.mp h]; exact ax_ad_ge h0
      · cases ho
    · cases ho
  · cases ho
end
section
/-! Arrays, new cells. -/
theorem ax_locs {z : ax_Z} {locs : List Loc} {o i : Nat} (h0 : 0 < o) (hq : ∀ q ∈ locs, z.2.2.1 ≤ q.base) : ∀ q ∈ locs ++ [⟨ax_ad z o, i⟩], z.2.2.1 ≤ q.base := by
  intro q hq'
  rcases List.mem_append.mp hq' with h | h
  · exact hq q h
  · rw [List.mem_singleton.mp h]; exact ax_ad_ge h0
theorem ax_arr {z : ax_Z} {h : ax_H} {s : State} {H : Heap} (hr : ax_rel z h s H) {o t n : Nat} {f : Nat → Int32} (h0 : 0 < o) (h1 : o < h.1) (hc : h.2.2 o = .inl (t, n, .inl f)) : H[ax_ad z o]? = some (arrV (z.2.1 t) n (fun j => .int (f j))) := by
  have := hr.at h0 h1
  rw [hc] at this
  exact this
theorem ok_iald {j pc nx : Nat} (hd : decode (ax_code j) pc = .ok (.iaload, 1)) (hn : ax_pc j nx = pc + 1) : ax_Ok j pc (ax_ald 0 nx) := by
  refine ax_Ok.of (pl_ald _ _) ?_
  intro p l e R s m args below meth c Q z n0 s0 cx hfr hlo L st h i' L' st' h' ho hcz hsz kk ls H locs cells slots hl hr hq hc hs
  obtain ⟨hx, hb, hml, hown, hts, hnw, hao, hK, hini⟩ := cx
  unfold ax_ald at ho
  split at ho
  · next i o t =>
    split at ho
    · next tz n f hcell =>
      split at ho
      · next hcnd =>
        obtain ⟨rfl, h0, h1, hin⟩ := hcnd
        cases ho
        rw [hn] at kk
        exact va_iald hx hb hK (ax_one hr h0 h1 hcell) 0 0 rfl rfl (ax_inE hin) hd (kk ls H locs cells slots hl hr hq hc hs)
      · cases ho
    · cases ho
  · cases ho
theorem ok_cald {j pc nx : Nat} (hd : decode (ax_code j) pc = .ok (.caload, 1)) (hn : ax_pc j nx = pc + 1) : ax_Ok j pc (ax_ald 1 nx) := by
  refine ax_Ok.of (pl_ald _ _) ?_
  intro p l e R s m args below meth c Q z n0 s0 cx hfr hlo L st h i' L' st' h' ho hcz hsz kk ls H locs cells slots hl hr hq hc hs
  obtain ⟨hx, hb, hml, hown, hts, hnw, hao, hK, hini⟩ := cx
  unfold ax_ald at ho
  split at ho
  · next i o t =>
    split at ho
    · next tz n f hcell =>
      split at ho
      · next hcnd =>
        obtain ⟨rfl, h0, h1, hin⟩ := hcnd
        cases ho
        rw [hn] at kk
        exact va_cald hx hb hK (ax_one hr h0 h1 hcell) 0 1 rfl rfl (ax_inE hin) hd (kk ls H locs cells slots hl hr hq hc hs)
      · cases ho
    · cases ho
  · cases ho
theorem ok_sld {j pc nx : Nat} (hd : decode (ax_code j) pc = .ok (.iaload, 1)) (hn : ax_pc j nx = pc + 1) : ax_Ok j pc (ax_sld nx) := by
  refine ax_Ok.of (pl_sld _) ?_
  intro p l e R s m args below meth c Q z n0 s0 cx hfr hlo L st h i' L' st' h' ho hcz hsz kk ls H locs cells slots hl hr hq hc hs
  obtain ⟨hx, hb, hml, hown, hts, hnw, hao, hK, hini⟩ := cx
  unfold ax_sld at ho
  split at ho
  · next i t =>
    split at ho
    · next n f hcell =>
      split at ho
      · next hin =>
        cases ho
        rw [hn] at kk
        obtain ⟨LL, xs, e1, scr, c1, c2, c3, c4, c5⟩ := hr.2.2.2.2
        rw [hcell] at e1
        cases e1
        have hv := ax_inE hin
        have hlt : i.toNatClampNeg < n := Nat.not_le.mp fun q => hv (Or.inr q)
        exact W.iald (v := .int (f i.toNatClampNeg)) hx hb c1 c2 c3 (by rw [c4]; exact hv) (c5 _ hlt) rfl rfl hd (kk ls H locs cells slots hl hr hq hc hs)
      · cases ho
    · cases ho
  · cases ho
theorem ok_slen {j pc nx : Nat} (hd : decode (ax_code j) pc = .ok (.arraylength, 1)) (hn : ax_pc j nx = pc + 1) : ax_Ok j pc (ax_slen nx) := by
  refine ax_Ok.of (pl_slen _) ?_
  intro p l e R s m args below meth c Q z n0 s0 cx hfr hlo L st h i' L' st' h' ho hcz hsz kk ls H locs cells slots hl hr hq hc hs
  obtain ⟨hx, hb, hml, hown, hts, hnw, hao, hK, hini⟩ := cx
  unfold ax_slen at ho
  split at ho
  · next t =>
    split at ho
    · next n f hcell =>
      cases ho
      rw [hn] at kk
      obtain ⟨LL, xs, e1, scr, c1, c2, c3, c4, c5⟩ := hr.2.2.2.2
      rw [hcell] at e1
      cases e1
      exact W.alen hx hb c1 c2 (by rw [c4]) rfl rfl hd (kk ls H locs cells slots hl hr hq hc hs)
    · cases ho
  · cases ho
theorem ax_stAt {z : ax_Z} {o t n : Nat} {f : Nat → Int32} {i : Nat} {x : Int32} {H1 : Heap} (e : H1[ax_ad z o]? = some ((arrV (z.2.1 t) n (fun j => .int (f j))).setSlot i (.int x))) : va_at z.1 vwCl (ax_ad z o, ax_cc z (.inl (t, n, .inl (upd f i x)))) H1 := by
  show H1[ax_ad z o]? = some (vp_cell _ _)
  rw [e, vp_cell_i, arrV_store]
  congr 2
  funext q
  by_cases hq : q = i
  · subst hq; simp [updV, upd]
  · simp [updV, upd, hq]
theorem ok_iast {j pc nx : Nat} (hd : decode (ax_code j) pc = .ok (.iastore, 1)) (hn : ax_pc j nx = pc + 1) : ax_Ok j pc (ax_ast 0 nx) := by
  refine ax_Ok.of (pl_ast _ _) ?_
  intro p l e R s m args below meth c Q z n0 s0 cx hfr hlo L st h i' L' st' h' ho hcz hsz kk ls H locs cells slots hl hr hq hc hs
  obtain ⟨hx, hb, hml, hown, hts, hnw, hao, hK, hini⟩ := cx
  unfold ax_ast at ho
  split at ho
  · next x i o t =>
    split at ho
    · next tz n f hcell =>
      split at ho
      · next hcnd =>
        obtain ⟨rfl, h0, h1, hin⟩ := hcnd
        cases ho
        rw [hn] at kk
        refine W.iast hx hb (ax_arr hr h0 h1 hcell) ((hK.2 0 _ rfl).1 n (fun j => .int (f j))) (fun q => by cases q) (by rw [arrV_size]; exact ax_inE hin) rfl rfl hd fun H1 e1 e2 e3 => ?_
        exact kk ls H1 _ cells slots hl (hr.set h0 _ e2 (ax_stAt e1) e3) (ax_locs h0 hq) hc hs
      · cases ho
    · cases ho
  · cases ho
theorem ax_narC (x : Int32) : narrow .char (.int x) = .int (vp_nar .char x) := rfl
theorem ok_cast {j pc nx : Nat} (hd : decode (ax_code j) pc = .ok (.castore, 1)) (hn : ax_pc j nx = pc + 1) : ax_Ok j pc (ax_ast 1 nx) := by
  refine ax_Ok.of (pl_ast _ _) ?_
  intro p l e R s m args below meth c Q z n0 s0 cx hfr hlo L st h i' L' st' h' ho hcz hsz kk ls H locs cells slots hl hr hq hc hs
  obtain ⟨hx, hb, hml, hown, hts, hnw, hao, hK, hini⟩ := cx
  unfold ax_ast at ho
  split at ho
  · next x i o t =>
    split at ho
    · next tz n f hcell =>
      split at ho
      · next hcnd =>
        obtain ⟨rfl, h0, h1, hin⟩ := hcnd
        cases ho
        rw [hn] at kk
        refine W.cast hx hb (ax_arr hr h0 h1 hcell) ((hK.2 1 _ rfl).1 n (fun j => .int (f j))) (fun q => by cases q) (by rw [arrV_size]; exact ax_inE hin) rfl rfl hd fun H1 e1 e2 e3 => ?_
        rw [ax_narC] at e1
        exact kk ls H1 _ cells slots hl (hr.set h0 _ e2 (ax_stAt e1) e3) (ax_locs h0 hq) hc hs
      · cases ho
    · cases ho
  · cases ho
/-- the type of an array of references, by its number -/
theorem ax_ety {z : ax_Z} {t : Nat} (h2 : 2 ≤ t) (h4 : t ≤ 4) : ∃ r : vw_C, vwCl[ax_ec t]? = some r ∧ (ax_tys z)[t]? = some (z.2.1 t, .object r.1) := by
  rcases (by omega : t = 2 ∨ t = 3 ∨ t = 4) with rfl | rfl | rfl
  · exact ⟨_, rfl, rfl⟩
  · exact ⟨_, rfl, rfl⟩
  · exact ⟨_, rfl, rfl⟩
theorem ok_aald {j pc nx : Nat} (hd : decode (ax_code j) pc = .ok (.aaload, 1)) (hn : ax_pc j nx = pc + 1) : ax_Ok j pc (ax_aald nx) := by
  refine ax_Ok.of (pl_aald _) ?_
  intro p l e R s m args below meth c Q z n0 s0 cx hfr hlo L st h i' L' st' h' ho hcz hsz kk ls H locs cells slots hl hr hq hc hs
  obtain ⟨hx, hb, hml, hown, hts, hnw, hao, hK, hini⟩ := cx
  unfold ax_aald at ho
  split at ho
  · next i o t =>
    split at ho
    · next tz n f hcell =>
      split at ho
      · next hcnd =>
        obtain ⟨ha, hb', h0, h1, hin⟩ := hcnd
        cases ho
        rw [hn] at kk
        obtain ⟨r, -, hr2⟩ := ax_ety (z := z) ha hb'
        exact va_aldq hx hb hK (ax_one hr h0 h1 hcell) 0 tz rfl hr2 (ax_inE hin) hd (kk ls H locs cells slots hl hr hq hc hs)
      · cases ho
    · cases ho
  · cases ho
theorem ok_aast {j pc nx : Nat} (hd : decode (ax_code j) pc = .ok (.aastore, 1)) (hn : ax_pc j nx = pc + 1) : ax_Ok j pc (ax_aast nx) := by
  refine ax_Ok.of (pl_aast _) ?_
  intro p l e R s m args below meth c Q z n0 s0 cx hfr hlo L st h i' L' st' h' ho hcz hsz kk ls H locs cells slots hl hr hq hc hs
  obtain ⟨hx, hb, hml, hown, hts, hnw, hao, hK, hini⟩ := cx
  unfold ax_aast at ho
  split at ho
  · next v i o t =>
    split at ho
    · next tz n f cj fs hcell hcv =>
      split at ho
      · next hcnd =>
        obtain ⟨ha, hb', h0, h1, hin, v0, v1, rfl⟩ := hcnd
        cases ho
        rw [hn] at kk
        obtain ⟨r, hc0, hr2⟩ := ax_ety (z := z) ha hb'
        have hvin := ax_inE hin
        have hlt : i.toNatClampNeg < n := Nat.not_le.mp fun q => hvin (Or.inr q)
        have hni : ¬ i < 0 := fun q => hvin (Or.inl q)
        have hat := hr.at v0 v1
        rw [hcv] at hat
        obtain ⟨r', hr', cellV, g1, g2, g3, -⟩ := hat
        have hcls := (hK.1 (ax_ec tz) r hc0).2
        obtain ⟨kA, comp, k1, k2, k3, -⟩ := (hK.2 tz _ hr2).2
        have hcomp : comp = z.1.1 (ax_ec tz) := Option.some.inj (k3.symm.trans hcls.1)
        subst hcomp
        obtain ⟨kC, hkC, -⟩ := hcls.2
        have hao' := hr.at h0 h1
        rw [hcell] at hao'
        have hao2 : H[ax_ad z o]? = some (arrV (z.2.1 tz) n (fun j => va_rf ((f j).map (ax_ad z)))) := hao'
        refine W.aast hx hb hao2 (fun q h => by cases h) (fun h => by cases h) k1 k2 rfl hkC ⟨hni, by rw [arrV_size]; exact hlt⟩ g1 (fun q h => by rw [g3] at h; cases h) (by rw [g2]; exact hkC) (by rw [g2]; exact va_assign hcls) rfl rfl hd fun H1 e1 e2 e3 => ?_
        refine kk ls H1 _ cells slots hl (hr.set h0 _ e2 ?_ e3) (ax_locs h0 hq) hc hs
        show H1[ax_ad z o]? = some (vp_cell _ _)
        rw [e1, vp_cell_q, arrV_store]
        congr 2
        funext q
        by_cases hqi : q = i.toNatClampNeg
        · subst hqi; simp [updV, va_up, va_rf]
        · simp [updV, va_up, hqi]
      · cases ho
    · cases ho
  · cases ho
theorem ok_new {j pc ci nx : Nat} {fs : List ax_V} {C : String} {T : u_T} {N idx : Nat} (hcl : vwCl[ci]? = some (C, T, N)) (hin : ∀ w ∈ u_ws C T N, w ∈ ax_ws) (ty0 : Nat → FieldType) (hty : ∀ k, k < N → parseFieldDescriptor (T k).2.2.1 = some (ty0 k)) (hdf : ∀ k, k < N → defaultValue (ty0 k) = vp_V (fs.map (fun v => match v with | .inl x => Value.int x | .inr _ => Value.null)) k) (hfs : fs.length = N) (hnr : fs.all (fun v => match v with | .inl _ => true | .inr r => r.isNone) = true) (hlink : Cond.classLink (ax_y j).cls idx C ∈ ax_ws) (hinst : Cond.instantiable C N ∈ ax_ws) (hini0 : Cond.initialized C ∈ ax_ws) (hd : decode (ax_code j) pc = .ok (.new idx, 3)) (hn : ax_pc j nx = pc + 3) : ax_Ok j pc (ax_new ci fs nx) := by
  refine ax_Ok.of (pl_new _ _ _) ?_
  intro p l e R s m args below meth c Q z n0 s0 cx hfr hlo L st h i' L' st' h' ho hcz hsz kk ls H locs cells slots hl hr hq hc hs
  obtain ⟨hx, hb, hml, hown, hts, hnw, hao, hK, hini⟩ := cx
  cases ho
  rw [hn] at kk
  have hKn := hK.1 ci _ hcl
  have hcz' : h.1 + 1 ≤ R.cells + n0 := hcz
  have hsz' : h.2.1 + fs.length ≤ R.slots + s0 := hsz
  refine W.newcK hx hb hown (hts _ hlink) (hts _ hinst) (hts _ hini0) rfl hd (by omega) (by omega) hKn.2.1 rfl fun H1 kC hkC e1 z1 o1 => ?_
  have hmap : fs.map (ax_cv z) = fs.map (fun v => match v with | .inl x => Value.int x | .inr _ => Value.null) := by
    apply List.map_congr_left
    intro v hv
    have := List.all_eq_true.mp hnr v hv
    rcases v with x | r
    · rfl
    · cases r with
      | none => rfl
      | some a => cases this
  have hrel := hr.push fs.length (.inr (ci, fs)) z1 (show va_at z.1 vwCl (H.size, ax_cc z (.inr (ci, fs))) H1 from ⟨_, hcl, by
    show t_OB _ _ _ _ H1 (vp_V (fs.map (ax_cv z)))
    rw [hmap]
    exact (u_born ty0 hts hin hKn hkC e1 hty).to hdf⟩) o1
  have := kk ls H1 locs (cells + 1) (slots + N) hl hrel hq (by show cells + 1 + n0 = h.1 + 1; omega) (by show slots + N + s0 = h.2.1 + fs.length; omega)
  rw [show (List.map (ax_cv z) (Sum.inr (some h.1) :: st)) = .ref H.size :: st.map (ax_cv z) from by rw [← hr.next]; rfl] at this
  exact this
theorem ax_newaU {j pc nx t : Nat} {at0 : ArrayType} {ty : FieldType} (hty : newarray.typeOf at0 = ty) (ht : ∀ z : ax_Z, (ax_tys z)[t]? = some (z.2.1 t, ty)) (hnr : ∀ (U : State) (cA : ClassId), va_RA U cA ty → U.vm.findClass ("[" ++ ty.toString) = some cA) (hdef : defaultValue ty = .int 0) (hby : componentBytes ty ≤ 8) (hlink : Cond.arrayClass ty ∈ ax_ws) (hd : decode (ax_code j) pc = .ok (.newarray at0, 2)) (hn : ax_pc j nx = pc + 2) : ax_Ok j pc (ax_newa t nx) := by
  subst hty
  refine ax_Ok.of (pl_newa _ _) ?_
  intro p l e R s m args below meth c Q z n0 s0 cx hfr hlo L st h i' L' st' h' ho hcz hsz kk ls H locs cells slots hl hr hq hc hs
  obtain ⟨hx, hb, hml, hown, hts, hnw, hao, hK, hini⟩ := cx
  unfold ax_newa at ho
  split at ho
  · next n t' =>
    split at ho
    · next hcnd =>
      cases ho
      rw [hn] at kk
      have hcz' : h.1 + 1 ≤ R.cells + n0 := hcz
      have hsz' : h.2.1 + n.toNatClampNeg ≤ R.slots + s0 := hsz
      refine va_newaK hx hb (hts _ hlink) rfl hd rfl hcnd.1 rfl (Nat.le_trans (Nat.mul_le_mul hcnd.2 hby) (by decide)) (by omega) (by omega) rfl fun H1 cA e1 z1 o1 hAr hNm => ?_
      have hcA : cA = z.2.1 t := Option.some.inj (hNm.symm.trans (hnr _ _ (hK.2 t _ (ht z)).2))
      subst hcA
      have hrel := hr.push n.toNatClampNeg (.inl (t, n.toNatClampNeg, .inl (fun _ => 0))) z1 (show va_at z.1 vwCl (H.size, ax_cc z (.inl (t, n.toNatClampNeg, .inl (fun _ => 0)))) H1 from by
        show H1[H.size]? = some (vp_cell _ _)
        rw [e1, vp_cell_i, hdef]) o1
      have := kk ls H1 locs (cells + 1) (slots + n.toNatClampNeg) hl hrel hq (by show cells + 1 + n0 = h.1 + 1; omega) (by show slots + n.toNatClampNeg + s0 = h.2.1 + n.toNatClampNeg; omega)
      rw [show (List.map (ax_cv z) (Sum.inr (some h.1) :: t')) = .ref H.size :: t'.map (ax_cv z) from by rw [← hr.next]; rfl] at this
      exact this
    · cases ho
  · cases ho
theorem ok_newa0 {j pc nx : Nat} (hlink : Cond.arrayClass .int ∈ ax_ws) (hd : decode (ax_code j) pc = .ok (.newarray .int, 2)) (hn : ax_pc j nx = pc + 2) : ax_Ok j pc (ax_newa 0 nx) := ax_newaU (at0 := .int) rfl (fun _ => rfl) (fun _ _ h => h) rfl (by decide) hlink hd hn
theorem ok_newa1 {j pc nx : Nat} (hlink : Cond.arrayClass .char ∈ ax_ws) (hd : decode (ax_code j) pc = .ok (.newarray .char, 2)) (hn : ax_pc j nx = pc + 2) : ax_Ok j pc (ax_newa 1 nx) := ax_newaU (at0 := .char) rfl (fun _ => rfl) (fun _ _ h => h) rfl (by decide) hlink hd hn
theorem ok_newq {j pc nx t : Nat} {C : String} {idx : Nat} (hC : C ∈ ax_ao) (ht : ∀ z : ax_Z, (ax_tys z)[t]? = some (z.2.1 t, .object C)) (hlink : Cond.classLink (ax_y j).cls idx C ∈ ax_ws) (h2 : 2 ≤ t) (hd : decode (ax_code j) pc = .ok (.anewarray idx, 3)) (hn : ax_pc j nx = pc + 3) : ax_Ok j pc (ax_newq t nx) := by
  refine ax_Ok.of (pl_newq _ _) ?_
  intro p l e R s m args below meth c Q z n0 s0 cx hfr hlo L st h i' L' st' h' ho hcz hsz kk ls H locs cells slots hl hr hq hc hs
  obtain ⟨hx, hb, hml, hown, hts, hnw, hao, hK, hini⟩ := cx
  unfold ax_newq at ho
  split at ho
  · next n t' =>
    split at ho
    · next hcnd =>
      cases ho
      rw [hn] at kk
      have hcz' : h.1 + 1 ≤ R.cells + n0 := hcz
      have hsz' : h.2.1 + n.toNatClampNeg ≤ R.slots + s0 := hsz
      refine W.anew hx hb hown (hts _ hlink) (va_AO.use (hao _ hC)) rfl hd rfl hcnd.1 (by omega) (by omega) (by omega) fun cA kA comp h1 h2' h3 h4 => ?_
      obtain ⟨kA', comp', -, -, -, hNm⟩ := (hK.2 t _ (ht z)).2
      have hcA : cA = z.2.1 t := Option.some.inj (h1.symm.trans hNm)
      subst hcA
      have hrel := hr.push (H1 := H.push { cls := z.2.1 t, slots := Array.replicate n.toNatClampNeg .null, vm := .none }) n.toNatClampNeg (.inl (t, n.toNatClampNeg, .inr (fun _ => none))) (by simp) (show va_at z.1 vwCl (H.size, ax_cc z (.inl (t, n.toNatClampNeg, .inr (fun _ => none)))) _ from by
        show (H.push _)[H.size]? = some (vp_cell _ _)
        rw [arrV_new]
        simp
        rfl) (fun q hq => by rw [Array.getElem?_push, if_neg (Nat.ne_of_lt hq)])
      have := kk ls _ locs (cells + 1) (slots + n.toNatClampNeg) hl hrel hq (by show cells + 1 + n0 = h.1 + 1; omega) (by show slots + n.toNatClampNeg + s0 = h.2.1 + n.toNatClampNeg; omega)
      rw [show (List.map (ax_cv z) (Sum.inr (some h.1) :: t')) = .ref H.size :: t'.map (ax_cv z) from by rw [← hr.next]; rfl] at this
      exact this
    · cases ho
  · cases ho
end
section
/-! Switches, calls, returns. -/
theorem ok_lsw {j pc d : Nat} {ks : List (Int × Nat)} {dflt : Int} {ps : Array (Int × Int)} {len : Nat} (hd : decode (ax_code j) pc = .ok (.lookupswitch dflt ps, len)) (ho2 : (ps.toList.zip (ps.toList.drop 1)).all (fun (a, next) => a.1 < next.1) = true ∧ ks = ps.toList.map (fun q => (q.1, ((ax_pcs.getD j []).idxOf ((pc : Int) + q.2).toNat))) ∧ (pc : Int) + dflt = (ax_pc j d : Int) ∧ ps.toList.all (fun q => decide ((pc : Int) + q.2 = (ax_pc j ((ax_pcs.getD j []).idxOf ((pc : Int) + q.2).toNat) : Int))) = true) : ax_Ok j pc (ax_sw ks d) := by
  refine ax_Ok.of (pl_sw _ _) ?_
  intro p l e R s m args below meth c Q z n0 s0 cx hfr hlo L st h i' L' st' h' ho hcz hsz kk ls H locs cells slots hl hr hq hc hs
  obtain ⟨hx, hb, hml, hown, hts, hnw, hao, hK, hini⟩ := cx
  obtain ⟨hp, hks, hdf, hall⟩ := ho2
  unfold ax_sw at ho
  split at ho
  · next x t =>
    cases ho
    have key : ∀ (l : List (Int × Int)), l.all (fun q => decide ((pc : Int) + q.2 = (ax_pc j ((ax_pcs.getD j []).idxOf ((pc : Int) + q.2).toNat) : Int))) = true → (pc : Int) + Op.lookupswitch.offset l dflt x.toInt = (ax_pc j (ax_sel x (l.map (fun q => (q.1, ((ax_pcs.getD j []).idxOf ((pc : Int) + q.2).toNat)))) d) : Int) := by
      intro l
      induction l with
      | nil => intro _; exact hdf
      | cons q l ih =>
        intro ha
        rw [List.all_cons, Bool.and_eq_true] at ha
        by_cases hxq : x.toInt = q.1
        · simp only [List.map_cons, ax_sel, hxq, if_true]
          have h1 := of_decide_eq_true ha.1
          simp only [Op.lookupswitch.offset, hxq]
          simpa using h1
        · simp only [List.map_cons, ax_sel, hxq, if_false]
          have h2 := ih ha.2
          have hxq' : ¬ q.1 = x.toInt := fun w => hxq w.symm
          simp only [Op.lookupswitch.offset]
          simpa [hxq, hxq'] using h2
    subst hks
    exact lv_lookup hx hb hd hp rfl (key ps.toList hall) (kk ls H locs cells slots hl hr hq hc hs)
  · cases ho
/-- a table switch from 0 on -/
theorem ax_selT (x : Int32) (d : Nat) : ∀ (ts : List Nat) (a : Nat), ax_sel x ((List.range' a ts.length).zip ts |>.map (fun q => ((q.1 : Int), q.2))) d = if (a : Int) ≤ x.toInt ∧ x.toInt < a + ts.length then ts.getD (x.toInt - a).toNat d else d
  | [], a => by simp [ax_sel]
  | t :: ts, a => by
    have ih := ax_selT x d ts (a + 1)
    simp only [List.length_cons, List.range'_succ, List.zip_cons_cons, List.map_cons, ax_sel]
    by_cases hx : x.toInt = (a : Int)
    · rw [if_pos hx, if_pos (by omega), hx]
      simp
    · rw [if_neg hx, ih]
      by_cases h2 : (a : Int) ≤ x.toInt ∧ x.toInt < a + (ts.length + 1 : Nat)
      · rw [if_pos h2, if_pos (by push_cast at h2 ⊢; omega)]
        rw [show (x.toInt - (a : Int)).toNat = (x.toInt - ((a + 1 : Nat) : Int)).toNat + 1 by omega]
        simp
      · rw [if_neg h2, if_neg (by push_cast at h2 ⊢; omega)]
theorem ax_swU {j pc d : Nat} {ks : List (Int × Nat)} {dflt hi : Int} {offs : Array Int} {len : Nat} {ts : List Nat} (hd : decode (ax_code j) pc = .ok (.tableswitch dflt 0 hi offs, len)) (hts' : ks = ((List.range' 0 ts.length).zip ts |>.map (fun q => ((q.1 : Int), q.2)))) (hlen : (ts.length : Int) = hi + 1) (hol : offs.size = ts.length) (hdf : (pc : Int) + dflt = (ax_pc j d : Int)) (hall : ∀ i, i < ts.length → (pc : Int) + offs.getD i 0 = (ax_pc j (ts.getD i d) : Int)) : ax_Ok j pc (ax_sw ks d) := by
  refine ax_Ok.of (pl_sw _ _) ?_
  intro p l e R s m args below meth c Q z n0 s0 cx hfr hlo L st h i' L' st' h' ho hcz hsz kk ls H locs cells slots hl hr hq hc hs
  obtain ⟨hx, hb, hml, hown, hts, hnw, hao, hK, hini⟩ := cx
  unfold ax_sw at ho
  split at ho
  · next x t =>
    cases ho
    subst hts'
    rw [ax_selT] at kk
    by_cases hin : ((0 : Nat) : Int) ≤ x.toInt ∧ x.toInt < ((0 : Nat) : Int) + (ts.length : Nat)
    · rw [if_pos hin] at kk
      have hi2 : (x.toInt - 0).toNat < ts.length := by omega
      have h0 : ((0 : Nat) : Int) = 0 := rfl
      rw [h0] at kk hin
      refine lv_tableIn hx hb hd (by omega) (by omega) (off := offs.getD (x.toInt - 0).toNat 0) ?_ (hall _ hi2) (kk ls H locs cells slots hl hr hq hc hs)
      rw [Array.getD_eq_getD_getElem?]
      rw [Array.getElem?_eq_getElem (by omega)]
      rfl
    · rw [if_neg hin] at kk
      exact lv_tableOut hx hb hd (by have h0 : ((0 : Nat) : Int) = 0 := rfl
                                     rw [h0] at hin
                                     omega) hdf (kk ls H locs cells slots hl hr hq hc hs)
  · cases ho
theorem ax_catS (z : ax_Z) : ∀ t : List ax_V, ((t.map (ax_cv z)).map fun v => v.category).sum = t.length
  | [] => rfl
  | v :: t => by
    simp only [List.map_cons, List.sum_cons, List.length_cons, ax_catS z t, ax_cat]
    omega
/-- Object.<init> -/
theorem ok_obj {j pc nx : Nat} {idx : Nat} (hlink : Cond.methodLink (ax_y j).cls idx objectInit ∈ ax_ws) (hin2 : Cond.instanceMethod objectInit ∈ ax_ws) (hco : Cond.code objectInit ⟨#[0xb1]⟩ 1 none ∈ ax_ws) (hd : decode (ax_code j) pc = .ok (.invokespecial idx, 3)) (hn : ax_pc j nx = pc + 3) : ax_Ok j pc (ax_obj nx) := by
  refine ax_Ok.of (pl_obj _) ?_
  intro p l e R s m args below meth c Q z n0 s0 cx hfr hlo L st h i' L' st' h' ho hcz hsz kk ls H locs cells slots hl hr hq hc hs
  obtain ⟨hx, hb, hml, hown, hts, hnw, hao, hK, hini⟩ := cx
  unfold ax_obj at ho
  split at ho
  · next o t =>
    split at ho
    · next hlen =>
      cases ho
      rw [hn] at kk
      have hcat := ax_catS z st'
      refine W.objInit hx hb hown (hts _ hlink) (hts _ hin2) (hts _ hco) rfl (by rw [hml]; exact hl.1) (rest := st'.map (ax_cv z)) rfl hd hfr (by rw [hcat]; show 2 * 0 + _ + 12 ≤ _; omega) ?_
      exact kk ls H locs cells slots hl hr hq hc hs
    · cases ho
  · cases ho
/-- behind a call -/
theorem ax_after {p : Program} {l : Launch} {e : Env} {R : Room} {s : State} {m : MethodId} {args : Array Value} {below : List Frame} {meth : Method} {c : Code} {Q : State → Prop} {H : Heap} {locs : List Loc} {cells slots mc ms pc : Nat} {ls : Array Slot} {st0 rest : List Value} {z : ax_Z} {r : Option ax_V} {h' : ax_H} {a : Array Value}
    (hr : va_Run p l e R s m args below meth c H locs cells slots mc ms (F0 m pc ls st0) rest (ax_Qc z r h' a) (fun q => z.2.2.1 ≤ q)) (hq : ∀ q ∈ locs, z.2.2.1 ≤ q.base)
    (kk : ∀ (H1 : Heap) (locs1 : List Loc), ax_rel z h' s H1 → (∀ q ∈ locs1, z.2.2.1 ≤ q.base) → W p l e R s m args below meth c H1 locs1 (cells + mc) (slots + ms) Q (F0 m (pc + 3) ls ((r.map (ax_cv z)).toList ++ rest))) : W p l e R s m args below meth c H locs cells slots Q (F0 m pc ls st0) := by
  intro T hT X
  obtain ⟨v, st₀, t, T', L, h0, X', hL, e1, e2, ⟨hv, hrel⟩, st⟩ := hr T hT X
  cases hv
  have hal : t.vm.Alike s.vm := by rw [← e2]; exact X'.warmed.alike.symm
  obtain ⟨t2, a1, b1⟩ := kk T'.heap (locs ++ L) (by rw [e1]; exact hrel.moved hal) (fun q hq' => by
      rcases List.mem_append.mp hq' with h | h
      · exact hq q h
      · exact hL q h) T' rfl X'
  exact ⟨t2, st t2 a1, b1⟩
theorem ax_nest_tab {w : Cond} (h : w ∈ ax_nw) : w.onTables = true := by
  have := (List.mem_filter.mp h).2
  cases w <;> first | (cases this; done) | rfl
theorem ax_nest_warm {w : Cond} {s U : State} (hW : s.WarmedH U.vm) (h : w ∈ ax_nw) (hz : va_Nw w s) : va_Nw w U := by
  have := (List.mem_filter.mp h).2
  cases w <;> first | (cases this; done) | exact va_Nw.warmM hW hz | exact va_Nw.warmF hW hz
/-- what a call needs of its caller's place -/
theorem ax_pre {z : ax_Z} {h : ax_H} {s : State} {H : Heap} {as : List ax_V} (hr : ax_rel z h s H) (hK : va_K z.1 vwCl (ax_tys z) s) (hnw : ∀ w ∈ ax_nw, va_Nw w s) (hao : ∀ C ∈ ax_ao, va_AO C s) : PreS s H (ax_Pc z as h) (as.map (ax_cv z)) := by
  refine ⟨fun a U g mk q => ?_, fun U hU hW => ⟨rfl, ?_, va_K.moved hW.alike hK, fun w hw => ?_, fun C hC => (hao C hC).moved hW.alike⟩⟩
  · obtain ⟨q0, q1, q2, q3, q4⟩ := q
    exact ⟨q0, q1.moved (Vm.Alike.refl U.vm), va_K.moved (u := U) (U := U.calling g mk a) (Vm.Alike.refl U.vm) q2, fun w hw => va_Nw.same (ax_nest_tab hw) (rfl : U.vm = (U.calling g mk a).vm) (q3 w hw), fun C hC => (q4 C hC).moved (U := U.calling g mk a) (Vm.Alike.refl U.vm)⟩
  · rw [hU]
    exact hr.moved hW.alike
  · exact ax_nest_warm hW hw (hnw w hw)
end
section
/-! Calls and returns. -/
theorem ax_good : ∀ w ∈ ax_ws, w ∈ ax_ws ∧ ((w.onTables && w.keeps) = true ∨ ∃ ty, w = .arrayClass ty) := fun w h => ⟨h, good_of_word (List.mem_filter.mp h).2⟩
theorem ax_goodM {k : Nat} (hc : Cond.code (ax_y k) (ax_code k) (ax_nL k) (ax_rt0 k) ∈ ax_ws) : GoodIn ax_ws (ax_wsm k) := by
  intro w hw
  rcases List.mem_cons.mp hw with rfl | h
  · exact ax_good _ hc
  · exact ax_good _ h
/-- the room of a call -/
theorem ax_rm {k d : Nat} {R : Room} (hnl : ax_nL k ≤ 40) (h1 : d + 1 ≤ R.frames) (h2 : 60 * (d + 1) ≤ R.locals) : d + 1 ≤ R.frames ∧ 8 + (ax_nL k + 11) + 60 * d ≤ R.locals := ⟨h1, by omega⟩
/-- what is asked of a called method k with n arguments -/
def ax_mOk (k n : Nat) : Prop := Cond.code (ax_y k) (ax_code k) (ax_nL k) (ax_rt0 k) ∈ ax_ws ∧ ((ax_y k).cls ≠ "java/lang/invoke/MethodHandle" ∧ (ax_y k).cls ≠ "java/lang/invoke/VarHandle" ∧ (parseMethodDescriptor (ax_y k).desc).map (fun d => d.parameters.length) = some n) ∧ ax_nL k ≤ 40 ∧ n + 1 ≤ ax_nL k + 1 ∧ plainName (ax_y k).cls = true
theorem ax_callOk {j pc : Nat} {o : ax_O} (h : ax_OKc j pc o) (h1 : ∀ L st h x, o L st h ≠ some (.inl x)) (h2 : ∀ L st h x, o L st h ≠ some (.inr (.inr x))) (h3 : ax_ln o) : ax_Ok j pc o :=
  ⟨fun _ _ _ _ _ _ _ _ _ _ _ _ _ _ _ _ _ _ _ _ _ _ _ _ q => absurd q (h1 _ _ _ _), h, fun _ _ _ _ _ _ _ _ _ _ _ _ _ _ _ _ _ _ _ _ q => absurd q (h2 _ _ _ _), fun _ _ _ _ q => absurd q (h1 _ _ _ _), h3⟩
theorem ok_callS {j pc k n nx idx : Nat} (hlink : Cond.methodLink (ax_y j).cls idx (ax_y k) ∈ ax_ws) (hst : Cond.static (ax_y k) ∈ ax_ws) (hin : Cond.initialized (ax_y k).cls ∈ ax_ws) (hm : ax_mOk k n) (hd : decode (ax_code j) pc = .ok (.invokestatic idx, 3)) (hn : ax_pc j nx = pc + 3) : ax_Ok j pc (ax_callS k n nx) := by
  refine ax_callOk ?_ (fun L st h x q => by unfold ax_callS at q; split at q <;> cases q) (fun L st h x q => by unfold ax_callS at q; split at q <;> cases q) (fun L st h k' as i' L' st' q => by
    unfold ax_callS at q
    split at q
    · cases q
      exact ⟨by rw [List.length_reverse, List.length_take]; have := hm.2.2.2.1; omega, hm.2.2.2.2⟩
    · cases q)
  intro p l e R s m args below meth c Q z n0 s0 d cx hfr hlo L st h k' as i' L' st' ho r h' hM hg1 hg2 hcz hsz kk ls H locs cells slots hl hr hq hc hs
  obtain ⟨hx, hb, hml, hown, hts, hnw, hao, hK, hini⟩ := cx
  unfold ax_callS at ho
  split at ho
  · next hlen =>
    cases ho
    rw [hn] at kk
    have hst2 : st.map (ax_cv z) = (((st.take n).reverse).map (ax_cv z)).reverse ++ (st.drop n).map (ax_cv z) := by
      rw [← List.map_reverse, List.reverse_reverse, ← List.map_append, List.take_append_drop]
    have hrun := va_runS (nL := ax_nL j) (As := ((st.take n).reverse).map (ax_cv z)) (rest := (st.drop n).map (ax_cv z)) (g := F0 m pc ls (st.map (ax_cv z))) (cells := cells) (slots := slots) (locs := locs) (H := H) (e := e) (below := below) (meth := meth) (R := R) ⟨hx, hb, hml, hown, hts⟩ hM
      ⟨callB_of n hts (ax_goodM hm.1) rfl rfl rfl (hts _ hin) (hts _ hlink) hm.2.1 (ax_rm hm.2.2.1 hfr hlo), hts _ hst⟩ (ax_pre hr hK hnw hao) rfl (by rw [List.length_map, List.length_reverse, List.length_take]; omega) hl.1 hst2 (by rw [ax_catS]; show 2 * 0 + _ ≤ 8; rw [List.length_drop]; omega) hd ⟨by omega, by omega⟩
    refine ax_after hrun hq (fun H1 locs1 hr1 hq1 => ?_)
    have := kk ls H1 locs1 (cells + (h'.1 - h.1)) (slots + (h'.2.1 - h.2.1)) hl hr1 hq1 (by omega) (by omega)
    rw [List.map_append] at this
    cases r with
    | none => exact this
    | some v => exact this
  · cases ho
theorem ok_callSN {j pc k n nx idx : Nat} {host : String} (hlink : Cond.methodLinkNest (ax_y j).cls idx (ax_y k) host ∈ ax_nw) (hst : Cond.static (ax_y k) ∈ ax_ws) (hin : Cond.initialized (ax_y k).cls ∈ ax_ws) (hm : ax_mOk k n) (hd : decode (ax_code j) pc = .ok (.invokestatic idx, 3)) (hn : ax_pc j nx = pc + 3) : ax_Ok j pc (ax_callS k n nx) := by
  refine ax_callOk ?_ (fun L st h x q => by unfold ax_callS at q; split at q <;> cases q) (fun L st h x q => by unfold ax_callS at q; split at q <;> cases q) (fun L st h k' as i' L' st' q => by
    unfold ax_callS at q
    split at q
    · cases q
      exact ⟨by rw [List.length_reverse, List.length_take]; have := hm.2.2.2.1; omega, hm.2.2.2.2⟩
    · cases q)
  intro p l e R s m args below meth c Q z n0 s0 d cx hfr hlo L st h k' as i' L' st' ho r h' hM hg1 hg2 hcz hsz kk ls H locs cells slots hl hr hq hc hs
  obtain ⟨hx, hb, hml, hown, hts, hnw, hao, hK, hini⟩ := cx
  unfold ax_callS at ho
  split at ho
  · next hlen =>
    cases ho
    rw [hn] at kk
    have hst2 : st.map (ax_cv z) = (((st.take n).reverse).map (ax_cv z)).reverse ++ (st.drop n).map (ax_cv z) := by
      rw [← List.map_reverse, List.reverse_reverse, ← List.map_append, List.take_append_drop]
    have hrun := va_runSN (nL := ax_nL j) (As := ((st.take n).reverse).map (ax_cv z)) (rest := (st.drop n).map (ax_cv z)) (g := F0 m pc ls (st.map (ax_cv z))) (cells := cells) (slots := slots) (locs := locs) (H := H) (e := e) (below := below) (meth := meth) (R := R) (p := p) ⟨hx, hb, hml, hown, hts⟩ hM
      ⟨va_cnB n hts (ax_goodM hm.1) rfl rfl rfl (hnw _ hlink) (hts _ hin) hm.2.1 (ax_rm hm.2.2.1 hfr hlo), hts _ hst, trivial⟩ (ax_pre hr hK hnw hao) rfl (by rw [List.length_map, List.length_reverse, List.length_take]; omega) hl.1 hst2 (by rw [ax_catS]; show 2 * 0 + _ ≤ 8; rw [List.length_drop]; omega) hd ⟨by omega, by omega⟩
    refine ax_after hrun hq (fun H1 locs1 hr1 hq1 => ?_)
    have := kk ls H1 locs1 (cells + (h'.1 - h.1)) (slots + (h'.2.1 - h.2.1)) hl hr1 hq1 (by omega) (by omega)
    rw [List.map_append] at this
    cases r with
    | none => exact this
    | some v => exact this
  · cases ho
/-- the stack at a call with a receiver -/
theorem ax_stk {z : ax_Z} {st t : List ax_V} {n : Nat} {v : ax_V} (h : st.drop n = v :: t) : st.map (ax_cv z) = (((st.take n).reverse).map (ax_cv z)).reverse ++ ax_cv z v :: t.map (ax_cv z) := by
  rw [← List.map_reverse, List.reverse_reverse, ← List.map_cons, ← h, ← List.map_append, List.take_append_drop]
theorem ok_callI {j pc k n nx idx : Nat} (hlink : Cond.methodLink (ax_y j).cls idx (ax_y k) ∈ ax_ws) (hst : Cond.instanceMethod (ax_y k) ∈ ax_ws) (hin : Cond.initialized (ax_y k).cls ∈ ax_ws) (hnm : (ax_y k).name = "<init>") (hrt : ax_rt0 k = none) (hm : ax_mOk k n) (hn1 : n + 1 ≤ ax_nL k) (hd : decode (ax_code j) pc = .ok (.invokespecial idx, 3)) (hn : ax_pc j nx = pc + 3) : ax_Ok j pc (ax_callI k n nx) := by
  refine ax_callOk ?_ (fun L st h x q => by unfold ax_callI at q; (repeat' split at q) <;> cases q) (fun L st h x q => by unfold ax_callI at q; (repeat' split at q) <;> cases q) (fun L st h k' as i' L' st' q => by
    unfold ax_callI at q
    (repeat' split at q) <;> cases q
    exact ⟨by rw [List.length_cons, List.length_reverse, List.length_take]; omega, hm.2.2.2.2⟩)
  intro p l e R s m args below meth c Q z n0 s0 d cx hfr hlo L st h k' as i' L' st' ho r h' hM hg1 hg2 hcz hsz kk ls H locs cells slots hl hr hq hc hs
  obtain ⟨hx, hb, hml, hown, hts, hnw, hao, hK, hini⟩ := cx
  unfold ax_callI at ho
  split at ho
  · next o t hdr =>
    split at ho
    · next hlen =>
      cases ho
      rw [hn] at kk
      have hcb := callB_of (R := R) (own := (ax_y j).cls) (index := idx) n hts (ax_goodM hm.1) rfl (rm := { frames := d, cells := h'.1 - h.1, slots := h'.2.1 - h.2.1, locals := 60 * d }) rfl rfl (hts _ hin) (hts _ hlink) hm.2.1 (ax_rm hm.2.2.1 hfr hlo)
      rw [hrt] at hcb
      have hrun := va_runI (nL := ax_nL j) (b := ax_ad z o) (As := ((st.take n).reverse).map (ax_cv z)) (rest := st'.map (ax_cv z)) (g := F0 m pc ls (st.map (ax_cv z))) (cells := cells) (slots := slots) (locs := locs) (H := H) (e := e) (below := below) (meth := meth) (R := R) ⟨hx, hb, hml, hown, hts⟩ hM
        ⟨hcb, hnm, hts _ hst⟩ (ax_pre hr hK hnw hao) rfl (by rw [List.length_map, List.length_reverse, List.length_take]; omega) hl.1 (ax_stk hdr) (by rw [ax_catS]; show 2 * 0 + _ ≤ 8; omega) hd ⟨by omega, by omega⟩
      refine ax_after hrun hq (fun H1 locs1 hr1 hq1 => ?_)
      have := kk ls H1 locs1 (cells + (h'.1 - h.1)) (slots + (h'.2.1 - h.2.1)) hl hr1 hq1 (by omega) (by omega)
      rw [List.map_append] at this
      cases r with
      | none => exact this
      | some v => exact this
    · cases ho
  · cases ho
theorem ok_callIN {j pc k n nx idx : Nat} {host : String} (hlink : Cond.methodLinkNest (ax_y j).cls idx (ax_y k) host ∈ ax_nw) (hst : Cond.instanceMethod (ax_y k) ∈ ax_ws) (hin : Cond.initialized (ax_y k).cls ∈ ax_ws) (hnm : (ax_y k).name = "<init>") (hrt : ax_rt0 k = none) (hm : ax_mOk k n) (hn1 : n + 1 ≤ ax_nL k) (hd : decode (ax_code j) pc = .ok (.invokespecial idx, 3)) (hn : ax_pc j nx = pc + 3) : ax_Ok j pc (ax_callI k n nx) := by
  refine ax_callOk ?_ (fun L st h x q => by unfold ax_callI at q; (repeat' split at q) <;> cases q) (fun L st h x q => by unfold ax_callI at q; (repeat' split at q) <;> cases q) (fun L st h k' as i' L' st' q => by
    unfold ax_callI at q
    (repeat' split at q) <;> cases q
    exact ⟨by rw [List.length_cons, List.length_reverse, List.length_take]; omega, hm.2.2.2.2⟩)
  intro p l e R s m args below meth c Q z n0 s0 d cx hfr hlo L st h k' as i' L' st' ho r h' hM hg1 hg2 hcz hsz kk ls H locs cells slots hl hr hq hc hs
  obtain ⟨hx, hb, hml, hown, hts, hnw, hao, hK, hini⟩ := cx
  unfold ax_callI at ho
  split at ho
  · next o t hdr =>
    split at ho
    · next hlen =>
      cases ho
      rw [hn] at kk
      have hcb := va_cnB (R := R) (own := (ax_y j).cls) (index := idx) (host := host) n hts (ax_goodM hm.1) rfl (rm := { frames := d, cells := h'.1 - h.1, slots := h'.2.1 - h.2.1, locals := 60 * d }) rfl rfl (hnw _ hlink) (hts _ hin) hm.2.1 (ax_rm hm.2.2.1 hfr hlo)
      rw [hrt] at hcb
      have hrun := va_runIN (nL := ax_nL j) (b := ax_ad z o) (As := ((st.take n).reverse).map (ax_cv z)) (rest := st'.map (ax_cv z)) (g := F0 m pc ls (st.map (ax_cv z))) (cells := cells) (slots := slots) (locs := locs) (H := H) (e := e) (below := below) (meth := meth) (R := R) (p := p) ⟨hx, hb, hml, hown, hts⟩ hM
        ⟨hcb, hnm, hts _ hst⟩ (ax_pre hr hK hnw hao) rfl (by rw [List.length_map, List.length_reverse, List.length_take]; omega) hl.1 (ax_stk hdr) (by rw [ax_catS]; show 2 * 0 + _ ≤ 8; omega) hd ⟨by omega, by omega⟩
      refine ax_after hrun hq (fun H1 locs1 hr1 hq1 => ?_)
      have := kk ls H1 locs1 (cells + (h'.1 - h.1)) (slots + (h'.2.1 - h.2.1)) hl hr1 hq1 (by omega) (by omega)
      rw [List.map_append] at this
      cases r with
      | none => exact this
      | some v => exact this
    · cases ho
  · cases ho
theorem ok_callV {j pc ci k n nx idx : Nat} {C : String} {T : u_T} {N : Nat} (hcl : vwCl[ci]? = some (C, T, N)) (hC : (ax_y k).cls = C) (hlink : Cond.methodLink (ax_y j).cls idx (ax_y k) ∈ ax_ws) (hst : Cond.instanceMethod (ax_y k) ∈ ax_ws) (hsl : Cond.selects C (ax_y k) (ax_y k) ∈ ax_ws) (hin : Cond.initialized (ax_y k).cls ∈ ax_ws) (hm : ax_mOk k n) (hn1 : n + 1 ≤ ax_nL k) (hd : decode (ax_code j) pc = .ok (.invokevirtual idx, 3)) (hn : ax_pc j nx = pc + 3) : ax_Ok j pc (ax_callV ci k n nx) := by
  refine ax_callOk ?_ (fun L st h x q => by unfold ax_callV at q; (repeat' split at q) <;> cases q) (fun L st h x q => by unfold ax_callV at q; (repeat' split at q) <;> cases q) (fun L st h k' as i' L' st' q => by
    unfold ax_callV at q
    (repeat' split at q) <;> cases q
    exact ⟨by rw [List.length_cons, List.length_reverse, List.length_take]; omega, hm.2.2.2.2⟩)
  intro p l e R s m args below meth c Q z n0 s0 d cx hfr hlo L st h k' as i' L' st' ho r h' hM hg1 hg2 hcz hsz kk ls H locs cells slots hl hr hq hc hs
  obtain ⟨hx, hb, hml, hown, hts, hnw, hao, hK, hini⟩ := cx
  unfold ax_callV at ho
  split at ho
  · next o t hdr =>
    split at ho
    · next cj fs hcell =>
      split at ho
      · next hlen =>
        obtain ⟨rfl, h0, h1, hl1, hl2⟩ := hlen
        cases ho
        rw [hn] at kk
        have hcb := callB_of (R := R) (own := (ax_y j).cls) (index := idx) n hts (ax_goodM hm.1) rfl (rm := { frames := d, cells := h'.1 - h.1, slots := h'.2.1 - h.2.1, locals := 60 * d }) rfl rfl (hts _ hin) (hts _ hlink) hm.2.1 (ax_rm hm.2.2.1 hfr hlo)
        have hpre := ax_pre (as := .inr (some o) :: (st.take n).reverse) hr hK hnw hao
        have hrecv := va_recv hK (ax_one hr h0 h1 hcell) hcl (q0 := 0) rfl
        have hrun := va_runV (nL := ax_nL j) (C := C) (b := ax_ad z o) (As := ((st.take n).reverse).map (ax_cv z)) (rest := st'.map (ax_cv z)) (g := F0 m pc ls (st.map (ax_cv z))) (cells := cells) (slots := slots) (locs := locs) (H := H) (e := e) (below := below) (meth := meth) (R := R) ⟨hx, hb, hml, hown, hts⟩ hM
          ⟨hcb, hts _ hst, hts _ hsl⟩ ⟨hpre.1, hrecv, hpre.2⟩ rfl (by rw [List.length_map, List.length_reverse, List.length_take]; omega) hl.1 (ax_stk hdr) (by rw [ax_catS]; show 2 * 0 + _ ≤ 8; omega) hd ⟨by omega, by omega⟩
        refine ax_after hrun hq (fun H1 locs1 hr1 hq1 => ?_)
        have := kk ls H1 locs1 (cells + (h'.1 - h.1)) (slots + (h'.2.1 - h.2.1)) hl hr1 hq1 (by omega) (by omega)
        rw [List.map_append] at this
        cases r with
        | none => exact this
        | some v => exact this
      · cases ho
    · cases ho
  · cases ho
/-- returns -/
theorem ax_retOk {j pc : Nat} {o : ax_O} (h : ax_OKr j pc o) (h1 : ∀ L st h x, o L st h ≠ some (.inl x)) (h2 : ∀ L st h x, o L st h ≠ some (.inr (.inl x))) : ax_Ok j pc o :=
  ⟨fun _ _ _ _ _ _ _ _ _ _ _ _ _ _ _ _ _ _ _ _ _ _ _ _ q => absurd q (h1 _ _ _ _), fun _ _ _ _ _ _ _ _ _ _ _ _ _ _ _ _ _ _ _ _ _ _ _ _ _ _ q => absurd q (h2 _ _ _ _), h, fun _ _ _ _ q => absurd q (h1 _ _ _ _), fun _ _ _ _ _ _ _ _ q => absurd q (h2 _ _ _ _)⟩
theorem ok_retU {j pc ty : Nat} {ft : FieldType} (hrt : ax_rt0 j = some ft) (hf : ax_ftOk ty ft) (hty : ty ≤ 2) (hd : decode (ax_code j) pc = .ok (.ireturn, 1)) : ax_Ok j pc (ax_ret ty) := by
  refine ax_retOk ?_ (fun L st h x q => by unfold ax_ret at q; (repeat' split at q) <;> cases q) (fun L st h x q => by unfold ax_ret at q; (repeat' split at q) <;> cases q)
  intro p l e R s m args below meth c z n0 s0 cx hlk hrt' L st h r ho ls H locs cells slots hl hr hq hc hs
  obtain ⟨hx, hb, hml, hown, hts, hnw, hao, hK, hini⟩ := cx
  unfold ax_ret at ho
  split at ho
  · next v =>
    split at ho
    · next hfit =>
      cases ho
      obtain ⟨h1, -⟩ := ax_fitE (z := z) hfit hf
      rw [hrt] at hrt'
      rw [show h.1 - n0 = cells by omega, show h.2.1 - s0 = slots by omega]
      rcases v with x | r
      · exact W.zret (v := x) hx hb hrt' h1 (fun t ht hW => ⟨rfl, by rw [ht]; exact hr.moved hW.alike⟩) hq hd hlk
      · unfold ax_fit at hfit
        have h3 : ty = 3 := by simpa using hfit
        omega
    · cases ho
  · cases ho
theorem ok_ret0 {j pc : Nat} (hrt : ax_rt0 j = some .int) (hd : decode (ax_code j) pc = .ok (.ireturn, 1)) : ax_Ok j pc (ax_ret 0) := ok_retU hrt rfl (by decide) hd
theorem ok_ret1 {j pc : Nat} (hrt : ax_rt0 j = some .boolean) (hd : decode (ax_code j) pc = .ok (.ireturn, 1)) : ax_Ok j pc (ax_ret 1) := ok_retU hrt rfl (by decide) hd
theorem ok_ret2 {j pc : Nat} (hrt : ax_rt0 j = some .char) (hd : decode (ax_code j) pc = .ok (.ireturn, 1)) : ax_Ok j pc (ax_ret 2) := ok_retU hrt rfl (by decide) hd
theorem ok_ret3 {j pc : Nat} {C : String} (hrt : ax_rt0 j = some (.object C)) (hd : decode (ax_code j) pc = .ok (.areturn, 1)) : ax_Ok j pc (ax_ret 3) := by
  refine ax_retOk ?_ (fun L st h x q => by unfold ax_ret at q; (repeat' split at q) <;> cases q) (fun L st h x q => by unfold ax_ret at q; (repeat' split at q) <;> cases q)
  intro p l e R s m args below meth c z n0 s0 cx hlk hrt' L st h r ho ls H locs cells slots hl hr hq hc hs
  obtain ⟨hx, hb, hml, hown, hts, hnw, hao, hK, hini⟩ := cx
  unfold ax_ret at ho
  split at ho
  · next v =>
    split at ho
    · next hfit =>
      cases ho
      rw [hrt] at hrt'
      rw [show h.1 - n0 = cells by omega, show h.2.1 - s0 = slots by omega]
      rcases v with x | r
      · cases hfit
      · exact W.aret hx hb hrt' (Or.inl ⟨_, rfl⟩) (by cases r with | none => exact Or.inl rfl | some a => exact Or.inr ⟨_, rfl⟩) (fun t ht hW => ⟨rfl, by rw [ht]; exact hr.moved hW.alike⟩) hq hd hlk
    · cases ho
  · cases ho
theorem ok_retv {j pc : Nat} (hrt : ax_rt0 j = none) (hd : decode (ax_code j) pc = .ok (.return_, 1)) : ax_Ok j pc ax_retv := by
  refine ax_retOk ?_ (fun L st h x q => by unfold ax_retv at q; (repeat' split at q) <;> cases q) (fun L st h x q => by unfold ax_retv at q; (repeat' split at q) <;> cases q)
  intro p l e R s m args below meth c z n0 s0 cx hlk hrt' L st h r ho ls H locs cells slots hl hr hq hc hs
  obtain ⟨hx, hb, hml, hown, hts, hnw, hao, hK, hini⟩ := cx
  unfold ax_retv at ho
  split at ho
  · cases ho
    rw [hrt] at hrt'
    rw [show h.1 - n0 = cells by omega, show h.2.1 - s0 = slots by omega]
    exact W.vret hx hb hrt' (fun t ht hW => ⟨rfl, by rw [ht]; exact hr.moved hW.alike⟩) hq hd hlk
  · cases ho
end
section
/-! The small machine's runs are the JVM's. -/
theorem ax_grow (hall : ∀ j i, ax_Ok j (ax_pc j i) (ax_P j i)) : ∀ (n d j i : Nat) (L : ax_L) (st : List ax_V) (h : ax_H) (r : Option ax_V) (hF : ax_H), ax_run ax_P ax_nL n d j i L st h = some (r, hF) → h.1 ≤ hF.1 ∧ h.2.1 ≤ hF.2.1 := by
  intro n
  induction n with
  | zero => intro d j i L st h r hF hx; simp [ax_run] at hx
  | succ n ih =>
    intro d j i L st h r hF hx
    rw [ax_run] at hx
    cases ho : ax_P j i L st h with
    | none => rw [ho] at hx; cases hx
    | some o =>
      rw [ho] at hx
      rcases o with ⟨i', L', st', h'⟩ | ⟨k, as, i', L', st'⟩ | r'
      · dsimp only at hx
        have h1 := (hall j i).2.2.2.1 _ _ _ _ ho
        have h2 := ih _ _ _ _ _ _ _ _ hx
        exact ⟨Nat.le_trans h1.1 h2.1, Nat.le_trans h1.2 h2.2⟩
      · cases d with
        | zero => cases hx
        | succ d' =>
          dsimp only at hx
          cases hc : ax_run ax_P ax_nL n d' k 0 (ax_ent (ax_nL k) as) [] h with
          | none => rw [hc] at hx; cases hx
          | some y =>
            obtain ⟨r1, h1⟩ := y
            rw [hc] at hx
            have e1 := ih _ _ _ _ _ _ _ _ hc
            have e2 := ih _ _ _ _ _ _ _ _ hx
            exact ⟨Nat.le_trans e1.1 e2.1, Nat.le_trans e1.2 e2.2⟩
      · cases hx
        exact ⟨Nat.le_refl _, Nat.le_refl _⟩
theorem ax_lgl (z : ax_Z) : ∀ as : List ax_V, (lg_sl (as.map (ax_cv z))).length = as.length
  | [] => rfl
  | v :: as => by
    have hc : ¬ (ax_cv z v).category = 2 := by rw [ax_cat]; decide
    have e : lg_sl (ax_cv z v :: as.map (ax_cv z)) = .val (ax_cv z v) :: lg_sl (as.map (ax_cv z)) := by simp [lg_sl, hc]
    rw [List.map_cons, e, List.length_cons, ax_lgl z as, List.length_cons]
/-- a place of a method, by its run -/
def ax_S (l : Launch) (n : Nat) : Prop := ∀ (d j i : Nat) (L : ax_L) (st : List ax_V) (h : ax_H) (r : Option ax_V) (hF : ax_H), ax_run ax_P ax_nL n d j i L st h = some (r, hF) →
  ∀ (p : Program) (e : Env) (R : Room) (s : State) (m : MethodId) (args : Array Value) (below : List Frame) (meth : Method) (c : Code) (Q : State → Prop) (z : ax_Z) (n0 s0 : Nat), ax_cx z j p s m args meth c → d + 1 ≤ R.frames → 60 * (d + 1) ≤ R.locals → hF.1 ≤ R.cells + n0 → hF.2.1 ≤ R.slots + s0 →
  (∀ i' L' st', ax_P j i' L' st' hF = some (.inr (.inr r)) → ax_W p l e R s m args below meth c Q z n0 s0 (ax_nL j) (ax_pc j i') L' st' hF) → ax_W p l e R s m args below meth c Q z n0 s0 (ax_nL j) (ax_pc j i) L st h
/-- a called method, by its run -/
theorem ax_met {l : Launch} {n : Nat} (hS : ax_S l n) (hall : ∀ j i, ax_Ok j (ax_pc j i) (ax_P j i)) {d k : Nat} {as : List ax_V} {h : ax_H} {r : Option ax_V} {h' : ax_H} (hrun : ax_run ax_P ax_nL n d k 0 (ax_ent (ax_nL k) as) [] h = some (r, h')) (hlen : as.length ≤ ax_nL k) (hpl : plainName (ax_y k).cls = true) (hpc : ax_pc k 0 = 0) (z : ax_Z) : ax_Met l z (d + 1) k as h r h' := by
  have hg := ax_grow hall _ _ _ _ _ _ _ _ _ hrun
  refine Met.ofW (cc := ax_code k) (maxL := ax_nL k) (ret := ax_rt0 k) hpl rfl ?_
  intro p e s m args below meth c s₁ B hml hv
  obtain ⟨rfl, hrel, hK, hnw, hao⟩ := hv
  have hts := atoms_spec (ws := ax_wsm k) B.pre
  have hcx : ax_cx z k p s m (as.map (ax_cv z)).toArray meth c := ⟨B.exec, B.bytes, hml, findClass_of_methodNamed B.named, fun w hw => hts w (List.mem_cons_of_mem _ hw), hnw, hao, hK, fun hn => (name_of_methodNamed B.named B.method).1.trans hn⟩
  have hw := hS d k 0 _ [] h r h' hrun p e { frames := d + 1, cells := h'.1 - h.1, slots := h'.2.1 - h.2.1, locals := 60 * (d + 1) } s m (as.map (ax_cv z)).toArray below meth c (MQ below (ax_Qc z r h') (as.map (ax_cv z)).toArray s (h'.1 - h.1) (h'.2.1 - h.2.1) (fun q => z.2.2.1 ≤ q)) z h.1 h.2.1 hcx (Nat.le_refl _) (Nat.le_refl _) (by show h'.1 ≤ h'.1 - h.1 + h.1; omega) (by show h'.2.1 ≤ h'.2.1 - h.2.1 + h.2.1; omega)
    (fun i' L' st' ho => (hall k i').2.2.1 p l e _ s m _ below meth c z h.1 h.2.1 hcx B.notSynchronized B.returns L' st' h' r ho)
  rw [hpc] at hw
  have hl := lv_entry (as.map (ax_cv z)) (n := ax_nL k) (by rw [ax_lgl]; exact hlen)
  rw [lg_entry_eq]
  exact hw _ s.heap [] 0 0 ⟨hl.1, hl.2.1, fun q hq => hl.2.2 q (ax_lent as 0 _ q hq)⟩ hrel (fun q hq => by cases hq) (Nat.zero_add _) (Nat.zero_add _)
theorem ax_sim (l : Launch) (hall : ∀ j i, ax_Ok j (ax_pc j i) (ax_P j i)) (hpc : ∀ k, ax_pc k 0 = 0) : ∀ n, ax_S l n := by
  intro n
  induction n with
  | zero => intro d j i L st h r hF hx; simp [ax_run] at hx
  | succ n ih =>
    intro d j i L st h r hF hx p e R s m args below meth c Q z n0 s0 cx hfr hlo hcz hsz hret
    rw [ax_run] at hx
    cases ho : ax_P j i L st h with
    | none => rw [ho] at hx; cases hx
    | some o =>
      rw [ho] at hx
      rcases o with ⟨i', L', st', h'⟩ | ⟨k, as, i', L', st'⟩ | r'
      · dsimp only at hx
        have hg := ax_grow hall _ _ _ _ _ _ _ _ _ hx
        exact (hall j i).1 p l e R s m args below meth c Q z n0 s0 cx (by omega) (by omega) L st h i' L' st' h' ho (Nat.le_trans hg.1 hcz) (Nat.le_trans hg.2 hsz) (ih _ _ _ _ _ _ _ _ hx p e R s m args below meth c Q z n0 s0 cx hfr hlo hcz hsz hret)
      · cases d with
        | zero => cases hx
        | succ d' =>
          dsimp only at hx
          cases hc : ax_run ax_P ax_nL n d' k 0 (ax_ent (ax_nL k) as) [] h with
          | none => rw [hc] at hx; cases hx
          | some y =>
            obtain ⟨r1, h1⟩ := y
            rw [hc] at hx
            have e1 := ax_grow hall _ _ _ _ _ _ _ _ _ hc
            have e2 := ax_grow hall _ _ _ _ _ _ _ _ _ hx
            have hln := (hall j i).2.2.2.2 _ _ _ _ _ _ _ _ ho
            exact (hall j i).2.1 p l e R s m args below meth c Q z n0 s0 (d' + 1) cx hfr hlo L st h k as i' L' st' ho r1 h1 (ax_met ih hall hc hln.1 hln.2 (hpc k) z) e1.1 e1.2 (Nat.le_trans e2.1 hcz) (Nat.le_trans e2.2 hsz)
              (ih _ _ _ _ _ _ _ _ hx p e R s m args below meth c Q z n0 s0 cx hfr hlo hcz hsz hret)
      · cases hx
        exact hret i L st ho
end
section
/-! Words of the tables by their places. Printed by wip/whole/gen/emit_ok.py -/
theorem wd_obj : Cond.code objectInit ⟨#[0xb1]⟩ 1 none ∈ ax_ws := ax_wt 16 (by decide +kernel) (by decide +kernel)
theorem wd_36 : Cond.methodLink "RoleParts$Grammar" (3 : Nat) ({ cls := "java/lang/Object", name := "<init>", desc := "()V" } : Jvm.MethodName) ∈ ax_ws := ax_wt 36 (by decide +kernel) (by decide +kernel)
theorem wd_15 : Cond.instanceMethod ({ cls := "java/lang/Object", name := "<init>", desc := "()V" } : Jvm.MethodName) ∈ ax_ws := ax_wt 15 (by decide +kernel) (by decide +kernel)
theorem wd_37 : Cond.fieldLink "RoleParts$Grammar" (11 : Nat) "RoleParts$Grammar" "expected" "I" ∈ ax_ws := ax_wt 37 (by decide +kernel) (by decide +kernel)
theorem wd_38 : Cond.fieldLink "RoleParts$Grammar" (15 : Nat) "RoleParts$Grammar" "openMessages" "I" ∈ ax_ws := ax_wt 38 (by decide +kernel) (by decide +kernel)
theorem wd_169 : Cond.methodLink "RoleParts$Grammar" (18 : Nat) ({ cls := "RoleParts$Text", name := "size", desc := "()I" } : Jvm.MethodName) ∈ ax_ws := ax_wt 169 (by decide +kernel) (by decide +kernel)
theorem wd_170 : Cond.instanceMethod ({ cls := "RoleParts$Text", name := "size", desc := "()I" } : Jvm.MethodName) ∈ ax_ws := ax_wt 170 (by decide +kernel) (by decide +kernel)
theorem wd_171 : Cond.selects "RoleParts$Text" ({ cls := "RoleParts$Text", name := "size", desc := "()I" } : Jvm.MethodName) ({ cls := "RoleParts$Text", name := "size", desc := "()I" } : Jvm.MethodName) ∈ ax_ws := ax_wt 171 (by decide +kernel) (by decide +kernel)
theorem wd_2 : Cond.initialized "RoleParts$Text" ∈ ax_ws := ax_wt 2 (by decide +kernel) (by decide +kernel)
theorem wd_173 : Cond.methodLink "RoleParts$Grammar" (24 : Nat) ({ cls := "RoleParts$Text", name := "get", desc := "(I)C" } : Jvm.MethodName) ∈ ax_ws := ax_wt 173 (by decide +kernel) (by decide +kernel)
theorem wd_174 : Cond.instanceMethod ({ cls := "RoleParts$Text", name := "get", desc := "(I)C" } : Jvm.MethodName) ∈ ax_ws := ax_wt 174 (by decide +kernel) (by decide +kernel)
theorem wd_175 : Cond.selects "RoleParts$Text" ({ cls := "RoleParts$Text", name := "get", desc := "(I)C" } : Jvm.MethodName) ({ cls := "RoleParts$Text", name := "get", desc := "(I)C" } : Jvm.MethodName) ∈ ax_ws := ax_wt 175 (by decide +kernel) (by decide +kernel)
theorem wd_177 : Cond.methodLink "RoleParts$Grammar" (28 : Nat) ({ cls := "RoleParts$Grammar", name := "next", desc := "(C)I" } : Jvm.MethodName) ∈ ax_ws := ax_wt 177 (by decide +kernel) (by decide +kernel)
theorem wd_179 : Cond.instanceMethod ({ cls := "RoleParts$Grammar", name := "next", desc := "(C)I" } : Jvm.MethodName) ∈ ax_ws := ax_wt 179 (by decide +kernel) (by decide +kernel)
theorem wp_1 : Cond.selects "RoleParts$Grammar" ⟨"RoleParts$Grammar", "next", "(C)I"⟩ ⟨"RoleParts$Grammar", "next", "(C)I"⟩ ∈ ax_ws := ax_wp 1 (by decide +kernel) (by decide +kernel)
theorem wd_3 : Cond.initialized "RoleParts$Grammar" ∈ ax_ws := ax_wt 3 (by decide +kernel) (by decide +kernel)
theorem wd_181 : Cond.methodLink "RoleParts$Grammar" (32 : Nat) ({ cls := "RoleParts$Grammar", name := "nextInProtocol", desc := "(C)I" } : Jvm.MethodName) ∈ ax_ws := ax_wt 181 (by decide +kernel) (by decide +kernel)
theorem wd_183 : Cond.instanceMethod ({ cls := "RoleParts$Grammar", name := "nextInProtocol", desc := "(C)I" } : Jvm.MethodName) ∈ ax_ws := ax_wt 183 (by decide +kernel) (by decide +kernel)
theorem wp_2 : Cond.selects "RoleParts$Grammar" ⟨"RoleParts$Grammar", "nextInProtocol", "(C)I"⟩ ⟨"RoleParts$Grammar", "nextInProtocol", "(C)I"⟩ ∈ ax_ws := ax_wp 2 (by decide +kernel) (by decide +kernel)
theorem wn_185 : Cond.methodLinkNest "RoleParts$Grammar" (35 : Nat) ({ cls := "RoleParts", name := "isVariable", desc := "(C)Z" } : Jvm.MethodName) "RoleParts" ∈ ax_nw := ax_nwm 185 (by decide +kernel) (by decide +kernel)
theorem wd_186 : Cond.static ({ cls := "RoleParts", name := "isVariable", desc := "(C)Z" } : Jvm.MethodName) ∈ ax_ws := ax_wt 186 (by decide +kernel) (by decide +kernel)
theorem wd_1 : Cond.initialized "RoleParts" ∈ ax_ws := ax_wt 1 (by decide +kernel) (by decide +kernel)
theorem wn_188 : Cond.methodLinkNest "RoleParts$Grammar" (39 : Nat) ({ cls := "RoleParts", name := "isRole", desc := "(C)Z" } : Jvm.MethodName) "RoleParts" ∈ ax_nw := ax_nwm 188 (by decide +kernel) (by decide +kernel)
theorem wd_189 : Cond.static ({ cls := "RoleParts", name := "isRole", desc := "(C)Z" } : Jvm.MethodName) ∈ ax_ws := ax_wt 189 (by decide +kernel) (by decide +kernel)
theorem wd_191 : Cond.methodLink "RoleParts$Grammar" (42 : Nat) ({ cls := "RoleParts$Grammar", name := "nextAtBrace", desc := "(C)I" } : Jvm.MethodName) ∈ ax_ws := ax_wt 191 (by decide +kernel) (by decide +kernel)
theorem wd_193 : Cond.instanceMethod ({ cls := "RoleParts$Grammar", name := "nextAtBrace", desc := "(C)I" } : Jvm.MethodName) ∈ ax_ws := ax_wt 193 (by decide +kernel) (by decide +kernel)
theorem wp_3 : Cond.selects "RoleParts$Grammar" ⟨"RoleParts$Grammar", "nextAtBrace", "(C)I"⟩ ⟨"RoleParts$Grammar", "nextAtBrace", "(C)I"⟩ ∈ ax_ws := ax_wp 3 (by decide +kernel) (by decide +kernel)
theorem wn_195 : Cond.methodLinkNest "RoleParts$Grammar" (45 : Nat) ({ cls := "RoleParts", name := "isLabel", desc := "(C)Z" } : Jvm.MethodName) "RoleParts" ∈ ax_nw := ax_nwm 195 (by decide +kernel) (by decide +kernel)
theorem wd_196 : Cond.static ({ cls := "RoleParts", name := "isLabel", desc := "(C)Z" } : Jvm.MethodName) ∈ ax_ws := ax_wt 196 (by decide +kernel) (by decide +kernel)
theorem wd_198 : Cond.methodLink "RoleParts$Grammar" (48 : Nat) ({ cls := "RoleParts$Grammar", name := "nextAfterProtocol", desc := "(C)I" } : Jvm.MethodName) ∈ ax_ws := ax_wt 198 (by decide +kernel) (by decide +kernel)
theorem wd_200 : Cond.instanceMethod ({ cls := "RoleParts$Grammar", name := "nextAfterProtocol", desc := "(C)I" } : Jvm.MethodName) ∈ ax_ws := ax_wt 200 (by decide +kernel) (by decide +kernel)
theorem wp_4 : Cond.selects "RoleParts$Grammar" ⟨"RoleParts$Grammar", "nextAfterProtocol", "(C)I"⟩ ⟨"RoleParts$Grammar", "nextAfterProtocol", "(C)I"⟩ ∈ ax_ws := ax_wp 4 (by decide +kernel) (by decide +kernel)
theorem wd_91 : Cond.methodLink "RoleParts$PartWriter" (3 : Nat) ({ cls := "java/lang/Object", name := "<init>", desc := "()V" } : Jvm.MethodName) ∈ ax_ws := ax_wt 91 (by decide +kernel) (by decide +kernel)
theorem wd_95 : Cond.fieldLink "RoleParts$PartWriter" (9 : Nat) "RoleParts$PartWriter" "place" "I" ∈ ax_ws := ax_wt 95 (by decide +kernel) (by decide +kernel)
theorem wd_92 : Cond.fieldLink "RoleParts$PartWriter" (15 : Nat) "RoleParts$PartWriter" "protocol" "LRoleParts$Text;" ∈ ax_ws := ax_wt 92 (by decide +kernel) (by decide +kernel)
theorem wd_93 : Cond.fieldLink "RoleParts$PartWriter" (19 : Nat) "RoleParts$PartWriter" "role" "C" ∈ ax_ws := ax_wt 93 (by decide +kernel) (by decide +kernel)
theorem wd_94 : Cond.fieldLink "RoleParts$PartWriter" (23 : Nat) "RoleParts$PartWriter" "part" "LRoleParts$Text;" ∈ ax_ws := ax_wt 94 (by decide +kernel) (by decide +kernel)
theorem wd_246 : Cond.methodLink "RoleParts$PartWriter" (26 : Nat) ({ cls := "RoleParts$Text", name := "shorten", desc := "(I)V" } : Jvm.MethodName) ∈ ax_ws := ax_wt 246 (by decide +kernel) (by decide +kernel)
theorem wd_247 : Cond.instanceMethod ({ cls := "RoleParts$Text", name := "shorten", desc := "(I)V" } : Jvm.MethodName) ∈ ax_ws := ax_wt 247 (by decide +kernel) (by decide +kernel)
theorem wd_248 : Cond.selects "RoleParts$Text" ({ cls := "RoleParts$Text", name := "shorten", desc := "(I)V" } : Jvm.MethodName) ({ cls := "RoleParts$Text", name := "shorten", desc := "(I)V" } : Jvm.MethodName) ∈ ax_ws := ax_wt 248 (by decide +kernel) (by decide +kernel)
theorem wd_250 : Cond.methodLink "RoleParts$PartWriter" (32 : Nat) ({ cls := "RoleParts$PartWriter", name := "writeProtocol", desc := "(I)Z" } : Jvm.MethodName) ∈ ax_ws := ax_wt 250 (by decide +kernel) (by decide +kernel)
theorem wd_252 : Cond.instanceMethod ({ cls := "RoleParts$PartWriter", name := "writeProtocol", desc := "(I)Z" } : Jvm.MethodName) ∈ ax_ws := ax_wt 252 (by decide +kernel) (by decide +kernel)
theorem wp_12 : Cond.selects "RoleParts$PartWriter" ⟨"RoleParts$PartWriter", "writeProtocol", "(I)Z"⟩ ⟨"RoleParts$PartWriter", "writeProtocol", "(I)Z"⟩ ∈ ax_ws := ax_wp 12 (by decide +kernel) (by decide +kernel)
theorem wd_6 : Cond.initialized "RoleParts$PartWriter" ∈ ax_ws := ax_wt 6 (by decide +kernel) (by decide +kernel)
theorem wd_254 : Cond.methodLink "RoleParts$PartWriter" (36 : Nat) ({ cls := "RoleParts$Text", name := "get", desc := "(I)C" } : Jvm.MethodName) ∈ ax_ws := ax_wt 254 (by decide +kernel) (by decide +kernel)
theorem wd_255 : Cond.methodLink "RoleParts$PartWriter" (40 : Nat) ({ cls := "RoleParts$PartWriter", name := "writeLoop", desc := "(I)Z" } : Jvm.MethodName) ∈ ax_ws := ax_wt 255 (by decide +kernel) (by decide +kernel)
theorem wd_257 : Cond.instanceMethod ({ cls := "RoleParts$PartWriter", name := "writeLoop", desc := "(I)Z" } : Jvm.MethodName) ∈ ax_ws := ax_wt 257 (by decide +kernel) (by decide +kernel)
theorem wp_13 : Cond.selects "RoleParts$PartWriter" ⟨"RoleParts$PartWriter", "writeLoop", "(I)Z"⟩ ⟨"RoleParts$PartWriter", "writeLoop", "(I)Z"⟩ ∈ ax_ws := ax_wp 13 (by decide +kernel) (by decide +kernel)
theorem wn_270 : Cond.methodLinkNest "RoleParts$PartWriter" (43 : Nat) ({ cls := "RoleParts", name := "isRole", desc := "(C)Z" } : Jvm.MethodName) "RoleParts" ∈ ax_nw := ax_nwm 270 (by decide +kernel) (by decide +kernel)
theorem wd_271 : Cond.methodLink "RoleParts$PartWriter" (47 : Nat) ({ cls := "RoleParts$PartWriter", name := "writeMessage", desc := "(I)Z" } : Jvm.MethodName) ∈ ax_ws := ax_wt 271 (by decide +kernel) (by decide +kernel)
theorem wd_273 : Cond.instanceMethod ({ cls := "RoleParts$PartWriter", name := "writeMessage", desc := "(I)Z" } : Jvm.MethodName) ∈ ax_ws := ax_wt 273 (by decide +kernel) (by decide +kernel)
theorem wp_15 : Cond.selects "RoleParts$PartWriter" ⟨"RoleParts$PartWriter", "writeMessage", "(I)Z"⟩ ⟨"RoleParts$PartWriter", "writeMessage", "(I)Z"⟩ ∈ ax_ws := ax_wp 15 (by decide +kernel) (by decide +kernel)
theorem wd_264 : Cond.methodLink "RoleParts$PartWriter" (50 : Nat) ({ cls := "RoleParts$Text", name := "append", desc := "(C)Z" } : Jvm.MethodName) ∈ ax_ws := ax_wt 264 (by decide +kernel) (by decide +kernel)
theorem wd_150 : Cond.instanceMethod ({ cls := "RoleParts$Text", name := "append", desc := "(C)Z" } : Jvm.MethodName) ∈ ax_ws := ax_wt 150 (by decide +kernel) (by decide +kernel)
theorem wd_151 : Cond.selects "RoleParts$Text" ({ cls := "RoleParts$Text", name := "append", desc := "(C)Z" } : Jvm.MethodName) ({ cls := "RoleParts$Text", name := "append", desc := "(C)Z" } : Jvm.MethodName) ∈ ax_ws := ax_wt 151 (by decide +kernel) (by decide +kernel)
theorem wd_259 : Cond.methodLink "RoleParts$PartWriter" (53 : Nat) ({ cls := "RoleParts$Text", name := "size", desc := "()I" } : Jvm.MethodName) ∈ ax_ws := ax_wt 259 (by decide +kernel) (by decide +kernel)
theorem wd_260 : Cond.methodLink "RoleParts$PartWriter" (57 : Nat) ({ cls := "RoleParts$PartWriter", name := "closeLoop", desc := "(IC)Z" } : Jvm.MethodName) ∈ ax_ws := ax_wt 260 (by decide +kernel) (by decide +kernel)
theorem wd_262 : Cond.instanceMethod ({ cls := "RoleParts$PartWriter", name := "closeLoop", desc := "(IC)Z" } : Jvm.MethodName) ∈ ax_ws := ax_wt 262 (by decide +kernel) (by decide +kernel)
theorem wp_14 : Cond.selects "RoleParts$PartWriter" ⟨"RoleParts$PartWriter", "closeLoop", "(IC)Z"⟩ ⟨"RoleParts$PartWriter", "closeLoop", "(IC)Z"⟩ ∈ ax_ws := ax_wp 14 (by decide +kernel) (by decide +kernel)
theorem wd_265 : Cond.methodLink "RoleParts$PartWriter" (61 : Nat) ({ cls := "RoleParts$Text", name := "hasFrom", desc := "(IC)Z" } : Jvm.MethodName) ∈ ax_ws := ax_wt 265 (by decide +kernel) (by decide +kernel)
theorem wd_266 : Cond.instanceMethod ({ cls := "RoleParts$Text", name := "hasFrom", desc := "(IC)Z" } : Jvm.MethodName) ∈ ax_ws := ax_wt 266 (by decide +kernel) (by decide +kernel)
theorem wd_267 : Cond.selects "RoleParts$Text" ({ cls := "RoleParts$Text", name := "hasFrom", desc := "(IC)Z" } : Jvm.MethodName) ({ cls := "RoleParts$Text", name := "hasFrom", desc := "(IC)Z" } : Jvm.MethodName) ∈ ax_ws := ax_wt 267 (by decide +kernel) (by decide +kernel)
theorem wd_269 : Cond.methodLink "RoleParts$PartWriter" (64 : Nat) ({ cls := "RoleParts$Text", name := "insert", desc := "(IC)Z" } : Jvm.MethodName) ∈ ax_ws := ax_wt 269 (by decide +kernel) (by decide +kernel)
theorem wd_154 : Cond.instanceMethod ({ cls := "RoleParts$Text", name := "insert", desc := "(IC)Z" } : Jvm.MethodName) ∈ ax_ws := ax_wt 154 (by decide +kernel) (by decide +kernel)
theorem wd_155 : Cond.selects "RoleParts$Text" ({ cls := "RoleParts$Text", name := "insert", desc := "(IC)Z" } : Jvm.MethodName) ({ cls := "RoleParts$Text", name := "insert", desc := "(IC)Z" } : Jvm.MethodName) ∈ ax_ws := ax_wt 155 (by decide +kernel) (by decide +kernel)
theorem wd_275 : Cond.methodLink "RoleParts$PartWriter" (67 : Nat) ({ cls := "RoleParts$PartWriter", name := "writeOwnBranches", desc := "(I)Z" } : Jvm.MethodName) ∈ ax_ws := ax_wt 275 (by decide +kernel) (by decide +kernel)
theorem wd_277 : Cond.instanceMethod ({ cls := "RoleParts$PartWriter", name := "writeOwnBranches", desc := "(I)Z" } : Jvm.MethodName) ∈ ax_ws := ax_wt 277 (by decide +kernel) (by decide +kernel)
theorem wp_16 : Cond.selects "RoleParts$PartWriter" ⟨"RoleParts$PartWriter", "writeOwnBranches", "(I)Z"⟩ ⟨"RoleParts$PartWriter", "writeOwnBranches", "(I)Z"⟩ ∈ ax_ws := ax_wp 16 (by decide +kernel) (by decide +kernel)
theorem wd_279 : Cond.methodLink "RoleParts$PartWriter" (70 : Nat) ({ cls := "RoleParts$PartWriter", name := "writeCommonPart", desc := "(I)Z" } : Jvm.MethodName) ∈ ax_ws := ax_wt 279 (by decide +kernel) (by decide +kernel)
theorem wd_281 : Cond.instanceMethod ({ cls := "RoleParts$PartWriter", name := "writeCommonPart", desc := "(I)Z" } : Jvm.MethodName) ∈ ax_ws := ax_wt 281 (by decide +kernel) (by decide +kernel)
theorem wp_17 : Cond.selects "RoleParts$PartWriter" ⟨"RoleParts$PartWriter", "writeCommonPart", "(I)Z"⟩ ⟨"RoleParts$PartWriter", "writeCommonPart", "(I)Z"⟩ ∈ ax_ws := ax_wp 17 (by decide +kernel) (by decide +kernel)
theorem wd_283 : Cond.methodLink "RoleParts$PartWriter" (73 : Nat) ({ cls := "RoleParts$Text", name := "isTwice", desc := "(II)Z" } : Jvm.MethodName) ∈ ax_ws := ax_wt 283 (by decide +kernel) (by decide +kernel)
theorem wd_284 : Cond.instanceMethod ({ cls := "RoleParts$Text", name := "isTwice", desc := "(II)Z" } : Jvm.MethodName) ∈ ax_ws := ax_wt 284 (by decide +kernel) (by decide +kernel)
theorem wd_285 : Cond.selects "RoleParts$Text" ({ cls := "RoleParts$Text", name := "isTwice", desc := "(II)Z" } : Jvm.MethodName) ({ cls := "RoleParts$Text", name := "isTwice", desc := "(II)Z" } : Jvm.MethodName) ∈ ax_ws := ax_wt 285 (by decide +kernel) (by decide +kernel)
theorem wd_74 : Cond.methodLink "RoleParts$Player" (3 : Nat) ({ cls := "java/lang/Object", name := "<init>", desc := "()V" } : Jvm.MethodName) ∈ ax_ws := ax_wt 74 (by decide +kernel) (by decide +kernel)
theorem wd_77 : Cond.fieldLink "RoleParts$Player" (9 : Nat) "RoleParts$Player" "partExists" "Z" ∈ ax_ws := ax_wt 77 (by decide +kernel) (by decide +kernel)
theorem wd_79 : Cond.fieldLink "RoleParts$Player" (15 : Nat) "RoleParts$Player" "place" "I" ∈ ax_ws := ax_wt 79 (by decide +kernel) (by decide +kernel)
theorem wd_75 : Cond.fieldLink "RoleParts$Player" (19 : Nat) "RoleParts$Player" "part" "LRoleParts$Text;" ∈ ax_ws := ax_wt 75 (by decide +kernel) (by decide +kernel)
theorem wd_317 : Cond.methodLink "RoleParts$Player" (23 : Nat) ({ cls := "RoleParts$Player", name := "goOnAtOnce", desc := "()V" } : Jvm.MethodName) ∈ ax_ws := ax_wt 317 (by decide +kernel) (by decide +kernel)
theorem wd_319 : Cond.instanceMethod ({ cls := "RoleParts$Player", name := "goOnAtOnce", desc := "()V" } : Jvm.MethodName) ∈ ax_ws := ax_wt 319 (by decide +kernel) (by decide +kernel)
theorem wp_19 : Cond.selects "RoleParts$Player" ⟨"RoleParts$Player", "goOnAtOnce", "()V"⟩ ⟨"RoleParts$Player", "goOnAtOnce", "()V"⟩ ∈ ax_ws := ax_wp 19 (by decide +kernel) (by decide +kernel)
theorem wd_5 : Cond.initialized "RoleParts$Player" ∈ ax_ws := ax_wt 5 (by decide +kernel) (by decide +kernel)
theorem wd_321 : Cond.methodLink "RoleParts$Player" (26 : Nat) ({ cls := "RoleParts$Text", name := "get", desc := "(I)C" } : Jvm.MethodName) ∈ ax_ws := ax_wt 321 (by decide +kernel) (by decide +kernel)
theorem wn_343 : Cond.methodLinkNest "RoleParts$Player" (32 : Nat) ({ cls := "RoleParts", name := "isRole", desc := "(C)Z" } : Jvm.MethodName) "RoleParts" ∈ ax_nw := ax_nwm 343 (by decide +kernel) (by decide +kernel)
theorem wd_360 : Cond.methodLink "RoleParts$Player" (36 : Nat) ({ cls := "RoleParts$Player", name := "action", desc := "()I" } : Jvm.MethodName) ∈ ax_ws := ax_wt 360 (by decide +kernel) (by decide +kernel)
theorem wd_340 : Cond.instanceMethod ({ cls := "RoleParts$Player", name := "action", desc := "()I" } : Jvm.MethodName) ∈ ax_ws := ax_wt 340 (by decide +kernel) (by decide +kernel)
theorem wd_341 : Cond.selects "RoleParts$Player" ({ cls := "RoleParts$Player", name := "action", desc := "()I" } : Jvm.MethodName) ({ cls := "RoleParts$Player", name := "action", desc := "()I" } : Jvm.MethodName) ∈ ax_ws := ax_wt 341 (by decide +kernel) (by decide +kernel)
theorem wd_361 : Cond.methodLink "RoleParts$Player" (40 : Nat) ({ cls := "RoleParts$Text", name := "size", desc := "()I" } : Jvm.MethodName) ∈ ax_ws := ax_wt 361 (by decide +kernel) (by decide +kernel)
theorem wd_378 : Cond.methodLink "RoleParts$Player" (43 : Nat) ({ cls := "RoleParts$Player", name := "behindLabel", desc := "(I)I" } : Jvm.MethodName) ∈ ax_ws := ax_wt 378 (by decide +kernel) (by decide +kernel)
theorem wd_357 : Cond.instanceMethod ({ cls := "RoleParts$Player", name := "behindLabel", desc := "(I)I" } : Jvm.MethodName) ∈ ax_ws := ax_wt 357 (by decide +kernel) (by decide +kernel)
theorem wd_358 : Cond.selects "RoleParts$Player" ({ cls := "RoleParts$Player", name := "behindLabel", desc := "(I)I" } : Jvm.MethodName) ({ cls := "RoleParts$Player", name := "behindLabel", desc := "(I)I" } : Jvm.MethodName) ∈ ax_ws := ax_wt 358 (by decide +kernel) (by decide +kernel)
theorem wn_322 : Cond.methodLinkNest "RoleParts$Player" (47 : Nat) ({ cls := "RoleParts", name := "isVariable", desc := "(C)Z" } : Jvm.MethodName) "RoleParts" ∈ ax_nw := ax_nwm 322 (by decide +kernel) (by decide +kernel)
theorem wd_323 : Cond.methodLink "RoleParts$Player" (50 : Nat) ({ cls := "RoleParts$Player", name := "bodyOfLoop", desc := "(C)I" } : Jvm.MethodName) ∈ ax_ws := ax_wt 323 (by decide +kernel) (by decide +kernel)
theorem wd_325 : Cond.instanceMethod ({ cls := "RoleParts$Player", name := "bodyOfLoop", desc := "(C)I" } : Jvm.MethodName) ∈ ax_ws := ax_wt 325 (by decide +kernel) (by decide +kernel)
theorem wp_20 : Cond.selects "RoleParts$Player" ⟨"RoleParts$Player", "bodyOfLoop", "(C)I"⟩ ⟨"RoleParts$Player", "bodyOfLoop", "(C)I"⟩ ∈ ax_ws := ax_wp 20 (by decide +kernel) (by decide +kernel)
theorem wd_109 : Cond.methodLink "RoleParts$Row" (3 : Nat) ({ cls := "java/lang/Object", name := "<init>", desc := "()V" } : Jvm.MethodName) ∈ ax_ws := ax_wt 109 (by decide +kernel) (by decide +kernel)
theorem wd_63 : Cond.arrayClass Jvm.ClassFile.FieldType.int ∈ ax_ws := ax_wt 63 (by decide +kernel) (by decide +kernel)
theorem wd_110 : Cond.fieldLink "RoleParts$Row" (9 : Nat) "RoleParts$Row" "labels" "[I" ∈ ax_ws := ax_wt 110 (by decide +kernel) (by decide +kernel)
theorem wd_111 : Cond.fieldLink "RoleParts$Row" (15 : Nat) "RoleParts$Row" "size" "I" ∈ ax_ws := ax_wt 111 (by decide +kernel) (by decide +kernel)
theorem wd_49 : Cond.methodLink "RoleParts$Soundness" (3 : Nat) ({ cls := "java/lang/Object", name := "<init>", desc := "()V" } : Jvm.MethodName) ∈ ax_ws := ax_wt 49 (by decide +kernel) (by decide +kernel)
theorem wd_50 : Cond.fieldLink "RoleParts$Soundness" (9 : Nat) "RoleParts$Soundness" "loopsAround" "[I" ∈ ax_ws := ax_wt 50 (by decide +kernel) (by decide +kernel)
theorem wd_51 : Cond.fieldLink "RoleParts$Soundness" (15 : Nat) "RoleParts$Soundness" "labelsUsed" "[I" ∈ ax_ws := ax_wt 51 (by decide +kernel) (by decide +kernel)
theorem wd_52 : Cond.fieldLink "RoleParts$Soundness" (18 : Nat) "RoleParts$Soundness" "openMessages" "I" ∈ ax_ws := ax_wt 52 (by decide +kernel) (by decide +kernel)
theorem wd_53 : Cond.fieldLink "RoleParts$Soundness" (22 : Nat) "RoleParts$Soundness" "openLoops" "I" ∈ ax_ws := ax_wt 53 (by decide +kernel) (by decide +kernel)
theorem wd_206 : Cond.methodLink "RoleParts$Soundness" (25 : Nat) ({ cls := "RoleParts$Text", name := "size", desc := "()I" } : Jvm.MethodName) ∈ ax_ws := ax_wt 206 (by decide +kernel) (by decide +kernel)
theorem wd_207 : Cond.methodLink "RoleParts$Soundness" (31 : Nat) ({ cls := "RoleParts$Soundness", name := "isSoundAt", desc := "(LRoleParts$Text;I)Z" } : Jvm.MethodName) ∈ ax_ws := ax_wt 207 (by decide +kernel) (by decide +kernel)
theorem wd_209 : Cond.instanceMethod ({ cls := "RoleParts$Soundness", name := "isSoundAt", desc := "(LRoleParts$Text;I)Z" } : Jvm.MethodName) ∈ ax_ws := ax_wt 209 (by decide +kernel) (by decide +kernel)
theorem wp_5 : Cond.selects "RoleParts$Soundness" ⟨"RoleParts$Soundness", "isSoundAt", "(LRoleParts$Text;I)Z"⟩ ⟨"RoleParts$Soundness", "isSoundAt", "(LRoleParts$Text;I)Z"⟩ ∈ ax_ws := ax_wp 5 (by decide +kernel) (by decide +kernel)
theorem wd_4 : Cond.initialized "RoleParts$Soundness" ∈ ax_ws := ax_wt 4 (by decide +kernel) (by decide +kernel)
theorem wd_211 : Cond.methodLink "RoleParts$Soundness" (35 : Nat) ({ cls := "RoleParts$Text", name := "get", desc := "(I)C" } : Jvm.MethodName) ∈ ax_ws := ax_wt 211 (by decide +kernel) (by decide +kernel)
theorem wd_212 : Cond.methodLink "RoleParts$Soundness" (39 : Nat) ({ cls := "RoleParts$Soundness", name := "openLoop", desc := "(C)Z" } : Jvm.MethodName) ∈ ax_ws := ax_wt 212 (by decide +kernel) (by decide +kernel)
theorem wd_214 : Cond.instanceMethod ({ cls := "RoleParts$Soundness", name := "openLoop", desc := "(C)Z" } : Jvm.MethodName) ∈ ax_ws := ax_wt 214 (by decide +kernel) (by decide +kernel)
theorem wp_6 : Cond.selects "RoleParts$Soundness" ⟨"RoleParts$Soundness", "openLoop", "(C)Z"⟩ ⟨"RoleParts$Soundness", "openLoop", "(C)Z"⟩ ∈ ax_ws := ax_wp 6 (by decide +kernel) (by decide +kernel)
theorem wd_216 : Cond.methodLink "RoleParts$Soundness" (43 : Nat) ({ cls := "RoleParts$Soundness", name := "openMessage", desc := "()Z" } : Jvm.MethodName) ∈ ax_ws := ax_wt 216 (by decide +kernel) (by decide +kernel)
theorem wd_218 : Cond.instanceMethod ({ cls := "RoleParts$Soundness", name := "openMessage", desc := "()Z" } : Jvm.MethodName) ∈ ax_ws := ax_wt 218 (by decide +kernel) (by decide +kernel)
theorem wp_7 : Cond.selects "RoleParts$Soundness" ⟨"RoleParts$Soundness", "openMessage", "()Z"⟩ ⟨"RoleParts$Soundness", "openMessage", "()Z"⟩ ∈ ax_ws := ax_wp 7 (by decide +kernel) (by decide +kernel)
theorem wd_224 : Cond.methodLink "RoleParts$Soundness" (47 : Nat) ({ cls := "RoleParts$Soundness", name := "openBranch", desc := "(C)Z" } : Jvm.MethodName) ∈ ax_ws := ax_wt 224 (by decide +kernel) (by decide +kernel)
theorem wd_226 : Cond.instanceMethod ({ cls := "RoleParts$Soundness", name := "openBranch", desc := "(C)Z" } : Jvm.MethodName) ∈ ax_ws := ax_wt 226 (by decide +kernel) (by decide +kernel)
theorem wp_9 : Cond.selects "RoleParts$Soundness" ⟨"RoleParts$Soundness", "openBranch", "(C)Z"⟩ ⟨"RoleParts$Soundness", "openBranch", "(C)Z"⟩ ∈ ax_ws := ax_wp 9 (by decide +kernel) (by decide +kernel)
theorem wd_220 : Cond.methodLink "RoleParts$Soundness" (50 : Nat) ({ cls := "RoleParts$Soundness", name := "isInBounds", desc := "()Z" } : Jvm.MethodName) ∈ ax_ws := ax_wt 220 (by decide +kernel) (by decide +kernel)
theorem wd_222 : Cond.instanceMethod ({ cls := "RoleParts$Soundness", name := "isInBounds", desc := "()Z" } : Jvm.MethodName) ∈ ax_ws := ax_wt 222 (by decide +kernel) (by decide +kernel)
theorem wp_8 : Cond.selects "RoleParts$Soundness" ⟨"RoleParts$Soundness", "isInBounds", "()Z"⟩ ⟨"RoleParts$Soundness", "isInBounds", "()Z"⟩ ∈ ax_ws := ax_wp 8 (by decide +kernel) (by decide +kernel)
theorem wn_228 : Cond.methodLinkNest "RoleParts$Soundness" (53 : Nat) ({ cls := "RoleParts", name := "isVariable", desc := "(C)Z" } : Jvm.MethodName) "RoleParts" ∈ ax_nw := ax_nwm 228 (by decide +kernel) (by decide +kernel)
theorem wd_229 : Cond.methodLink "RoleParts$Soundness" (56 : Nat) ({ cls := "RoleParts$Soundness", name := "isLoopAroundMessage", desc := "(C)Z" } : Jvm.MethodName) ∈ ax_ws := ax_wt 229 (by decide +kernel) (by decide +kernel)
theorem wd_231 : Cond.instanceMethod ({ cls := "RoleParts$Soundness", name := "isLoopAroundMessage", desc := "(C)Z" } : Jvm.MethodName) ∈ ax_ws := ax_wt 231 (by decide +kernel) (by decide +kernel)
theorem wp_10 : Cond.selects "RoleParts$Soundness" ⟨"RoleParts$Soundness", "isLoopAroundMessage", "(C)Z"⟩ ⟨"RoleParts$Soundness", "isLoopAroundMessage", "(C)Z"⟩ ∈ ax_ws := ax_wp 10 (by decide +kernel) (by decide +kernel)
theorem wd_22 : Cond.methodLink "RoleParts$Text" (3 : Nat) ({ cls := "java/lang/Object", name := "<init>", desc := "()V" } : Jvm.MethodName) ∈ ax_ws := ax_wt 22 (by decide +kernel) (by decide +kernel)
theorem wd_30 : Cond.arrayClass Jvm.ClassFile.FieldType.char ∈ ax_ws := ax_wt 30 (by decide +kernel) (by decide +kernel)
theorem wd_23 : Cond.fieldLink "RoleParts$Text" (9 : Nat) "RoleParts$Text" "chars" "[C" ∈ ax_ws := ax_wt 23 (by decide +kernel) (by decide +kernel)
theorem wd_24 : Cond.fieldLink "RoleParts$Text" (15 : Nat) "RoleParts$Text" "size" "I" ∈ ax_ws := ax_wt 24 (by decide +kernel) (by decide +kernel)
theorem wd_153 : Cond.methodLink "RoleParts$Text" (19 : Nat) ({ cls := "RoleParts$Text", name := "insert", desc := "(IC)Z" } : Jvm.MethodName) ∈ ax_ws := ax_wt 153 (by decide +kernel) (by decide +kernel)
theorem wd_241 : Cond.methodLink "RoleParts$Text" (23 : Nat) ({ cls := "RoleParts$Text", name := "get", desc := "(I)C" } : Jvm.MethodName) ∈ ax_ws := ax_wt 241 (by decide +kernel) (by decide +kernel)
theorem wd_14 : Cond.methodLink "RoleParts" (1 : Nat) ({ cls := "java/lang/Object", name := "<init>", desc := "()V" } : Jvm.MethodName) ∈ ax_ws := ax_wt 14 (by decide +kernel) (by decide +kernel)
theorem wd_17 : Cond.classLink "RoleParts" (7 : Nat) "RoleParts$Text" ∈ ax_ws := ax_wt 17 (by decide +kernel) (by decide +kernel)
theorem wd_18 : Cond.instantiable "RoleParts$Text" (2 : Nat) ∈ ax_ws := ax_wt 18 (by decide +kernel) (by decide +kernel)
theorem wn_19 : Cond.methodLinkNest "RoleParts" (9 : Nat) ({ cls := "RoleParts$Text", name := "<init>", desc := "()V" } : Jvm.MethodName) "RoleParts" ∈ ax_nw := ax_nwm 19 (by decide +kernel) (by decide +kernel)
theorem wd_20 : Cond.instanceMethod ({ cls := "RoleParts$Text", name := "<init>", desc := "()V" } : Jvm.MethodName) ∈ ax_ws := ax_wt 20 (by decide +kernel) (by decide +kernel)
theorem wd_117 : Cond.fieldLink "RoleParts" (10 : Nat) "RoleParts" "typed" "LRoleParts$Text;" ∈ ax_ws := ax_wt 117 (by decide +kernel) (by decide +kernel)
theorem wd_31 : Cond.classLink "RoleParts" (16 : Nat) "RoleParts$Grammar" ∈ ax_ws := ax_wt 31 (by decide +kernel) (by decide +kernel)
theorem wd_32 : Cond.instantiable "RoleParts$Grammar" (2 : Nat) ∈ ax_ws := ax_wt 32 (by decide +kernel) (by decide +kernel)
theorem wn_33 : Cond.methodLinkNest "RoleParts" (18 : Nat) ({ cls := "RoleParts$Grammar", name := "<init>", desc := "()V" } : Jvm.MethodName) "RoleParts" ∈ ax_nw := ax_nwm 33 (by decide +kernel) (by decide +kernel)
theorem wd_34 : Cond.instanceMethod ({ cls := "RoleParts$Grammar", name := "<init>", desc := "()V" } : Jvm.MethodName) ∈ ax_ws := ax_wt 34 (by decide +kernel) (by decide +kernel)
theorem wd_118 : Cond.fieldLink "RoleParts" (19 : Nat) "RoleParts" "grammar" "LRoleParts$Grammar;" ∈ ax_ws := ax_wt 118 (by decide +kernel) (by decide +kernel)
theorem wd_44 : Cond.classLink "RoleParts" (23 : Nat) "RoleParts$Soundness" ∈ ax_ws := ax_wt 44 (by decide +kernel) (by decide +kernel)
theorem wd_45 : Cond.instantiable "RoleParts$Soundness" (4 : Nat) ∈ ax_ws := ax_wt 45 (by decide +kernel) (by decide +kernel)
theorem wn_46 : Cond.methodLinkNest "RoleParts" (25 : Nat) ({ cls := "RoleParts$Soundness", name := "<init>", desc := "()V" } : Jvm.MethodName) "RoleParts" ∈ ax_nw := ax_nwm 46 (by decide +kernel) (by decide +kernel)
theorem wd_47 : Cond.instanceMethod ({ cls := "RoleParts$Soundness", name := "<init>", desc := "()V" } : Jvm.MethodName) ∈ ax_ws := ax_wt 47 (by decide +kernel) (by decide +kernel)
theorem wd_119 : Cond.fieldLink "RoleParts" (26 : Nat) "RoleParts" "soundness" "LRoleParts$Soundness;" ∈ ax_ws := ax_wt 119 (by decide +kernel) (by decide +kernel)
theorem wd_64 : Cond.classLink "RoleParts" (30 : Nat) "RoleParts$Player" ∈ ax_ws := ax_wt 64 (by decide +kernel) (by decide +kernel)
theorem wd_120 : Cond.fieldLink "RoleParts" (32 : Nat) "RoleParts" "players" "[LRoleParts$Player;" ∈ ax_ws := ax_wt 120 (by decide +kernel) (by decide +kernel)
theorem wd_66 : Cond.classLink "RoleParts" (36 : Nat) "RoleParts$PartWriter" ∈ ax_ws := ax_wt 66 (by decide +kernel) (by decide +kernel)
theorem wd_121 : Cond.fieldLink "RoleParts" (38 : Nat) "RoleParts" "writers" "[LRoleParts$PartWriter;" ∈ ax_ws := ax_wt 121 (by decide +kernel) (by decide +kernel)
theorem wd_68 : Cond.classLink "RoleParts" (42 : Nat) "RoleParts$Row" ∈ ax_ws := ax_wt 68 (by decide +kernel) (by decide +kernel)
theorem wd_122 : Cond.fieldLink "RoleParts" (44 : Nat) "RoleParts" "rows" "[LRoleParts$Row;" ∈ ax_ws := ax_wt 122 (by decide +kernel) (by decide +kernel)
theorem wd_123 : Cond.fieldLink "RoleParts" (48 : Nat) "RoleParts" "messageCount" "I" ∈ ax_ws := ax_wt 123 (by decide +kernel) (by decide +kernel)
theorem wd_124 : Cond.fieldLink "RoleParts" (52 : Nat) "RoleParts" "hasRun" "Z" ∈ ax_ws := ax_wt 124 (by decide +kernel) (by decide +kernel)
theorem wd_125 : Cond.fieldLink "RoleParts" (56 : Nat) "RoleParts" "moveCount" "I" ∈ ax_ws := ax_wt 125 (by decide +kernel) (by decide +kernel)
theorem wd_70 : Cond.instantiable "RoleParts$Player" (3 : Nat) ∈ ax_ws := ax_wt 70 (by decide +kernel) (by decide +kernel)
theorem wd_71 : Cond.methodLink "RoleParts" (59 : Nat) ({ cls := "RoleParts$Player", name := "<init>", desc := "(LRoleParts$Text;)V" } : Jvm.MethodName) ∈ ax_ws := ax_wt 71 (by decide +kernel) (by decide +kernel)
theorem wd_72 : Cond.instanceMethod ({ cls := "RoleParts$Player", name := "<init>", desc := "(LRoleParts$Text;)V" } : Jvm.MethodName) ∈ ax_ws := ax_wt 72 (by decide +kernel) (by decide +kernel)
theorem wd_87 : Cond.instantiable "RoleParts$PartWriter" (4 : Nat) ∈ ax_ws := ax_wt 87 (by decide +kernel) (by decide +kernel)
theorem wd_88 : Cond.methodLink "RoleParts" (62 : Nat) ({ cls := "RoleParts$PartWriter", name := "<init>", desc := "(LRoleParts$Text;CLRoleParts$Text;)V" } : Jvm.MethodName) ∈ ax_ws := ax_wt 88 (by decide +kernel) (by decide +kernel)
theorem wd_89 : Cond.instanceMethod ({ cls := "RoleParts$PartWriter", name := "<init>", desc := "(LRoleParts$Text;CLRoleParts$Text;)V" } : Jvm.MethodName) ∈ ax_ws := ax_wt 89 (by decide +kernel) (by decide +kernel)
theorem wd_105 : Cond.instantiable "RoleParts$Row" (2 : Nat) ∈ ax_ws := ax_wt 105 (by decide +kernel) (by decide +kernel)
theorem wd_7 : Cond.initialized "RoleParts$Row" ∈ ax_ws := ax_wt 7 (by decide +kernel) (by decide +kernel)
theorem wn_106 : Cond.methodLinkNest "RoleParts" (65 : Nat) ({ cls := "RoleParts$Row", name := "<init>", desc := "()V" } : Jvm.MethodName) "RoleParts" ∈ ax_nw := ax_nwm 106 (by decide +kernel) (by decide +kernel)
theorem wd_107 : Cond.instanceMethod ({ cls := "RoleParts$Row", name := "<init>", desc := "()V" } : Jvm.MethodName) ∈ ax_ws := ax_wt 107 (by decide +kernel) (by decide +kernel)
theorem wd_149 : Cond.methodLink "RoleParts" (66 : Nat) ({ cls := "RoleParts$Text", name := "append", desc := "(C)Z" } : Jvm.MethodName) ∈ ax_ws := ax_wt 149 (by decide +kernel) (by decide +kernel)
theorem wd_161 : Cond.methodLink "RoleParts" (70 : Nat) ({ cls := "RoleParts", name := "judgeTyped", desc := "()I" } : Jvm.MethodName) ∈ ax_ws := ax_wt 161 (by decide +kernel) (by decide +kernel)
theorem wd_163 : Cond.instanceMethod ({ cls := "RoleParts", name := "judgeTyped", desc := "()I" } : Jvm.MethodName) ∈ ax_ws := ax_wt 163 (by decide +kernel) (by decide +kernel)
theorem wp_0 : Cond.selects "RoleParts" ⟨"RoleParts", "judgeTyped", "()I"⟩ ⟨"RoleParts", "judgeTyped", "()I"⟩ ∈ ax_ws := ax_wp 0 (by decide +kernel) (by decide +kernel)
theorem wd_233 : Cond.methodLink "RoleParts" (74 : Nat) ({ cls := "RoleParts", name := "adoptTyped", desc := "()V" } : Jvm.MethodName) ∈ ax_ws := ax_wt 233 (by decide +kernel) (by decide +kernel)
theorem wd_235 : Cond.instanceMethod ({ cls := "RoleParts", name := "adoptTyped", desc := "()V" } : Jvm.MethodName) ∈ ax_ws := ax_wt 235 (by decide +kernel) (by decide +kernel)
theorem wp_11 : Cond.selects "RoleParts" ⟨"RoleParts", "adoptTyped", "()V"⟩ ⟨"RoleParts", "adoptTyped", "()V"⟩ ∈ ax_ws := ax_wp 11 (by decide +kernel) (by decide +kernel)
theorem wd_287 : Cond.methodLink "RoleParts" (77 : Nat) ({ cls := "RoleParts$Text", name := "shorten", desc := "(I)V" } : Jvm.MethodName) ∈ ax_ws := ax_wt 287 (by decide +kernel) (by decide +kernel)
theorem wd_296 : Cond.methodLink "RoleParts" (81 : Nat) ({ cls := "RoleParts", name := "hasPart", desc := "(I)Z" } : Jvm.MethodName) ∈ ax_ws := ax_wt 296 (by decide +kernel) (by decide +kernel)
theorem wd_298 : Cond.instanceMethod ({ cls := "RoleParts", name := "hasPart", desc := "(I)Z" } : Jvm.MethodName) ∈ ax_ws := ax_wt 298 (by decide +kernel) (by decide +kernel)
theorem wp_18 : Cond.selects "RoleParts" ⟨"RoleParts", "hasPart", "(I)Z"⟩ ⟨"RoleParts", "hasPart", "(I)Z"⟩ ∈ ax_ws := ax_wp 18 (by decide +kernel) (by decide +kernel)
theorem wn_76 : Cond.fieldLinkNest "RoleParts" (85 : Nat) "RoleParts$Player" "part" "LRoleParts$Text;" "RoleParts" ∈ ax_nw := ax_nwm 76 (by decide +kernel) (by decide +kernel)
theorem wd_303 : Cond.methodLink "RoleParts" (88 : Nat) ({ cls := "RoleParts$Text", name := "size", desc := "()I" } : Jvm.MethodName) ∈ ax_ws := ax_wt 303 (by decide +kernel) (by decide +kernel)
theorem wd_308 : Cond.methodLink "RoleParts" (91 : Nat) ({ cls := "RoleParts$Text", name := "get", desc := "(I)C" } : Jvm.MethodName) ∈ ax_ws := ax_wt 308 (by decide +kernel) (by decide +kernel)
theorem wd_313 : Cond.methodLink "RoleParts" (95 : Nat) ({ cls := "RoleParts$Player", name := "toBeginning", desc := "()V" } : Jvm.MethodName) ∈ ax_ws := ax_wt 313 (by decide +kernel) (by decide +kernel)
theorem wd_314 : Cond.instanceMethod ({ cls := "RoleParts$Player", name := "toBeginning", desc := "()V" } : Jvm.MethodName) ∈ ax_ws := ax_wt 314 (by decide +kernel) (by decide +kernel)
theorem wd_315 : Cond.selects "RoleParts$Player" ({ cls := "RoleParts$Player", name := "toBeginning", desc := "()V" } : Jvm.MethodName) ({ cls := "RoleParts$Player", name := "toBeginning", desc := "()V" } : Jvm.MethodName) ∈ ax_ws := ax_wt 315 (by decide +kernel) (by decide +kernel)
theorem wd_327 : Cond.methodLink "RoleParts" (98 : Nat) ({ cls := "RoleParts$Row", name := "clear", desc := "()V" } : Jvm.MethodName) ∈ ax_ws := ax_wt 327 (by decide +kernel) (by decide +kernel)
theorem wd_328 : Cond.instanceMethod ({ cls := "RoleParts$Row", name := "clear", desc := "()V" } : Jvm.MethodName) ∈ ax_ws := ax_wt 328 (by decide +kernel) (by decide +kernel)
theorem wd_329 : Cond.selects "RoleParts$Row" ({ cls := "RoleParts$Row", name := "clear", desc := "()V" } : Jvm.MethodName) ({ cls := "RoleParts$Row", name := "clear", desc := "()V" } : Jvm.MethodName) ∈ ax_ws := ax_wt 329 (by decide +kernel) (by decide +kernel)
theorem wd_335 : Cond.methodLink "RoleParts" (101 : Nat) ({ cls := "RoleParts", name := "playing", desc := "(I)LRoleParts$Player;" } : Jvm.MethodName) ∈ ax_ws := ax_wt 335 (by decide +kernel) (by decide +kernel)
theorem wd_337 : Cond.instanceMethod ({ cls := "RoleParts", name := "playing", desc := "(I)LRoleParts$Player;" } : Jvm.MethodName) ∈ ax_ws := ax_wt 337 (by decide +kernel) (by decide +kernel)
theorem wp_21 : Cond.selects "RoleParts" ⟨"RoleParts", "playing", "(I)LRoleParts$Player;"⟩ ⟨"RoleParts", "playing", "(I)LRoleParts$Player;"⟩ ∈ ax_ws := ax_wp 21 (by decide +kernel) (by decide +kernel)
theorem wd_339 : Cond.methodLink "RoleParts" (105 : Nat) ({ cls := "RoleParts$Player", name := "action", desc := "()I" } : Jvm.MethodName) ∈ ax_ws := ax_wt 339 (by decide +kernel) (by decide +kernel)
theorem wd_348 : Cond.methodLink "RoleParts" (108 : Nat) ({ cls := "RoleParts$Player", name := "otherRole", desc := "()I" } : Jvm.MethodName) ∈ ax_ws := ax_wt 348 (by decide +kernel) (by decide +kernel)
theorem wd_349 : Cond.instanceMethod ({ cls := "RoleParts$Player", name := "otherRole", desc := "()I" } : Jvm.MethodName) ∈ ax_ws := ax_wt 349 (by decide +kernel) (by decide +kernel)
theorem wd_350 : Cond.selects "RoleParts$Player" ({ cls := "RoleParts$Player", name := "otherRole", desc := "()I" } : Jvm.MethodName) ({ cls := "RoleParts$Player", name := "otherRole", desc := "()I" } : Jvm.MethodName) ∈ ax_ws := ax_wt 350 (by decide +kernel) (by decide +kernel)
theorem wd_356 : Cond.methodLink "RoleParts" (111 : Nat) ({ cls := "RoleParts$Player", name := "behindLabel", desc := "(I)I" } : Jvm.MethodName) ∈ ax_ws := ax_wt 356 (by decide +kernel) (by decide +kernel)
theorem wd_366 : Cond.methodLink "RoleParts" (115 : Nat) ({ cls := "RoleParts", name := "rowBetween", desc := "(II)LRoleParts$Row;" } : Jvm.MethodName) ∈ ax_ws := ax_wt 366 (by decide +kernel) (by decide +kernel)
theorem wd_368 : Cond.instanceMethod ({ cls := "RoleParts", name := "rowBetween", desc := "(II)LRoleParts$Row;" } : Jvm.MethodName) ∈ ax_ws := ax_wt 368 (by decide +kernel) (by decide +kernel)
theorem wp_22 : Cond.selects "RoleParts" ⟨"RoleParts", "rowBetween", "(II)LRoleParts$Row;"⟩ ⟨"RoleParts", "rowBetween", "(II)LRoleParts$Row;"⟩ ∈ ax_ws := ax_wp 22 (by decide +kernel) (by decide +kernel)
theorem wd_370 : Cond.methodLink "RoleParts" (119 : Nat) ({ cls := "RoleParts$Row", name := "isFull", desc := "()Z" } : Jvm.MethodName) ∈ ax_ws := ax_wt 370 (by decide +kernel) (by decide +kernel)
theorem wd_371 : Cond.instanceMethod ({ cls := "RoleParts$Row", name := "isFull", desc := "()Z" } : Jvm.MethodName) ∈ ax_ws := ax_wt 371 (by decide +kernel) (by decide +kernel)
theorem wd_372 : Cond.selects "RoleParts$Row" ({ cls := "RoleParts$Row", name := "isFull", desc := "()Z" } : Jvm.MethodName) ({ cls := "RoleParts$Row", name := "isFull", desc := "()Z" } : Jvm.MethodName) ∈ ax_ws := ax_wt 372 (by decide +kernel) (by decide +kernel)
theorem wd_374 : Cond.methodLink "RoleParts" (123 : Nat) ({ cls := "RoleParts$Player", name := "follow", desc := "(I)Z" } : Jvm.MethodName) ∈ ax_ws := ax_wt 374 (by decide +kernel) (by decide +kernel)
theorem wd_375 : Cond.instanceMethod ({ cls := "RoleParts$Player", name := "follow", desc := "(I)Z" } : Jvm.MethodName) ∈ ax_ws := ax_wt 375 (by decide +kernel) (by decide +kernel)
theorem wd_376 : Cond.selects "RoleParts$Player" ({ cls := "RoleParts$Player", name := "follow", desc := "(I)Z" } : Jvm.MethodName) ({ cls := "RoleParts$Player", name := "follow", desc := "(I)Z" } : Jvm.MethodName) ∈ ax_ws := ax_wt 376 (by decide +kernel) (by decide +kernel)
theorem wd_379 : Cond.methodLink "RoleParts" (126 : Nat) ({ cls := "RoleParts$Row", name := "append", desc := "(I)V" } : Jvm.MethodName) ∈ ax_ws := ax_wt 379 (by decide +kernel) (by decide +kernel)
theorem wd_380 : Cond.instanceMethod ({ cls := "RoleParts$Row", name := "append", desc := "(I)V" } : Jvm.MethodName) ∈ ax_ws := ax_wt 380 (by decide +kernel) (by decide +kernel)
theorem wd_381 : Cond.selects "RoleParts$Row" ({ cls := "RoleParts$Row", name := "append", desc := "(I)V" } : Jvm.MethodName) ({ cls := "RoleParts$Row", name := "append", desc := "(I)V" } : Jvm.MethodName) ∈ ax_ws := ax_wt 381 (by decide +kernel) (by decide +kernel)
theorem wd_387 : Cond.methodLink "RoleParts" (128 : Nat) ({ cls := "RoleParts$Row", name := "size", desc := "()I" } : Jvm.MethodName) ∈ ax_ws := ax_wt 387 (by decide +kernel) (by decide +kernel)
theorem wd_388 : Cond.instanceMethod ({ cls := "RoleParts$Row", name := "size", desc := "()I" } : Jvm.MethodName) ∈ ax_ws := ax_wt 388 (by decide +kernel) (by decide +kernel)
theorem wd_389 : Cond.selects "RoleParts$Row" ({ cls := "RoleParts$Row", name := "size", desc := "()I" } : Jvm.MethodName) ({ cls := "RoleParts$Row", name := "size", desc := "()I" } : Jvm.MethodName) ∈ ax_ws := ax_wt 389 (by decide +kernel) (by decide +kernel)
theorem wd_391 : Cond.methodLink "RoleParts" (129 : Nat) ({ cls := "RoleParts$Row", name := "get", desc := "(I)I" } : Jvm.MethodName) ∈ ax_ws := ax_wt 391 (by decide +kernel) (by decide +kernel)
theorem wd_392 : Cond.instanceMethod ({ cls := "RoleParts$Row", name := "get", desc := "(I)I" } : Jvm.MethodName) ∈ ax_ws := ax_wt 392 (by decide +kernel) (by decide +kernel)
theorem wd_393 : Cond.selects "RoleParts$Row" ({ cls := "RoleParts$Row", name := "get", desc := "(I)I" } : Jvm.MethodName) ({ cls := "RoleParts$Row", name := "get", desc := "(I)I" } : Jvm.MethodName) ∈ ax_ws := ax_wt 393 (by decide +kernel) (by decide +kernel)
theorem wd_395 : Cond.methodLink "RoleParts" (131 : Nat) ({ cls := "RoleParts$Row", name := "removeFirst", desc := "()V" } : Jvm.MethodName) ∈ ax_ws := ax_wt 395 (by decide +kernel) (by decide +kernel)
theorem wd_396 : Cond.instanceMethod ({ cls := "RoleParts$Row", name := "removeFirst", desc := "()V" } : Jvm.MethodName) ∈ ax_ws := ax_wt 396 (by decide +kernel) (by decide +kernel)
theorem wd_397 : Cond.selects "RoleParts$Row" ({ cls := "RoleParts$Row", name := "removeFirst", desc := "()V" } : Jvm.MethodName) ({ cls := "RoleParts$Row", name := "removeFirst", desc := "()V" } : Jvm.MethodName) ∈ ax_ws := ax_wt 397 (by decide +kernel) (by decide +kernel)
theorem wd_415 : Cond.methodLink "RoleParts" (134 : Nat) ({ cls := "RoleParts", name := "canGoOn", desc := "(I)Z" } : Jvm.MethodName) ∈ ax_ws := ax_wt 415 (by decide +kernel) (by decide +kernel)
theorem wd_417 : Cond.instanceMethod ({ cls := "RoleParts", name := "canGoOn", desc := "(I)Z" } : Jvm.MethodName) ∈ ax_ws := ax_wt 417 (by decide +kernel) (by decide +kernel)
theorem wp_23 : Cond.selects "RoleParts" ⟨"RoleParts", "canGoOn", "(I)Z"⟩ ⟨"RoleParts", "canGoOn", "(I)Z"⟩ ∈ ax_ws := ax_wp 23 (by decide +kernel) (by decide +kernel)
theorem wd_423 : Cond.methodLink "RoleParts" (137 : Nat) ({ cls := "RoleParts", name := "allEnded", desc := "()Z" } : Jvm.MethodName) ∈ ax_ws := ax_wt 423 (by decide +kernel) (by decide +kernel)
theorem wd_425 : Cond.instanceMethod ({ cls := "RoleParts", name := "allEnded", desc := "()Z" } : Jvm.MethodName) ∈ ax_ws := ax_wt 425 (by decide +kernel) (by decide +kernel)
theorem wp_24 : Cond.selects "RoleParts" ⟨"RoleParts", "allEnded", "()Z"⟩ ⟨"RoleParts", "allEnded", "()Z"⟩ ∈ ax_ws := ax_wp 24 (by decide +kernel) (by decide +kernel)
theorem wd_427 : Cond.methodLink "RoleParts" (140 : Nat) ({ cls := "RoleParts", name := "nothingOnTheWay", desc := "()Z" } : Jvm.MethodName) ∈ ax_ws := ax_wt 427 (by decide +kernel) (by decide +kernel)
theorem wd_429 : Cond.instanceMethod ({ cls := "RoleParts", name := "nothingOnTheWay", desc := "()Z" } : Jvm.MethodName) ∈ ax_ws := ax_wt 429 (by decide +kernel) (by decide +kernel)
theorem wp_25 : Cond.selects "RoleParts" ⟨"RoleParts", "nothingOnTheWay", "()Z"⟩ ⟨"RoleParts", "nothingOnTheWay", "()Z"⟩ ∈ ax_ws := ax_wp 25 (by decide +kernel) (by decide +kernel)
theorem wd_165 : Cond.methodLink "RoleParts" (143 : Nat) ({ cls := "RoleParts$Grammar", name := "faultOf", desc := "(LRoleParts$Text;)I" } : Jvm.MethodName) ∈ ax_ws := ax_wt 165 (by decide +kernel) (by decide +kernel)
theorem wd_166 : Cond.instanceMethod ({ cls := "RoleParts$Grammar", name := "faultOf", desc := "(LRoleParts$Text;)I" } : Jvm.MethodName) ∈ ax_ws := ax_wt 166 (by decide +kernel) (by decide +kernel)
theorem wd_167 : Cond.selects "RoleParts$Grammar" ({ cls := "RoleParts$Grammar", name := "faultOf", desc := "(LRoleParts$Text;)I" } : Jvm.MethodName) ({ cls := "RoleParts$Grammar", name := "faultOf", desc := "(LRoleParts$Text;)I" } : Jvm.MethodName) ∈ ax_ws := ax_wt 167 (by decide +kernel) (by decide +kernel)
theorem wd_202 : Cond.methodLink "RoleParts" (147 : Nat) ({ cls := "RoleParts$Soundness", name := "holdsFor", desc := "(LRoleParts$Text;)Z" } : Jvm.MethodName) ∈ ax_ws := ax_wt 202 (by decide +kernel) (by decide +kernel)
theorem wd_203 : Cond.instanceMethod ({ cls := "RoleParts$Soundness", name := "holdsFor", desc := "(LRoleParts$Text;)Z" } : Jvm.MethodName) ∈ ax_ws := ax_wt 203 (by decide +kernel) (by decide +kernel)
theorem wd_204 : Cond.selects "RoleParts$Soundness" ({ cls := "RoleParts$Soundness", name := "holdsFor", desc := "(LRoleParts$Text;)Z" } : Jvm.MethodName) ({ cls := "RoleParts$Soundness", name := "holdsFor", desc := "(LRoleParts$Text;)Z" } : Jvm.MethodName) ∈ ax_ws := ax_wt 204 (by decide +kernel) (by decide +kernel)
theorem wd_237 : Cond.methodLink "RoleParts" (151 : Nat) ({ cls := "RoleParts$Text", name := "countOf", desc := "(C)I" } : Jvm.MethodName) ∈ ax_ws := ax_wt 237 (by decide +kernel) (by decide +kernel)
theorem wd_238 : Cond.instanceMethod ({ cls := "RoleParts$Text", name := "countOf", desc := "(C)I" } : Jvm.MethodName) ∈ ax_ws := ax_wt 238 (by decide +kernel) (by decide +kernel)
theorem wd_239 : Cond.selects "RoleParts$Text" ({ cls := "RoleParts$Text", name := "countOf", desc := "(C)I" } : Jvm.MethodName) ({ cls := "RoleParts$Text", name := "countOf", desc := "(C)I" } : Jvm.MethodName) ∈ ax_ws := ax_wt 239 (by decide +kernel) (by decide +kernel)
theorem wd_242 : Cond.methodLink "RoleParts" (155 : Nat) ({ cls := "RoleParts$PartWriter", name := "writePart", desc := "()Z" } : Jvm.MethodName) ∈ ax_ws := ax_wt 242 (by decide +kernel) (by decide +kernel)
theorem wd_243 : Cond.instanceMethod ({ cls := "RoleParts$PartWriter", name := "writePart", desc := "()Z" } : Jvm.MethodName) ∈ ax_ws := ax_wt 243 (by decide +kernel) (by decide +kernel)
theorem wd_244 : Cond.selects "RoleParts$PartWriter" ({ cls := "RoleParts$PartWriter", name := "writePart", desc := "()Z" } : Jvm.MethodName) ({ cls := "RoleParts$PartWriter", name := "writePart", desc := "()Z" } : Jvm.MethodName) ∈ ax_ws := ax_wt 244 (by decide +kernel) (by decide +kernel)
theorem wn_78 : Cond.fieldLinkNest "RoleParts" (158 : Nat) "RoleParts$Player" "partExists" "Z" "RoleParts" ∈ ax_nw := ax_nwm 78 (by decide +kernel) (by decide +kernel)
theorem wd_300 : Cond.methodLink "RoleParts" (161 : Nat) ({ cls := "RoleParts", name := "isRoleNumber", desc := "(I)Z" } : Jvm.MethodName) ∈ ax_ws := ax_wt 300 (by decide +kernel) (by decide +kernel)
theorem wd_301 : Cond.static ({ cls := "RoleParts", name := "isRoleNumber", desc := "(I)Z" } : Jvm.MethodName) ∈ ax_ws := ax_wt 301 (by decide +kernel) (by decide +kernel)
theorem wd_436 : Cond.methodLink "RolePartsModel" (1 : Nat) ({ cls := "java/lang/Object", name := "<init>", desc := "()V" } : Jvm.MethodName) ∈ ax_ws := ax_wt 436 (by decide +kernel) (by decide +kernel)
theorem wd_438 : Cond.fieldLink "RolePartsModel" (7 : Nat) "RolePartsModel" "text" "[C" ∈ ax_ws := ax_wt 438 (by decide +kernel) (by decide +kernel)
theorem wd_440 : Cond.fieldLink "RolePartsModel" (13 : Nat) "RolePartsModel" "what" "[I" ∈ ax_ws := ax_wt 440 (by decide +kernel) (by decide +kernel)
theorem wd_441 : Cond.fieldLink "RolePartsModel" (17 : Nat) "RolePartsModel" "first" "[I" ∈ ax_ws := ax_wt 441 (by decide +kernel) (by decide +kernel)
theorem wd_442 : Cond.fieldLink "RolePartsModel" (20 : Nat) "RolePartsModel" "second" "[I" ∈ ax_ws := ax_wt 442 (by decide +kernel) (by decide +kernel)
theorem wd_443 : Cond.fieldLink "RolePartsModel" (23 : Nat) "RolePartsModel" "around" "[I" ∈ ax_ws := ax_wt 443 (by decide +kernel) (by decide +kernel)
theorem wd_444 : Cond.fieldLink "RolePartsModel" (26 : Nat) "RolePartsModel" "label" "[I" ∈ ax_ws := ax_wt 444 (by decide +kernel) (by decide +kernel)
theorem wd_445 : Cond.fieldLink "RolePartsModel" (29 : Nat) "RolePartsModel" "parts" "[C" ∈ ax_ws := ax_wt 445 (by decide +kernel) (by decide +kernel)
theorem wd_446 : Cond.fieldLink "RolePartsModel" (32 : Nat) "RolePartsModel" "size" "[I" ∈ ax_ws := ax_wt 446 (by decide +kernel) (by decide +kernel)
theorem wd_449 : Cond.fieldLink "RolePartsModel" (35 : Nat) "RolePartsModel" "part" "[C" ∈ ax_ws := ax_wt 449 (by decide +kernel) (by decide +kernel)
theorem wd_450 : Cond.fieldLink "RolePartsModel" (38 : Nat) "RolePartsModel" "long1" "[I" ∈ ax_ws := ax_wt 450 (by decide +kernel) (by decide +kernel)
theorem wd_452 : Cond.fieldLink "RolePartsModel" (41 : Nat) "RolePartsModel" "at" "[I" ∈ ax_ws := ax_wt 452 (by decide +kernel) (by decide +kernel)
theorem wd_453 : Cond.fieldLink "RolePartsModel" (44 : Nat) "RolePartsModel" "way" "[I" ∈ ax_ws := ax_wt 453 (by decide +kernel) (by decide +kernel)
theorem wd_454 : Cond.fieldLink "RolePartsModel" (47 : Nat) "RolePartsModel" "many" "[I" ∈ ax_ws := ax_wt 454 (by decide +kernel) (by decide +kernel)
theorem wd_437 : Cond.fieldLink "RolePartsModel" (50 : Nat) "RolePartsModel" "length" "I" ∈ ax_ws := ax_wt 437 (by decide +kernel) (by decide +kernel)
theorem wd_439 : Cond.fieldLink "RolePartsModel" (54 : Nat) "RolePartsModel" "pieces" "I" ∈ ax_ws := ax_wt 439 (by decide +kernel) (by decide +kernel)
theorem wd_510 : Cond.methodLink "RolePartsModel" (57 : Nat) ({ cls := "RolePartsModel", name := "isVariable", desc := "(I)Z" } : Jvm.MethodName) ∈ ax_ws := ax_wt 510 (by decide +kernel) (by decide +kernel)
theorem wd_511 : Cond.static ({ cls := "RolePartsModel", name := "isVariable", desc := "(I)Z" } : Jvm.MethodName) ∈ ax_ws := ax_wt 511 (by decide +kernel) (by decide +kernel)
theorem wd_8 : Cond.initialized "RolePartsModel" ∈ ax_ws := ax_wt 8 (by decide +kernel) (by decide +kernel)
theorem wd_513 : Cond.methodLink "RolePartsModel" (61 : Nat) ({ cls := "RolePartsModel", name := "isRole", desc := "(I)Z" } : Jvm.MethodName) ∈ ax_ws := ax_wt 513 (by decide +kernel) (by decide +kernel)
theorem wd_514 : Cond.static ({ cls := "RolePartsModel", name := "isRole", desc := "(I)Z" } : Jvm.MethodName) ∈ ax_ws := ax_wt 514 (by decide +kernel) (by decide +kernel)
theorem wd_507 : Cond.methodLink "RolePartsModel" (64 : Nat) ({ cls := "RolePartsModel", name := "afterStart", desc := "(I)I" } : Jvm.MethodName) ∈ ax_ws := ax_wt 507 (by decide +kernel) (by decide +kernel)
theorem wd_508 : Cond.static ({ cls := "RolePartsModel", name := "afterStart", desc := "(I)I" } : Jvm.MethodName) ∈ ax_ws := ax_wt 508 (by decide +kernel) (by decide +kernel)
theorem wd_516 : Cond.methodLink "RolePartsModel" (68 : Nat) ({ cls := "RolePartsModel", name := "piece", desc := "(IIIII)I" } : Jvm.MethodName) ∈ ax_ws := ax_wt 516 (by decide +kernel) (by decide +kernel)
theorem wd_518 : Cond.instanceMethod ({ cls := "RolePartsModel", name := "piece", desc := "(IIIII)I" } : Jvm.MethodName) ∈ ax_ws := ax_wt 518 (by decide +kernel) (by decide +kernel)
theorem wp_27 : Cond.selects "RolePartsModel" ⟨"RolePartsModel", "piece", "(IIIII)I"⟩ ⟨"RolePartsModel", "piece", "(IIIII)I"⟩ ∈ ax_ws := ax_wp 27 (by decide +kernel) (by decide +kernel)
theorem wd_520 : Cond.methodLink "RolePartsModel" (72 : Nat) ({ cls := "RolePartsModel", name := "ended", desc := "(I)I" } : Jvm.MethodName) ∈ ax_ws := ax_wt 520 (by decide +kernel) (by decide +kernel)
theorem wd_522 : Cond.instanceMethod ({ cls := "RolePartsModel", name := "ended", desc := "(I)I" } : Jvm.MethodName) ∈ ax_ws := ax_wt 522 (by decide +kernel) (by decide +kernel)
theorem wp_28 : Cond.selects "RolePartsModel" ⟨"RolePartsModel", "ended", "(I)I"⟩ ⟨"RolePartsModel", "ended", "(I)I"⟩ ∈ ax_ws := ax_wp 28 (by decide +kernel) (by decide +kernel)
theorem wd_524 : Cond.methodLink "RolePartsModel" (75 : Nat) ({ cls := "RolePartsModel", name := "isLabel", desc := "(I)Z" } : Jvm.MethodName) ∈ ax_ws := ax_wt 524 (by decide +kernel) (by decide +kernel)
theorem wd_525 : Cond.static ({ cls := "RolePartsModel", name := "isLabel", desc := "(I)Z" } : Jvm.MethodName) ∈ ax_ws := ax_wt 525 (by decide +kernel) (by decide +kernel)
theorem wd_531 : Cond.methodLink "RolePartsModel" (78 : Nat) ({ cls := "RolePartsModel", name := "bound", desc := "(I)Z" } : Jvm.MethodName) ∈ ax_ws := ax_wt 531 (by decide +kernel) (by decide +kernel)
theorem wd_533 : Cond.instanceMethod ({ cls := "RolePartsModel", name := "bound", desc := "(I)Z" } : Jvm.MethodName) ∈ ax_ws := ax_wt 533 (by decide +kernel) (by decide +kernel)
theorem wp_30 : Cond.selects "RolePartsModel" ⟨"RolePartsModel", "bound", "(I)Z"⟩ ⟨"RolePartsModel", "bound", "(I)Z"⟩ ∈ ax_ws := ax_wp 30 (by decide +kernel) (by decide +kernel)
theorem wd_535 : Cond.methodLink "RolePartsModel" (81 : Nat) ({ cls := "RolePartsModel", name := "single", desc := "(I)Z" } : Jvm.MethodName) ∈ ax_ws := ax_wt 535 (by decide +kernel) (by decide +kernel)
theorem wd_537 : Cond.instanceMethod ({ cls := "RolePartsModel", name := "single", desc := "(I)Z" } : Jvm.MethodName) ∈ ax_ws := ax_wt 537 (by decide +kernel) (by decide +kernel)
theorem wp_31 : Cond.selects "RolePartsModel" ⟨"RolePartsModel", "single", "(I)Z"⟩ ⟨"RolePartsModel", "single", "(I)Z"⟩ ∈ ax_ws := ax_wp 31 (by decide +kernel) (by decide +kernel)
theorem wd_539 : Cond.methodLink "RolePartsModel" (84 : Nat) ({ cls := "RolePartsModel", name := "apart", desc := "(I)Z" } : Jvm.MethodName) ∈ ax_ws := ax_wt 539 (by decide +kernel) (by decide +kernel)
theorem wd_541 : Cond.instanceMethod ({ cls := "RolePartsModel", name := "apart", desc := "(I)Z" } : Jvm.MethodName) ∈ ax_ws := ax_wt 541 (by decide +kernel) (by decide +kernel)
theorem wp_32 : Cond.selects "RolePartsModel" ⟨"RolePartsModel", "apart", "(I)Z"⟩ ⟨"RolePartsModel", "apart", "(I)Z"⟩ ∈ ax_ws := ax_wp 32 (by decide +kernel) (by decide +kernel)
theorem wd_551 : Cond.methodLink "RolePartsModel" (87 : Nat) ({ cls := "RolePartsModel", name := "put", desc := "(II)V" } : Jvm.MethodName) ∈ ax_ws := ax_wt 551 (by decide +kernel) (by decide +kernel)
theorem wd_553 : Cond.instanceMethod ({ cls := "RolePartsModel", name := "put", desc := "(II)V" } : Jvm.MethodName) ∈ ax_ws := ax_wt 553 (by decide +kernel) (by decide +kernel)
theorem wp_35 : Cond.selects "RolePartsModel" ⟨"RolePartsModel", "put", "(II)V"⟩ ⟨"RolePartsModel", "put", "(II)V"⟩ ∈ ax_ws := ax_wp 35 (by decide +kernel) (by decide +kernel)
theorem wd_555 : Cond.methodLink "RolePartsModel" (91 : Nat) ({ cls := "RolePartsModel", name := "copy", desc := "(II)V" } : Jvm.MethodName) ∈ ax_ws := ax_wt 555 (by decide +kernel) (by decide +kernel)
theorem wd_557 : Cond.instanceMethod ({ cls := "RolePartsModel", name := "copy", desc := "(II)V" } : Jvm.MethodName) ∈ ax_ws := ax_wt 557 (by decide +kernel) (by decide +kernel)
theorem wp_36 : Cond.selects "RolePartsModel" ⟨"RolePartsModel", "copy", "(II)V"⟩ ⟨"RolePartsModel", "copy", "(II)V"⟩ ∈ ax_ws := ax_wp 36 (by decide +kernel) (by decide +kernel)
theorem wd_563 : Cond.methodLink "RolePartsModel" (94 : Nat) ({ cls := "RolePartsModel", name := "same", desc := "(II)Z" } : Jvm.MethodName) ∈ ax_ws := ax_wt 563 (by decide +kernel) (by decide +kernel)
theorem wd_565 : Cond.instanceMethod ({ cls := "RolePartsModel", name := "same", desc := "(II)Z" } : Jvm.MethodName) ∈ ax_ws := ax_wt 565 (by decide +kernel) (by decide +kernel)
theorem wp_38 : Cond.selects "RolePartsModel" ⟨"RolePartsModel", "same", "(II)Z"⟩ ⟨"RolePartsModel", "same", "(II)Z"⟩ ∈ ax_ws := ax_wp 38 (by decide +kernel) (by decide +kernel)
theorem wd_547 : Cond.methodLink "RolePartsModel" (98 : Nat) ({ cls := "RolePartsModel", name := "loopPart", desc := "(II)V" } : Jvm.MethodName) ∈ ax_ws := ax_wt 547 (by decide +kernel) (by decide +kernel)
theorem wd_549 : Cond.instanceMethod ({ cls := "RolePartsModel", name := "loopPart", desc := "(II)V" } : Jvm.MethodName) ∈ ax_ws := ax_wt 549 (by decide +kernel) (by decide +kernel)
theorem wp_34 : Cond.selects "RolePartsModel" ⟨"RolePartsModel", "loopPart", "(II)V"⟩ ⟨"RolePartsModel", "loopPart", "(II)V"⟩ ∈ ax_ws := ax_wp 34 (by decide +kernel) (by decide +kernel)
theorem wd_559 : Cond.methodLink "RolePartsModel" (101 : Nat) ({ cls := "RolePartsModel", name := "messagePart", desc := "(II)V" } : Jvm.MethodName) ∈ ax_ws := ax_wt 559 (by decide +kernel) (by decide +kernel)
theorem wd_561 : Cond.instanceMethod ({ cls := "RolePartsModel", name := "messagePart", desc := "(II)V" } : Jvm.MethodName) ∈ ax_ws := ax_wt 561 (by decide +kernel) (by decide +kernel)
theorem wp_37 : Cond.selects "RolePartsModel" ⟨"RolePartsModel", "messagePart", "(II)V"⟩ ⟨"RolePartsModel", "messagePart", "(II)V"⟩ ∈ ax_ws := ax_wp 37 (by decide +kernel) (by decide +kernel)
theorem wd_503 : Cond.methodLink "RolePartsModel" (104 : Nat) ({ cls := "RolePartsModel", name := "read", desc := "()I" } : Jvm.MethodName) ∈ ax_ws := ax_wt 503 (by decide +kernel) (by decide +kernel)
theorem wd_505 : Cond.instanceMethod ({ cls := "RolePartsModel", name := "read", desc := "()I" } : Jvm.MethodName) ∈ ax_ws := ax_wt 505 (by decide +kernel) (by decide +kernel)
theorem wp_26 : Cond.selects "RolePartsModel" ⟨"RolePartsModel", "read", "()I"⟩ ⟨"RolePartsModel", "read", "()I"⟩ ∈ ax_ws := ax_wp 26 (by decide +kernel) (by decide +kernel)
theorem wd_527 : Cond.methodLink "RolePartsModel" (108 : Nat) ({ cls := "RolePartsModel", name := "sound", desc := "()Z" } : Jvm.MethodName) ∈ ax_ws := ax_wt 527 (by decide +kernel) (by decide +kernel)
theorem wd_529 : Cond.instanceMethod ({ cls := "RolePartsModel", name := "sound", desc := "()Z" } : Jvm.MethodName) ∈ ax_ws := ax_wt 529 (by decide +kernel) (by decide +kernel)
theorem wp_29 : Cond.selects "RolePartsModel" ⟨"RolePartsModel", "sound", "()Z"⟩ ⟨"RolePartsModel", "sound", "()Z"⟩ ∈ ax_ws := ax_wp 29 (by decide +kernel) (by decide +kernel)
theorem wd_543 : Cond.methodLink "RolePartsModel" (112 : Nat) ({ cls := "RolePartsModel", name := "project", desc := "()V" } : Jvm.MethodName) ∈ ax_ws := ax_wt 543 (by decide +kernel) (by decide +kernel)
theorem wd_545 : Cond.instanceMethod ({ cls := "RolePartsModel", name := "project", desc := "()V" } : Jvm.MethodName) ∈ ax_ws := ax_wt 545 (by decide +kernel) (by decide +kernel)
theorem wp_33 : Cond.selects "RolePartsModel" ⟨"RolePartsModel", "project", "()V"⟩ ⟨"RolePartsModel", "project", "()V"⟩ ∈ ax_ws := ax_wp 33 (by decide +kernel) (by decide +kernel)
theorem wd_448 : Cond.fieldLink "RolePartsModel" (115 : Nat) "RolePartsModel" "messages" "I" ∈ ax_ws := ax_wt 448 (by decide +kernel) (by decide +kernel)
theorem wd_447 : Cond.fieldLink "RolePartsModel" (118 : Nat) "RolePartsModel" "there" "Z" ∈ ax_ws := ax_wt 447 (by decide +kernel) (by decide +kernel)
theorem wd_451 : Cond.fieldLink "RolePartsModel" (122 : Nat) "RolePartsModel" "runs" "Z" ∈ ax_ws := ax_wt 451 (by decide +kernel) (by decide +kernel)
theorem wd_575 : Cond.methodLink "RolePartsModel" (125 : Nat) ({ cls := "RolePartsModel", name := "isNumber", desc := "(I)Z" } : Jvm.MethodName) ∈ ax_ws := ax_wt 575 (by decide +kernel) (by decide +kernel)
theorem wd_576 : Cond.static ({ cls := "RolePartsModel", name := "isNumber", desc := "(I)Z" } : Jvm.MethodName) ∈ ax_ws := ax_wt 576 (by decide +kernel) (by decide +kernel)
theorem wd_590 : Cond.methodLink "RolePartsModel" (128 : Nat) ({ cls := "RolePartsModel", name := "sign", desc := "(II)I" } : Jvm.MethodName) ∈ ax_ws := ax_wt 590 (by decide +kernel) (by decide +kernel)
theorem wd_592 : Cond.instanceMethod ({ cls := "RolePartsModel", name := "sign", desc := "(II)I" } : Jvm.MethodName) ∈ ax_ws := ax_wt 592 (by decide +kernel) (by decide +kernel)
theorem wp_40 : Cond.selects "RolePartsModel" ⟨"RolePartsModel", "sign", "(II)I"⟩ ⟨"RolePartsModel", "sign", "(II)I"⟩ ∈ ax_ws := ax_wp 40 (by decide +kernel) (by decide +kernel)
theorem wd_594 : Cond.methodLink "RolePartsModel" (132 : Nat) ({ cls := "RolePartsModel", name := "loopOf", desc := "(III)I" } : Jvm.MethodName) ∈ ax_ws := ax_wt 594 (by decide +kernel) (by decide +kernel)
theorem wd_596 : Cond.instanceMethod ({ cls := "RolePartsModel", name := "loopOf", desc := "(III)I" } : Jvm.MethodName) ∈ ax_ws := ax_wt 596 (by decide +kernel) (by decide +kernel)
theorem wp_41 : Cond.selects "RolePartsModel" ⟨"RolePartsModel", "loopOf", "(III)I"⟩ ⟨"RolePartsModel", "loopOf", "(III)I"⟩ ∈ ax_ws := ax_wp 41 (by decide +kernel) (by decide +kernel)
theorem wd_455 : Cond.fieldLink "RolePartsModel" (136 : Nat) "RolePartsModel" "moved" "I" ∈ ax_ws := ax_wt 455 (by decide +kernel) (by decide +kernel)
theorem wd_586 : Cond.methodLink "RolePartsModel" (139 : Nat) ({ cls := "RolePartsModel", name := "settle", desc := "(II)V" } : Jvm.MethodName) ∈ ax_ws := ax_wt 586 (by decide +kernel) (by decide +kernel)
theorem wd_588 : Cond.instanceMethod ({ cls := "RolePartsModel", name := "settle", desc := "(II)V" } : Jvm.MethodName) ∈ ax_ws := ax_wt 588 (by decide +kernel) (by decide +kernel)
theorem wp_39 : Cond.selects "RolePartsModel" ⟨"RolePartsModel", "settle", "(II)V"⟩ ⟨"RolePartsModel", "settle", "(II)V"⟩ ∈ ax_ws := ax_wp 39 (by decide +kernel) (by decide +kernel)
theorem wd_606 : Cond.methodLink "RolePartsModel" (142 : Nat) ({ cls := "RolePartsModel", name := "act", desc := "(I)I" } : Jvm.MethodName) ∈ ax_ws := ax_wt 606 (by decide +kernel) (by decide +kernel)
theorem wd_599 : Cond.instanceMethod ({ cls := "RolePartsModel", name := "act", desc := "(I)I" } : Jvm.MethodName) ∈ ax_ws := ax_wt 599 (by decide +kernel) (by decide +kernel)
theorem wd_600 : Cond.selects "RolePartsModel" ({ cls := "RolePartsModel", name := "act", desc := "(I)I" } : Jvm.MethodName) ({ cls := "RolePartsModel", name := "act", desc := "(I)I" } : Jvm.MethodName) ∈ ax_ws := ax_wt 600 (by decide +kernel) (by decide +kernel)
theorem wd_611 : Cond.methodLink "RolePartsModel" (145 : Nat) ({ cls := "RolePartsModel", name := "branchOf", desc := "(II)I" } : Jvm.MethodName) ∈ ax_ws := ax_wt 611 (by decide +kernel) (by decide +kernel)
theorem wd_613 : Cond.instanceMethod ({ cls := "RolePartsModel", name := "branchOf", desc := "(II)I" } : Jvm.MethodName) ∈ ax_ws := ax_wt 613 (by decide +kernel) (by decide +kernel)
theorem wp_42 : Cond.selects "RolePartsModel" ⟨"RolePartsModel", "branchOf", "(II)I"⟩ ⟨"RolePartsModel", "branchOf", "(II)I"⟩ ∈ ax_ws := ax_wp 42 (by decide +kernel) (by decide +kernel)
theorem wd_619 : Cond.methodLink "RolePartsModel" (148 : Nat) ({ cls := "RolePartsModel", name := "offers", desc := "(II)Z" } : Jvm.MethodName) ∈ ax_ws := ax_wt 619 (by decide +kernel) (by decide +kernel)
theorem wd_608 : Cond.instanceMethod ({ cls := "RolePartsModel", name := "offers", desc := "(II)Z" } : Jvm.MethodName) ∈ ax_ws := ax_wt 608 (by decide +kernel) (by decide +kernel)
theorem wd_609 : Cond.selects "RolePartsModel" ({ cls := "RolePartsModel", name := "offers", desc := "(II)Z" } : Jvm.MethodName) ({ cls := "RolePartsModel", name := "offers", desc := "(II)Z" } : Jvm.MethodName) ∈ ax_ws := ax_wt 609 (by decide +kernel) (by decide +kernel)
theorem wd_620 : Cond.methodLink "RolePartsModel" (151 : Nat) ({ cls := "RolePartsModel", name := "partner", desc := "(I)I" } : Jvm.MethodName) ∈ ax_ws := ax_wt 620 (by decide +kernel) (by decide +kernel)
theorem wd_603 : Cond.instanceMethod ({ cls := "RolePartsModel", name := "partner", desc := "(I)I" } : Jvm.MethodName) ∈ ax_ws := ax_wt 603 (by decide +kernel) (by decide +kernel)
theorem wd_604 : Cond.selects "RolePartsModel" ({ cls := "RolePartsModel", name := "partner", desc := "(I)I" } : Jvm.MethodName) ({ cls := "RolePartsModel", name := "partner", desc := "(I)I" } : Jvm.MethodName) ∈ ax_ws := ax_wt 604 (by decide +kernel) (by decide +kernel)
theorem wd_633 : Cond.methodLink "RolePartsModel" (154 : Nat) ({ cls := "RolePartsModel", name := "onTheWay", desc := "(II)I" } : Jvm.MethodName) ∈ ax_ws := ax_wt 633 (by decide +kernel) (by decide +kernel)
theorem wd_626 : Cond.instanceMethod ({ cls := "RolePartsModel", name := "onTheWay", desc := "(II)I" } : Jvm.MethodName) ∈ ax_ws := ax_wt 626 (by decide +kernel) (by decide +kernel)
theorem wd_627 : Cond.selects "RolePartsModel" ({ cls := "RolePartsModel", name := "onTheWay", desc := "(II)I" } : Jvm.MethodName) ({ cls := "RolePartsModel", name := "onTheWay", desc := "(II)I" } : Jvm.MethodName) ∈ ax_ws := ax_wt 627 (by decide +kernel) (by decide +kernel)
theorem wd_646 : Cond.methodLink "RolePartsModel" (157 : Nat) ({ cls := "RolePartsModel", name := "labelAt", desc := "(III)I" } : Jvm.MethodName) ∈ ax_ws := ax_wt 646 (by decide +kernel) (by decide +kernel)
theorem wd_630 : Cond.instanceMethod ({ cls := "RolePartsModel", name := "labelAt", desc := "(III)I" } : Jvm.MethodName) ∈ ax_ws := ax_wt 630 (by decide +kernel) (by decide +kernel)
theorem wd_631 : Cond.selects "RolePartsModel" ({ cls := "RolePartsModel", name := "labelAt", desc := "(III)I" } : Jvm.MethodName) ({ cls := "RolePartsModel", name := "labelAt", desc := "(III)I" } : Jvm.MethodName) ∈ ax_ws := ax_wt 631 (by decide +kernel) (by decide +kernel)
theorem wd_642 : Cond.methodLink "RolePartsModel" (160 : Nat) ({ cls := "RolePartsModel", name := "canGo", desc := "(I)Z" } : Jvm.MethodName) ∈ ax_ws := ax_wt 642 (by decide +kernel) (by decide +kernel)
theorem wd_644 : Cond.instanceMethod ({ cls := "RolePartsModel", name := "canGo", desc := "(I)Z" } : Jvm.MethodName) ∈ ax_ws := ax_wt 644 (by decide +kernel) (by decide +kernel)
theorem wp_43 : Cond.selects "RolePartsModel" ⟨"RolePartsModel", "canGo", "(I)Z"⟩ ⟨"RolePartsModel", "canGo", "(I)Z"⟩ ∈ ax_ws := ax_wp 43 (by decide +kernel) (by decide +kernel)
theorem wd_9 : Cond.classLink "RolePartsLaw" (7 : Nat) "RoleParts" ∈ ax_ws := ax_wt 9 (by decide +kernel) (by decide +kernel)
theorem wd_10 : Cond.instantiable "RoleParts" (9 : Nat) ∈ ax_ws := ax_wt 10 (by decide +kernel) (by decide +kernel)
theorem wd_11 : Cond.methodLink "RolePartsLaw" (9 : Nat) ({ cls := "RoleParts", name := "<init>", desc := "()V" } : Jvm.MethodName) ∈ ax_ws := ax_wt 11 (by decide +kernel) (by decide +kernel)
theorem wd_12 : Cond.instanceMethod ({ cls := "RoleParts", name := "<init>", desc := "()V" } : Jvm.MethodName) ∈ ax_ws := ax_wt 12 (by decide +kernel) (by decide +kernel)
theorem wd_431 : Cond.classLink "RolePartsLaw" (10 : Nat) "RolePartsModel" ∈ ax_ws := ax_wt 431 (by decide +kernel) (by decide +kernel)
theorem wd_432 : Cond.instantiable "RolePartsModel" (19 : Nat) ∈ ax_ws := ax_wt 432 (by decide +kernel) (by decide +kernel)
theorem wd_433 : Cond.methodLink "RolePartsLaw" (12 : Nat) ({ cls := "RolePartsModel", name := "<init>", desc := "()V" } : Jvm.MethodName) ∈ ax_ws := ax_wt 433 (by decide +kernel) (by decide +kernel)
theorem wd_434 : Cond.instanceMethod ({ cls := "RolePartsModel", name := "<init>", desc := "()V" } : Jvm.MethodName) ∈ ax_ws := ax_wt 434 (by decide +kernel) (by decide +kernel)
theorem wd_145 : Cond.methodLink "RolePartsLaw" (13 : Nat) ({ cls := "RoleParts", name := "type", desc := "(C)Z" } : Jvm.MethodName) ∈ ax_ws := ax_wt 145 (by decide +kernel) (by decide +kernel)
theorem wd_146 : Cond.instanceMethod ({ cls := "RoleParts", name := "type", desc := "(C)Z" } : Jvm.MethodName) ∈ ax_ws := ax_wt 146 (by decide +kernel) (by decide +kernel)
theorem wd_147 : Cond.selects "RoleParts" ({ cls := "RoleParts", name := "type", desc := "(C)Z" } : Jvm.MethodName) ({ cls := "RoleParts", name := "type", desc := "(C)Z" } : Jvm.MethodName) ∈ ax_ws := ax_wt 147 (by decide +kernel) (by decide +kernel)
theorem wd_495 : Cond.methodLink "RolePartsLaw" (17 : Nat) ({ cls := "RolePartsModel", name := "type", desc := "(C)Z" } : Jvm.MethodName) ∈ ax_ws := ax_wt 495 (by decide +kernel) (by decide +kernel)
theorem wd_496 : Cond.instanceMethod ({ cls := "RolePartsModel", name := "type", desc := "(C)Z" } : Jvm.MethodName) ∈ ax_ws := ax_wt 496 (by decide +kernel) (by decide +kernel)
theorem wd_497 : Cond.selects "RolePartsModel" ({ cls := "RolePartsModel", name := "type", desc := "(C)Z" } : Jvm.MethodName) ({ cls := "RolePartsModel", name := "type", desc := "(C)Z" } : Jvm.MethodName) ∈ ax_ws := ax_wt 497 (by decide +kernel) (by decide +kernel)
theorem wd_157 : Cond.methodLink "RolePartsLaw" (18 : Nat) ({ cls := "RoleParts", name := "define", desc := "()I" } : Jvm.MethodName) ∈ ax_ws := ax_wt 157 (by decide +kernel) (by decide +kernel)
theorem wd_158 : Cond.instanceMethod ({ cls := "RoleParts", name := "define", desc := "()I" } : Jvm.MethodName) ∈ ax_ws := ax_wt 158 (by decide +kernel) (by decide +kernel)
theorem wd_159 : Cond.selects "RoleParts" ({ cls := "RoleParts", name := "define", desc := "()I" } : Jvm.MethodName) ({ cls := "RoleParts", name := "define", desc := "()I" } : Jvm.MethodName) ∈ ax_ws := ax_wt 159 (by decide +kernel) (by decide +kernel)
theorem wd_499 : Cond.methodLink "RolePartsLaw" (22 : Nat) ({ cls := "RolePartsModel", name := "define", desc := "()I" } : Jvm.MethodName) ∈ ax_ws := ax_wt 499 (by decide +kernel) (by decide +kernel)
theorem wd_500 : Cond.instanceMethod ({ cls := "RolePartsModel", name := "define", desc := "()I" } : Jvm.MethodName) ∈ ax_ws := ax_wt 500 (by decide +kernel) (by decide +kernel)
theorem wd_501 : Cond.selects "RolePartsModel" ({ cls := "RolePartsModel", name := "define", desc := "()I" } : Jvm.MethodName) ({ cls := "RolePartsModel", name := "define", desc := "()I" } : Jvm.MethodName) ∈ ax_ws := ax_wt 501 (by decide +kernel) (by decide +kernel)
theorem wd_288 : Cond.methodLink "RolePartsLaw" (23 : Nat) ({ cls := "RoleParts", name := "messages", desc := "()I" } : Jvm.MethodName) ∈ ax_ws := ax_wt 288 (by decide +kernel) (by decide +kernel)
theorem wd_289 : Cond.instanceMethod ({ cls := "RoleParts", name := "messages", desc := "()I" } : Jvm.MethodName) ∈ ax_ws := ax_wt 289 (by decide +kernel) (by decide +kernel)
theorem wd_290 : Cond.selects "RoleParts" ({ cls := "RoleParts", name := "messages", desc := "()I" } : Jvm.MethodName) ({ cls := "RoleParts", name := "messages", desc := "()I" } : Jvm.MethodName) ∈ ax_ws := ax_wt 290 (by decide +kernel) (by decide +kernel)
theorem wd_567 : Cond.methodLink "RolePartsLaw" (26 : Nat) ({ cls := "RolePartsModel", name := "messages", desc := "()I" } : Jvm.MethodName) ∈ ax_ws := ax_wt 567 (by decide +kernel) (by decide +kernel)
theorem wd_568 : Cond.instanceMethod ({ cls := "RolePartsModel", name := "messages", desc := "()I" } : Jvm.MethodName) ∈ ax_ws := ax_wt 568 (by decide +kernel) (by decide +kernel)
theorem wd_569 : Cond.selects "RolePartsModel" ({ cls := "RolePartsModel", name := "messages", desc := "()I" } : Jvm.MethodName) ({ cls := "RolePartsModel", name := "messages", desc := "()I" } : Jvm.MethodName) ∈ ax_ws := ax_wt 569 (by decide +kernel) (by decide +kernel)
theorem wd_292 : Cond.methodLink "RolePartsLaw" (27 : Nat) ({ cls := "RoleParts", name := "length", desc := "(I)I" } : Jvm.MethodName) ∈ ax_ws := ax_wt 292 (by decide +kernel) (by decide +kernel)
theorem wd_293 : Cond.instanceMethod ({ cls := "RoleParts", name := "length", desc := "(I)I" } : Jvm.MethodName) ∈ ax_ws := ax_wt 293 (by decide +kernel) (by decide +kernel)
theorem wd_294 : Cond.selects "RoleParts" ({ cls := "RoleParts", name := "length", desc := "(I)I" } : Jvm.MethodName) ({ cls := "RoleParts", name := "length", desc := "(I)I" } : Jvm.MethodName) ∈ ax_ws := ax_wt 294 (by decide +kernel) (by decide +kernel)
theorem wd_571 : Cond.methodLink "RolePartsLaw" (31 : Nat) ({ cls := "RolePartsModel", name := "length", desc := "(I)I" } : Jvm.MethodName) ∈ ax_ws := ax_wt 571 (by decide +kernel) (by decide +kernel)
theorem wd_572 : Cond.instanceMethod ({ cls := "RolePartsModel", name := "length", desc := "(I)I" } : Jvm.MethodName) ∈ ax_ws := ax_wt 572 (by decide +kernel) (by decide +kernel)
theorem wd_573 : Cond.selects "RolePartsModel" ({ cls := "RolePartsModel", name := "length", desc := "(I)I" } : Jvm.MethodName) ({ cls := "RolePartsModel", name := "length", desc := "(I)I" } : Jvm.MethodName) ∈ ax_ws := ax_wt 573 (by decide +kernel) (by decide +kernel)
theorem wd_304 : Cond.methodLink "RolePartsLaw" (32 : Nat) ({ cls := "RoleParts", name := "charAt", desc := "(II)I" } : Jvm.MethodName) ∈ ax_ws := ax_wt 304 (by decide +kernel) (by decide +kernel)
theorem wd_305 : Cond.instanceMethod ({ cls := "RoleParts", name := "charAt", desc := "(II)I" } : Jvm.MethodName) ∈ ax_ws := ax_wt 305 (by decide +kernel) (by decide +kernel)
theorem wd_306 : Cond.selects "RoleParts" ({ cls := "RoleParts", name := "charAt", desc := "(II)I" } : Jvm.MethodName) ({ cls := "RoleParts", name := "charAt", desc := "(II)I" } : Jvm.MethodName) ∈ ax_ws := ax_wt 306 (by decide +kernel) (by decide +kernel)
theorem wd_578 : Cond.methodLink "RolePartsLaw" (36 : Nat) ({ cls := "RolePartsModel", name := "charAt", desc := "(II)I" } : Jvm.MethodName) ∈ ax_ws := ax_wt 578 (by decide +kernel) (by decide +kernel)
theorem wd_579 : Cond.instanceMethod ({ cls := "RolePartsModel", name := "charAt", desc := "(II)I" } : Jvm.MethodName) ∈ ax_ws := ax_wt 579 (by decide +kernel) (by decide +kernel)
theorem wd_580 : Cond.selects "RolePartsModel" ({ cls := "RolePartsModel", name := "charAt", desc := "(II)I" } : Jvm.MethodName) ({ cls := "RolePartsModel", name := "charAt", desc := "(II)I" } : Jvm.MethodName) ∈ ax_ws := ax_wt 580 (by decide +kernel) (by decide +kernel)
theorem wd_309 : Cond.methodLink "RolePartsLaw" (37 : Nat) ({ cls := "RoleParts", name := "begin", desc := "()Z" } : Jvm.MethodName) ∈ ax_ws := ax_wt 309 (by decide +kernel) (by decide +kernel)
theorem wd_310 : Cond.instanceMethod ({ cls := "RoleParts", name := "begin", desc := "()Z" } : Jvm.MethodName) ∈ ax_ws := ax_wt 310 (by decide +kernel) (by decide +kernel)
theorem wd_311 : Cond.selects "RoleParts" ({ cls := "RoleParts", name := "begin", desc := "()Z" } : Jvm.MethodName) ({ cls := "RoleParts", name := "begin", desc := "()Z" } : Jvm.MethodName) ∈ ax_ws := ax_wt 311 (by decide +kernel) (by decide +kernel)
theorem wd_582 : Cond.methodLink "RolePartsLaw" (41 : Nat) ({ cls := "RolePartsModel", name := "begin", desc := "()Z" } : Jvm.MethodName) ∈ ax_ws := ax_wt 582 (by decide +kernel) (by decide +kernel)
theorem wd_583 : Cond.instanceMethod ({ cls := "RolePartsModel", name := "begin", desc := "()Z" } : Jvm.MethodName) ∈ ax_ws := ax_wt 583 (by decide +kernel) (by decide +kernel)
theorem wd_584 : Cond.selects "RolePartsModel" ({ cls := "RolePartsModel", name := "begin", desc := "()Z" } : Jvm.MethodName) ({ cls := "RolePartsModel", name := "begin", desc := "()Z" } : Jvm.MethodName) ∈ ax_ws := ax_wt 584 (by decide +kernel) (by decide +kernel)
theorem wd_331 : Cond.methodLink "RolePartsLaw" (42 : Nat) ({ cls := "RoleParts", name := "act", desc := "(I)I" } : Jvm.MethodName) ∈ ax_ws := ax_wt 331 (by decide +kernel) (by decide +kernel)
theorem wd_332 : Cond.instanceMethod ({ cls := "RoleParts", name := "act", desc := "(I)I" } : Jvm.MethodName) ∈ ax_ws := ax_wt 332 (by decide +kernel) (by decide +kernel)
theorem wd_333 : Cond.selects "RoleParts" ({ cls := "RoleParts", name := "act", desc := "(I)I" } : Jvm.MethodName) ({ cls := "RoleParts", name := "act", desc := "(I)I" } : Jvm.MethodName) ∈ ax_ws := ax_wt 333 (by decide +kernel) (by decide +kernel)
theorem wd_598 : Cond.methodLink "RolePartsLaw" (45 : Nat) ({ cls := "RolePartsModel", name := "act", desc := "(I)I" } : Jvm.MethodName) ∈ ax_ws := ax_wt 598 (by decide +kernel) (by decide +kernel)
theorem wd_344 : Cond.methodLink "RolePartsLaw" (46 : Nat) ({ cls := "RoleParts", name := "partner", desc := "(I)I" } : Jvm.MethodName) ∈ ax_ws := ax_wt 344 (by decide +kernel) (by decide +kernel)
theorem wd_345 : Cond.instanceMethod ({ cls := "RoleParts", name := "partner", desc := "(I)I" } : Jvm.MethodName) ∈ ax_ws := ax_wt 345 (by decide +kernel) (by decide +kernel)
theorem wd_346 : Cond.selects "RoleParts" ({ cls := "RoleParts", name := "partner", desc := "(I)I" } : Jvm.MethodName) ({ cls := "RoleParts", name := "partner", desc := "(I)I" } : Jvm.MethodName) ∈ ax_ws := ax_wt 346 (by decide +kernel) (by decide +kernel)
theorem wd_602 : Cond.methodLink "RolePartsLaw" (49 : Nat) ({ cls := "RolePartsModel", name := "partner", desc := "(I)I" } : Jvm.MethodName) ∈ ax_ws := ax_wt 602 (by decide +kernel) (by decide +kernel)
theorem wd_352 : Cond.methodLink "RolePartsLaw" (50 : Nat) ({ cls := "RoleParts", name := "offers", desc := "(II)Z" } : Jvm.MethodName) ∈ ax_ws := ax_wt 352 (by decide +kernel) (by decide +kernel)
theorem wd_353 : Cond.instanceMethod ({ cls := "RoleParts", name := "offers", desc := "(II)Z" } : Jvm.MethodName) ∈ ax_ws := ax_wt 353 (by decide +kernel) (by decide +kernel)
theorem wd_354 : Cond.selects "RoleParts" ({ cls := "RoleParts", name := "offers", desc := "(II)Z" } : Jvm.MethodName) ({ cls := "RoleParts", name := "offers", desc := "(II)Z" } : Jvm.MethodName) ∈ ax_ws := ax_wt 354 (by decide +kernel) (by decide +kernel)
theorem wd_607 : Cond.methodLink "RolePartsLaw" (54 : Nat) ({ cls := "RolePartsModel", name := "offers", desc := "(II)Z" } : Jvm.MethodName) ∈ ax_ws := ax_wt 607 (by decide +kernel) (by decide +kernel)
theorem wd_362 : Cond.methodLink "RolePartsLaw" (55 : Nat) ({ cls := "RoleParts", name := "send", desc := "(II)Z" } : Jvm.MethodName) ∈ ax_ws := ax_wt 362 (by decide +kernel) (by decide +kernel)
theorem wd_363 : Cond.instanceMethod ({ cls := "RoleParts", name := "send", desc := "(II)Z" } : Jvm.MethodName) ∈ ax_ws := ax_wt 363 (by decide +kernel) (by decide +kernel)
theorem wd_364 : Cond.selects "RoleParts" ({ cls := "RoleParts", name := "send", desc := "(II)Z" } : Jvm.MethodName) ({ cls := "RoleParts", name := "send", desc := "(II)Z" } : Jvm.MethodName) ∈ ax_ws := ax_wt 364 (by decide +kernel) (by decide +kernel)
theorem wd_615 : Cond.methodLink "RolePartsLaw" (58 : Nat) ({ cls := "RolePartsModel", name := "send", desc := "(II)Z" } : Jvm.MethodName) ∈ ax_ws := ax_wt 615 (by decide +kernel) (by decide +kernel)
theorem wd_616 : Cond.instanceMethod ({ cls := "RolePartsModel", name := "send", desc := "(II)Z" } : Jvm.MethodName) ∈ ax_ws := ax_wt 616 (by decide +kernel) (by decide +kernel)
theorem wd_617 : Cond.selects "RolePartsModel" ({ cls := "RolePartsModel", name := "send", desc := "(II)Z" } : Jvm.MethodName) ({ cls := "RolePartsModel", name := "send", desc := "(II)Z" } : Jvm.MethodName) ∈ ax_ws := ax_wt 617 (by decide +kernel) (by decide +kernel)
theorem wd_383 : Cond.methodLink "RolePartsLaw" (59 : Nat) ({ cls := "RoleParts", name := "receive", desc := "(I)I" } : Jvm.MethodName) ∈ ax_ws := ax_wt 383 (by decide +kernel) (by decide +kernel)
theorem wd_384 : Cond.instanceMethod ({ cls := "RoleParts", name := "receive", desc := "(I)I" } : Jvm.MethodName) ∈ ax_ws := ax_wt 384 (by decide +kernel) (by decide +kernel)
theorem wd_385 : Cond.selects "RoleParts" ({ cls := "RoleParts", name := "receive", desc := "(I)I" } : Jvm.MethodName) ({ cls := "RoleParts", name := "receive", desc := "(I)I" } : Jvm.MethodName) ∈ ax_ws := ax_wt 385 (by decide +kernel) (by decide +kernel)
theorem wd_621 : Cond.methodLink "RolePartsLaw" (62 : Nat) ({ cls := "RolePartsModel", name := "receive", desc := "(I)I" } : Jvm.MethodName) ∈ ax_ws := ax_wt 621 (by decide +kernel) (by decide +kernel)
theorem wd_622 : Cond.instanceMethod ({ cls := "RolePartsModel", name := "receive", desc := "(I)I" } : Jvm.MethodName) ∈ ax_ws := ax_wt 622 (by decide +kernel) (by decide +kernel)
theorem wd_623 : Cond.selects "RolePartsModel" ({ cls := "RolePartsModel", name := "receive", desc := "(I)I" } : Jvm.MethodName) ({ cls := "RolePartsModel", name := "receive", desc := "(I)I" } : Jvm.MethodName) ∈ ax_ws := ax_wt 623 (by decide +kernel) (by decide +kernel)
theorem wd_399 : Cond.methodLink "RolePartsLaw" (63 : Nat) ({ cls := "RoleParts", name := "onTheWay", desc := "(II)I" } : Jvm.MethodName) ∈ ax_ws := ax_wt 399 (by decide +kernel) (by decide +kernel)
theorem wd_400 : Cond.instanceMethod ({ cls := "RoleParts", name := "onTheWay", desc := "(II)I" } : Jvm.MethodName) ∈ ax_ws := ax_wt 400 (by decide +kernel) (by decide +kernel)
theorem wd_401 : Cond.selects "RoleParts" ({ cls := "RoleParts", name := "onTheWay", desc := "(II)I" } : Jvm.MethodName) ({ cls := "RoleParts", name := "onTheWay", desc := "(II)I" } : Jvm.MethodName) ∈ ax_ws := ax_wt 401 (by decide +kernel) (by decide +kernel)
theorem wd_625 : Cond.methodLink "RolePartsLaw" (66 : Nat) ({ cls := "RolePartsModel", name := "onTheWay", desc := "(II)I" } : Jvm.MethodName) ∈ ax_ws := ax_wt 625 (by decide +kernel) (by decide +kernel)
theorem wd_403 : Cond.methodLink "RolePartsLaw" (67 : Nat) ({ cls := "RoleParts", name := "labelAt", desc := "(III)I" } : Jvm.MethodName) ∈ ax_ws := ax_wt 403 (by decide +kernel) (by decide +kernel)
theorem wd_404 : Cond.instanceMethod ({ cls := "RoleParts", name := "labelAt", desc := "(III)I" } : Jvm.MethodName) ∈ ax_ws := ax_wt 404 (by decide +kernel) (by decide +kernel)
theorem wd_405 : Cond.selects "RoleParts" ({ cls := "RoleParts", name := "labelAt", desc := "(III)I" } : Jvm.MethodName) ({ cls := "RoleParts", name := "labelAt", desc := "(III)I" } : Jvm.MethodName) ∈ ax_ws := ax_wt 405 (by decide +kernel) (by decide +kernel)
theorem wd_629 : Cond.methodLink "RolePartsLaw" (71 : Nat) ({ cls := "RolePartsModel", name := "labelAt", desc := "(III)I" } : Jvm.MethodName) ∈ ax_ws := ax_wt 629 (by decide +kernel) (by decide +kernel)
theorem wd_407 : Cond.methodLink "RolePartsLaw" (72 : Nat) ({ cls := "RoleParts", name := "moves", desc := "()I" } : Jvm.MethodName) ∈ ax_ws := ax_wt 407 (by decide +kernel) (by decide +kernel)
theorem wd_408 : Cond.instanceMethod ({ cls := "RoleParts", name := "moves", desc := "()I" } : Jvm.MethodName) ∈ ax_ws := ax_wt 408 (by decide +kernel) (by decide +kernel)
theorem wd_409 : Cond.selects "RoleParts" ({ cls := "RoleParts", name := "moves", desc := "()I" } : Jvm.MethodName) ({ cls := "RoleParts", name := "moves", desc := "()I" } : Jvm.MethodName) ∈ ax_ws := ax_wt 409 (by decide +kernel) (by decide +kernel)
theorem wd_634 : Cond.methodLink "RolePartsLaw" (75 : Nat) ({ cls := "RolePartsModel", name := "moves", desc := "()I" } : Jvm.MethodName) ∈ ax_ws := ax_wt 634 (by decide +kernel) (by decide +kernel)
theorem wd_635 : Cond.instanceMethod ({ cls := "RolePartsModel", name := "moves", desc := "()I" } : Jvm.MethodName) ∈ ax_ws := ax_wt 635 (by decide +kernel) (by decide +kernel)
theorem wd_636 : Cond.selects "RolePartsModel" ({ cls := "RolePartsModel", name := "moves", desc := "()I" } : Jvm.MethodName) ({ cls := "RolePartsModel", name := "moves", desc := "()I" } : Jvm.MethodName) ∈ ax_ws := ax_wt 636 (by decide +kernel) (by decide +kernel)
theorem wd_411 : Cond.methodLink "RolePartsLaw" (76 : Nat) ({ cls := "RoleParts", name := "ready", desc := "()I" } : Jvm.MethodName) ∈ ax_ws := ax_wt 411 (by decide +kernel) (by decide +kernel)
theorem wd_412 : Cond.instanceMethod ({ cls := "RoleParts", name := "ready", desc := "()I" } : Jvm.MethodName) ∈ ax_ws := ax_wt 412 (by decide +kernel) (by decide +kernel)
theorem wd_413 : Cond.selects "RoleParts" ({ cls := "RoleParts", name := "ready", desc := "()I" } : Jvm.MethodName) ({ cls := "RoleParts", name := "ready", desc := "()I" } : Jvm.MethodName) ∈ ax_ws := ax_wt 413 (by decide +kernel) (by decide +kernel)
theorem wd_638 : Cond.methodLink "RolePartsLaw" (79 : Nat) ({ cls := "RolePartsModel", name := "ready", desc := "()I" } : Jvm.MethodName) ∈ ax_ws := ax_wt 638 (by decide +kernel) (by decide +kernel)
theorem wd_639 : Cond.instanceMethod ({ cls := "RolePartsModel", name := "ready", desc := "()I" } : Jvm.MethodName) ∈ ax_ws := ax_wt 639 (by decide +kernel) (by decide +kernel)
theorem wd_640 : Cond.selects "RolePartsModel" ({ cls := "RolePartsModel", name := "ready", desc := "()I" } : Jvm.MethodName) ({ cls := "RolePartsModel", name := "ready", desc := "()I" } : Jvm.MethodName) ∈ ax_ws := ax_wt 640 (by decide +kernel) (by decide +kernel)
theorem wd_419 : Cond.methodLink "RolePartsLaw" (80 : Nat) ({ cls := "RoleParts", name := "over", desc := "()Z" } : Jvm.MethodName) ∈ ax_ws := ax_wt 419 (by decide +kernel) (by decide +kernel)
theorem wd_420 : Cond.instanceMethod ({ cls := "RoleParts", name := "over", desc := "()Z" } : Jvm.MethodName) ∈ ax_ws := ax_wt 420 (by decide +kernel) (by decide +kernel)
theorem wd_421 : Cond.selects "RoleParts" ({ cls := "RoleParts", name := "over", desc := "()Z" } : Jvm.MethodName) ({ cls := "RoleParts", name := "over", desc := "()Z" } : Jvm.MethodName) ∈ ax_ws := ax_wt 421 (by decide +kernel) (by decide +kernel)
theorem wd_647 : Cond.methodLink "RolePartsLaw" (83 : Nat) ({ cls := "RolePartsModel", name := "over", desc := "()Z" } : Jvm.MethodName) ∈ ax_ws := ax_wt 647 (by decide +kernel) (by decide +kernel)
theorem wd_648 : Cond.instanceMethod ({ cls := "RolePartsModel", name := "over", desc := "()Z" } : Jvm.MethodName) ∈ ax_ws := ax_wt 648 (by decide +kernel) (by decide +kernel)
theorem wd_649 : Cond.selects "RolePartsModel" ({ cls := "RolePartsModel", name := "over", desc := "()Z" } : Jvm.MethodName) ({ cls := "RolePartsModel", name := "over", desc := "()Z" } : Jvm.MethodName) ∈ ax_ws := ax_wt 649 (by decide +kernel) (by decide +kernel)
theorem wd_35 : Cond.code ({ cls := "RoleParts$Grammar", name := "<init>", desc := "()V" } : Jvm.MethodName) prog_2_method_1_code (1 : Nat) (Option.none : Option Jvm.ClassFile.FieldType) ∈ ax_ws := ax_wt 35 (by decide +kernel) (by decide +kernel)
theorem wd_168 : Cond.code ({ cls := "RoleParts$Grammar", name := "faultOf", desc := "(LRoleParts$Text;)I" } : Jvm.MethodName) prog_2_method_2_code (3 : Nat) (Option.some Jvm.ClassFile.FieldType.int) ∈ ax_ws := ax_wt 168 (by decide +kernel) (by decide +kernel)
theorem wd_180 : Cond.code ({ cls := "RoleParts$Grammar", name := "next", desc := "(C)I" } : Jvm.MethodName) prog_2_method_3_code (2 : Nat) (Option.some Jvm.ClassFile.FieldType.int) ∈ ax_ws := ax_wt 180 (by decide +kernel) (by decide +kernel)
theorem wd_184 : Cond.code ({ cls := "RoleParts$Grammar", name := "nextInProtocol", desc := "(C)I" } : Jvm.MethodName) prog_2_method_4_code (2 : Nat) (Option.some Jvm.ClassFile.FieldType.int) ∈ ax_ws := ax_wt 184 (by decide +kernel) (by decide +kernel)
theorem wd_194 : Cond.code ({ cls := "RoleParts$Grammar", name := "nextAtBrace", desc := "(C)I" } : Jvm.MethodName) prog_2_method_5_code (2 : Nat) (Option.some Jvm.ClassFile.FieldType.int) ∈ ax_ws := ax_wt 194 (by decide +kernel) (by decide +kernel)
theorem wd_201 : Cond.code ({ cls := "RoleParts$Grammar", name := "nextAfterProtocol", desc := "(C)I" } : Jvm.MethodName) prog_2_method_6_code (2 : Nat) (Option.some Jvm.ClassFile.FieldType.int) ∈ ax_ws := ax_wt 201 (by decide +kernel) (by decide +kernel)
theorem wd_90 : Cond.code ({ cls := "RoleParts$PartWriter", name := "<init>", desc := "(LRoleParts$Text;CLRoleParts$Text;)V" } : Jvm.MethodName) prog_3_method_1_code (4 : Nat) (Option.none : Option Jvm.ClassFile.FieldType) ∈ ax_ws := ax_wt 90 (by decide +kernel) (by decide +kernel)
theorem wd_245 : Cond.code ({ cls := "RoleParts$PartWriter", name := "writePart", desc := "()Z" } : Jvm.MethodName) prog_3_method_2_code (1 : Nat) (Option.some Jvm.ClassFile.FieldType.boolean) ∈ ax_ws := ax_wt 245 (by decide +kernel) (by decide +kernel)
theorem wd_253 : Cond.code ({ cls := "RoleParts$PartWriter", name := "writeProtocol", desc := "(I)Z" } : Jvm.MethodName) prog_3_method_3_code (3 : Nat) (Option.some Jvm.ClassFile.FieldType.boolean) ∈ ax_ws := ax_wt 253 (by decide +kernel) (by decide +kernel)
theorem wd_258 : Cond.code ({ cls := "RoleParts$PartWriter", name := "writeLoop", desc := "(I)Z" } : Jvm.MethodName) prog_3_method_4_code (4 : Nat) (Option.some Jvm.ClassFile.FieldType.boolean) ∈ ax_ws := ax_wt 258 (by decide +kernel) (by decide +kernel)
theorem wd_263 : Cond.code ({ cls := "RoleParts$PartWriter", name := "closeLoop", desc := "(IC)Z" } : Jvm.MethodName) prog_3_method_5_code (3 : Nat) (Option.some Jvm.ClassFile.FieldType.boolean) ∈ ax_ws := ax_wt 263 (by decide +kernel) (by decide +kernel)
theorem wd_274 : Cond.code ({ cls := "RoleParts$PartWriter", name := "writeMessage", desc := "(I)Z" } : Jvm.MethodName) prog_3_method_6_code (4 : Nat) (Option.some Jvm.ClassFile.FieldType.boolean) ∈ ax_ws := ax_wt 274 (by decide +kernel) (by decide +kernel)
theorem wd_278 : Cond.code ({ cls := "RoleParts$PartWriter", name := "writeOwnBranches", desc := "(I)Z" } : Jvm.MethodName) prog_3_method_7_code (4 : Nat) (Option.some Jvm.ClassFile.FieldType.boolean) ∈ ax_ws := ax_wt 278 (by decide +kernel) (by decide +kernel)
theorem wd_282 : Cond.code ({ cls := "RoleParts$PartWriter", name := "writeCommonPart", desc := "(I)Z" } : Jvm.MethodName) prog_3_method_8_code (5 : Nat) (Option.some Jvm.ClassFile.FieldType.boolean) ∈ ax_ws := ax_wt 282 (by decide +kernel) (by decide +kernel)
theorem wd_73 : Cond.code ({ cls := "RoleParts$Player", name := "<init>", desc := "(LRoleParts$Text;)V" } : Jvm.MethodName) prog_4_method_1_code (2 : Nat) (Option.none : Option Jvm.ClassFile.FieldType) ∈ ax_ws := ax_wt 73 (by decide +kernel) (by decide +kernel)
theorem wd_316 : Cond.code ({ cls := "RoleParts$Player", name := "toBeginning", desc := "()V" } : Jvm.MethodName) prog_4_method_2_code (1 : Nat) (Option.none : Option Jvm.ClassFile.FieldType) ∈ ax_ws := ax_wt 316 (by decide +kernel) (by decide +kernel)
theorem wd_342 : Cond.code ({ cls := "RoleParts$Player", name := "action", desc := "()I" } : Jvm.MethodName) prog_4_method_3_code (1 : Nat) (Option.some Jvm.ClassFile.FieldType.int) ∈ ax_ws := ax_wt 342 (by decide +kernel) (by decide +kernel)
theorem wd_351 : Cond.code ({ cls := "RoleParts$Player", name := "otherRole", desc := "()I" } : Jvm.MethodName) prog_4_method_4_code (2 : Nat) (Option.some Jvm.ClassFile.FieldType.int) ∈ ax_ws := ax_wt 351 (by decide +kernel) (by decide +kernel)
theorem wd_359 : Cond.code ({ cls := "RoleParts$Player", name := "behindLabel", desc := "(I)I" } : Jvm.MethodName) prog_4_method_5_code (5 : Nat) (Option.some Jvm.ClassFile.FieldType.int) ∈ ax_ws := ax_wt 359 (by decide +kernel) (by decide +kernel)
theorem wd_377 : Cond.code ({ cls := "RoleParts$Player", name := "follow", desc := "(I)Z" } : Jvm.MethodName) prog_4_method_6_code (3 : Nat) (Option.some Jvm.ClassFile.FieldType.boolean) ∈ ax_ws := ax_wt 377 (by decide +kernel) (by decide +kernel)
theorem wd_320 : Cond.code ({ cls := "RoleParts$Player", name := "goOnAtOnce", desc := "()V" } : Jvm.MethodName) prog_4_method_7_code (3 : Nat) (Option.none : Option Jvm.ClassFile.FieldType) ∈ ax_ws := ax_wt 320 (by decide +kernel) (by decide +kernel)
theorem wd_326 : Cond.code ({ cls := "RoleParts$Player", name := "bodyOfLoop", desc := "(C)I" } : Jvm.MethodName) prog_4_method_8_code (3 : Nat) (Option.some Jvm.ClassFile.FieldType.int) ∈ ax_ws := ax_wt 326 (by decide +kernel) (by decide +kernel)
theorem wd_108 : Cond.code ({ cls := "RoleParts$Row", name := "<init>", desc := "()V" } : Jvm.MethodName) prog_5_method_1_code (1 : Nat) (Option.none : Option Jvm.ClassFile.FieldType) ∈ ax_ws := ax_wt 108 (by decide +kernel) (by decide +kernel)
theorem wd_390 : Cond.code ({ cls := "RoleParts$Row", name := "size", desc := "()I" } : Jvm.MethodName) prog_5_method_2_code (1 : Nat) (Option.some Jvm.ClassFile.FieldType.int) ∈ ax_ws := ax_wt 390 (by decide +kernel) (by decide +kernel)
theorem wd_373 : Cond.code ({ cls := "RoleParts$Row", name := "isFull", desc := "()Z" } : Jvm.MethodName) prog_5_method_3_code (1 : Nat) (Option.some Jvm.ClassFile.FieldType.boolean) ∈ ax_ws := ax_wt 373 (by decide +kernel) (by decide +kernel)
theorem wd_394 : Cond.code ({ cls := "RoleParts$Row", name := "get", desc := "(I)I" } : Jvm.MethodName) prog_5_method_4_code (2 : Nat) (Option.some Jvm.ClassFile.FieldType.int) ∈ ax_ws := ax_wt 394 (by decide +kernel) (by decide +kernel)
theorem wd_330 : Cond.code ({ cls := "RoleParts$Row", name := "clear", desc := "()V" } : Jvm.MethodName) prog_5_method_5_code (1 : Nat) (Option.none : Option Jvm.ClassFile.FieldType) ∈ ax_ws := ax_wt 330 (by decide +kernel) (by decide +kernel)
theorem wd_382 : Cond.code ({ cls := "RoleParts$Row", name := "append", desc := "(I)V" } : Jvm.MethodName) prog_5_method_6_code (2 : Nat) (Option.none : Option Jvm.ClassFile.FieldType) ∈ ax_ws := ax_wt 382 (by decide +kernel) (by decide +kernel)
theorem wd_398 : Cond.code ({ cls := "RoleParts$Row", name := "removeFirst", desc := "()V" } : Jvm.MethodName) prog_5_method_7_code (2 : Nat) (Option.none : Option Jvm.ClassFile.FieldType) ∈ ax_ws := ax_wt 398 (by decide +kernel) (by decide +kernel)
theorem wd_48 : Cond.code ({ cls := "RoleParts$Soundness", name := "<init>", desc := "()V" } : Jvm.MethodName) prog_6_method_1_code (1 : Nat) (Option.none : Option Jvm.ClassFile.FieldType) ∈ ax_ws := ax_wt 48 (by decide +kernel) (by decide +kernel)
theorem wd_205 : Cond.code ({ cls := "RoleParts$Soundness", name := "holdsFor", desc := "(LRoleParts$Text;)Z" } : Jvm.MethodName) prog_6_method_2_code (3 : Nat) (Option.some Jvm.ClassFile.FieldType.boolean) ∈ ax_ws := ax_wt 205 (by decide +kernel) (by decide +kernel)
theorem wd_210 : Cond.code ({ cls := "RoleParts$Soundness", name := "isSoundAt", desc := "(LRoleParts$Text;I)Z" } : Jvm.MethodName) prog_6_method_3_code (5 : Nat) (Option.some Jvm.ClassFile.FieldType.boolean) ∈ ax_ws := ax_wt 210 (by decide +kernel) (by decide +kernel)
theorem wd_215 : Cond.code ({ cls := "RoleParts$Soundness", name := "openLoop", desc := "(C)Z" } : Jvm.MethodName) prog_6_method_4_code (3 : Nat) (Option.some Jvm.ClassFile.FieldType.boolean) ∈ ax_ws := ax_wt 215 (by decide +kernel) (by decide +kernel)
theorem wd_219 : Cond.code ({ cls := "RoleParts$Soundness", name := "openMessage", desc := "()Z" } : Jvm.MethodName) prog_6_method_5_code (1 : Nat) (Option.some Jvm.ClassFile.FieldType.boolean) ∈ ax_ws := ax_wt 219 (by decide +kernel) (by decide +kernel)
theorem wd_227 : Cond.code ({ cls := "RoleParts$Soundness", name := "openBranch", desc := "(C)Z" } : Jvm.MethodName) prog_6_method_6_code (3 : Nat) (Option.some Jvm.ClassFile.FieldType.boolean) ∈ ax_ws := ax_wt 227 (by decide +kernel) (by decide +kernel)
theorem wd_232 : Cond.code ({ cls := "RoleParts$Soundness", name := "isLoopAroundMessage", desc := "(C)Z" } : Jvm.MethodName) prog_6_method_7_code (3 : Nat) (Option.some Jvm.ClassFile.FieldType.boolean) ∈ ax_ws := ax_wt 232 (by decide +kernel) (by decide +kernel)
theorem wd_223 : Cond.code ({ cls := "RoleParts$Soundness", name := "isInBounds", desc := "()Z" } : Jvm.MethodName) prog_6_method_8_code (1 : Nat) (Option.some Jvm.ClassFile.FieldType.boolean) ∈ ax_ws := ax_wt 223 (by decide +kernel) (by decide +kernel)
theorem wd_21 : Cond.code ({ cls := "RoleParts$Text", name := "<init>", desc := "()V" } : Jvm.MethodName) prog_7_method_1_code (1 : Nat) (Option.none : Option Jvm.ClassFile.FieldType) ∈ ax_ws := ax_wt 21 (by decide +kernel) (by decide +kernel)
theorem wd_172 : Cond.code ({ cls := "RoleParts$Text", name := "size", desc := "()I" } : Jvm.MethodName) prog_7_method_2_code (1 : Nat) (Option.some Jvm.ClassFile.FieldType.int) ∈ ax_ws := ax_wt 172 (by decide +kernel) (by decide +kernel)
theorem wd_176 : Cond.code ({ cls := "RoleParts$Text", name := "get", desc := "(I)C" } : Jvm.MethodName) prog_7_method_3_code (2 : Nat) (Option.some Jvm.ClassFile.FieldType.char) ∈ ax_ws := ax_wt 176 (by decide +kernel) (by decide +kernel)
theorem wd_152 : Cond.code ({ cls := "RoleParts$Text", name := "append", desc := "(C)Z" } : Jvm.MethodName) prog_7_method_4_code (2 : Nat) (Option.some Jvm.ClassFile.FieldType.boolean) ∈ ax_ws := ax_wt 152 (by decide +kernel) (by decide +kernel)
theorem wd_156 : Cond.code ({ cls := "RoleParts$Text", name := "insert", desc := "(IC)Z" } : Jvm.MethodName) prog_7_method_5_code (4 : Nat) (Option.some Jvm.ClassFile.FieldType.boolean) ∈ ax_ws := ax_wt 156 (by decide +kernel) (by decide +kernel)
theorem wd_249 : Cond.code ({ cls := "RoleParts$Text", name := "shorten", desc := "(I)V" } : Jvm.MethodName) prog_7_method_6_code (2 : Nat) (Option.none : Option Jvm.ClassFile.FieldType) ∈ ax_ws := ax_wt 249 (by decide +kernel) (by decide +kernel)
theorem wd_240 : Cond.code ({ cls := "RoleParts$Text", name := "countOf", desc := "(C)I" } : Jvm.MethodName) prog_7_method_7_code (4 : Nat) (Option.some Jvm.ClassFile.FieldType.int) ∈ ax_ws := ax_wt 240 (by decide +kernel) (by decide +kernel)
theorem wd_268 : Cond.code ({ cls := "RoleParts$Text", name := "hasFrom", desc := "(IC)Z" } : Jvm.MethodName) prog_7_method_8_code (4 : Nat) (Option.some Jvm.ClassFile.FieldType.boolean) ∈ ax_ws := ax_wt 268 (by decide +kernel) (by decide +kernel)
theorem wd_286 : Cond.code ({ cls := "RoleParts$Text", name := "isTwice", desc := "(II)Z" } : Jvm.MethodName) prog_7_method_9_code (5 : Nat) (Option.some Jvm.ClassFile.FieldType.boolean) ∈ ax_ws := ax_wt 286 (by decide +kernel) (by decide +kernel)
theorem wd_13 : Cond.code ({ cls := "RoleParts", name := "<init>", desc := "()V" } : Jvm.MethodName) prog_1_method_1_code (3 : Nat) (Option.none : Option Jvm.ClassFile.FieldType) ∈ ax_ws := ax_wt 13 (by decide +kernel) (by decide +kernel)
theorem wd_148 : Cond.code ({ cls := "RoleParts", name := "type", desc := "(C)Z" } : Jvm.MethodName) prog_1_method_2_code (2 : Nat) (Option.some Jvm.ClassFile.FieldType.boolean) ∈ ax_ws := ax_wt 148 (by decide +kernel) (by decide +kernel)
theorem wd_160 : Cond.code ({ cls := "RoleParts", name := "define", desc := "()I" } : Jvm.MethodName) prog_1_method_3_code (2 : Nat) (Option.some Jvm.ClassFile.FieldType.int) ∈ ax_ws := ax_wt 160 (by decide +kernel) (by decide +kernel)
theorem wd_291 : Cond.code ({ cls := "RoleParts", name := "messages", desc := "()I" } : Jvm.MethodName) prog_1_method_4_code (1 : Nat) (Option.some Jvm.ClassFile.FieldType.int) ∈ ax_ws := ax_wt 291 (by decide +kernel) (by decide +kernel)
theorem wd_295 : Cond.code ({ cls := "RoleParts", name := "length", desc := "(I)I" } : Jvm.MethodName) prog_1_method_5_code (2 : Nat) (Option.some Jvm.ClassFile.FieldType.int) ∈ ax_ws := ax_wt 295 (by decide +kernel) (by decide +kernel)
theorem wd_307 : Cond.code ({ cls := "RoleParts", name := "charAt", desc := "(II)I" } : Jvm.MethodName) prog_1_method_6_code (3 : Nat) (Option.some Jvm.ClassFile.FieldType.int) ∈ ax_ws := ax_wt 307 (by decide +kernel) (by decide +kernel)
theorem wd_312 : Cond.code ({ cls := "RoleParts", name := "begin", desc := "()Z" } : Jvm.MethodName) prog_1_method_7_code (2 : Nat) (Option.some Jvm.ClassFile.FieldType.boolean) ∈ ax_ws := ax_wt 312 (by decide +kernel) (by decide +kernel)
theorem wd_334 : Cond.code ({ cls := "RoleParts", name := "act", desc := "(I)I" } : Jvm.MethodName) prog_1_method_8_code (3 : Nat) (Option.some Jvm.ClassFile.FieldType.int) ∈ ax_ws := ax_wt 334 (by decide +kernel) (by decide +kernel)
theorem wd_347 : Cond.code ({ cls := "RoleParts", name := "partner", desc := "(I)I" } : Jvm.MethodName) prog_1_method_9_code (3 : Nat) (Option.some Jvm.ClassFile.FieldType.int) ∈ ax_ws := ax_wt 347 (by decide +kernel) (by decide +kernel)
theorem wd_355 : Cond.code ({ cls := "RoleParts", name := "offers", desc := "(II)Z" } : Jvm.MethodName) prog_1_method_10_code (4 : Nat) (Option.some Jvm.ClassFile.FieldType.boolean) ∈ ax_ws := ax_wt 355 (by decide +kernel) (by decide +kernel)
theorem wd_365 : Cond.code ({ cls := "RoleParts", name := "send", desc := "(II)Z" } : Jvm.MethodName) prog_1_method_11_code (5 : Nat) (Option.some Jvm.ClassFile.FieldType.boolean) ∈ ax_ws := ax_wt 365 (by decide +kernel) (by decide +kernel)
theorem wd_386 : Cond.code ({ cls := "RoleParts", name := "receive", desc := "(I)I" } : Jvm.MethodName) prog_1_method_12_code (5 : Nat) (Option.some Jvm.ClassFile.FieldType.int) ∈ ax_ws := ax_wt 386 (by decide +kernel) (by decide +kernel)
theorem wd_402 : Cond.code ({ cls := "RoleParts", name := "onTheWay", desc := "(II)I" } : Jvm.MethodName) prog_1_method_13_code (4 : Nat) (Option.some Jvm.ClassFile.FieldType.int) ∈ ax_ws := ax_wt 402 (by decide +kernel) (by decide +kernel)
theorem wd_406 : Cond.code ({ cls := "RoleParts", name := "labelAt", desc := "(III)I" } : Jvm.MethodName) prog_1_method_14_code (5 : Nat) (Option.some Jvm.ClassFile.FieldType.int) ∈ ax_ws := ax_wt 406 (by decide +kernel) (by decide +kernel)
theorem wd_410 : Cond.code ({ cls := "RoleParts", name := "moves", desc := "()I" } : Jvm.MethodName) prog_1_method_15_code (1 : Nat) (Option.some Jvm.ClassFile.FieldType.int) ∈ ax_ws := ax_wt 410 (by decide +kernel) (by decide +kernel)
theorem wd_414 : Cond.code ({ cls := "RoleParts", name := "ready", desc := "()I" } : Jvm.MethodName) prog_1_method_16_code (3 : Nat) (Option.some Jvm.ClassFile.FieldType.int) ∈ ax_ws := ax_wt 414 (by decide +kernel) (by decide +kernel)
theorem wd_422 : Cond.code ({ cls := "RoleParts", name := "over", desc := "()Z" } : Jvm.MethodName) prog_1_method_17_code (1 : Nat) (Option.some Jvm.ClassFile.FieldType.boolean) ∈ ax_ws := ax_wt 422 (by decide +kernel) (by decide +kernel)
theorem wd_164 : Cond.code ({ cls := "RoleParts", name := "judgeTyped", desc := "()I" } : Jvm.MethodName) prog_1_method_18_code (2 : Nat) (Option.some Jvm.ClassFile.FieldType.int) ∈ ax_ws := ax_wt 164 (by decide +kernel) (by decide +kernel)
theorem wd_236 : Cond.code ({ cls := "RoleParts", name := "adoptTyped", desc := "()V" } : Jvm.MethodName) prog_1_method_19_code (2 : Nat) (Option.none : Option Jvm.ClassFile.FieldType) ∈ ax_ws := ax_wt 236 (by decide +kernel) (by decide +kernel)
theorem wd_299 : Cond.code ({ cls := "RoleParts", name := "hasPart", desc := "(I)Z" } : Jvm.MethodName) prog_1_method_20_code (2 : Nat) (Option.some Jvm.ClassFile.FieldType.boolean) ∈ ax_ws := ax_wt 299 (by decide +kernel) (by decide +kernel)
theorem wd_338 : Cond.code ({ cls := "RoleParts", name := "playing", desc := "(I)LRoleParts$Player;" } : Jvm.MethodName) prog_1_method_21_code (2 : Nat) (Option.some (Jvm.ClassFile.FieldType.object "RoleParts$Player")) ∈ ax_ws := ax_wt 338 (by decide +kernel) (by decide +kernel)
theorem wd_369 : Cond.code ({ cls := "RoleParts", name := "rowBetween", desc := "(II)LRoleParts$Row;" } : Jvm.MethodName) prog_1_method_22_code (4 : Nat) (Option.some (Jvm.ClassFile.FieldType.object "RoleParts$Row")) ∈ ax_ws := ax_wt 369 (by decide +kernel) (by decide +kernel)
theorem wd_418 : Cond.code ({ cls := "RoleParts", name := "canGoOn", desc := "(I)Z" } : Jvm.MethodName) prog_1_method_23_code (5 : Nat) (Option.some Jvm.ClassFile.FieldType.boolean) ∈ ax_ws := ax_wt 418 (by decide +kernel) (by decide +kernel)
theorem wd_426 : Cond.code ({ cls := "RoleParts", name := "allEnded", desc := "()Z" } : Jvm.MethodName) prog_1_method_24_code (2 : Nat) (Option.some Jvm.ClassFile.FieldType.boolean) ∈ ax_ws := ax_wt 426 (by decide +kernel) (by decide +kernel)
theorem wd_430 : Cond.code ({ cls := "RoleParts", name := "nothingOnTheWay", desc := "()Z" } : Jvm.MethodName) prog_1_method_25_code (2 : Nat) (Option.some Jvm.ClassFile.FieldType.boolean) ∈ ax_ws := ax_wt 430 (by decide +kernel) (by decide +kernel)
theorem wd_302 : Cond.code ({ cls := "RoleParts", name := "isRoleNumber", desc := "(I)Z" } : Jvm.MethodName) prog_1_method_26_code (1 : Nat) (Option.some Jvm.ClassFile.FieldType.boolean) ∈ ax_ws := ax_wt 302 (by decide +kernel) (by decide +kernel)
theorem wd_190 : Cond.code ({ cls := "RoleParts", name := "isRole", desc := "(C)Z" } : Jvm.MethodName) prog_1_method_27_code (1 : Nat) (Option.some Jvm.ClassFile.FieldType.boolean) ∈ ax_ws := ax_wt 190 (by decide +kernel) (by decide +kernel)
theorem wd_197 : Cond.code ({ cls := "RoleParts", name := "isLabel", desc := "(C)Z" } : Jvm.MethodName) prog_1_method_28_code (1 : Nat) (Option.some Jvm.ClassFile.FieldType.boolean) ∈ ax_ws := ax_wt 197 (by decide +kernel) (by decide +kernel)
theorem wd_187 : Cond.code ({ cls := "RoleParts", name := "isVariable", desc := "(C)Z" } : Jvm.MethodName) prog_1_method_29_code (1 : Nat) (Option.some Jvm.ClassFile.FieldType.boolean) ∈ ax_ws := ax_wt 187 (by decide +kernel) (by decide +kernel)
theorem wd_435 : Cond.code ({ cls := "RolePartsModel", name := "<init>", desc := "()V" } : Jvm.MethodName) prog_9_method_1_code (1 : Nat) (Option.none : Option Jvm.ClassFile.FieldType) ∈ ax_ws := ax_wt 435 (by decide +kernel) (by decide +kernel)
theorem wd_498 : Cond.code ({ cls := "RolePartsModel", name := "type", desc := "(C)Z" } : Jvm.MethodName) prog_9_method_2_code (2 : Nat) (Option.some Jvm.ClassFile.FieldType.boolean) ∈ ax_ws := ax_wt 498 (by decide +kernel) (by decide +kernel)
theorem wd_512 : Cond.code ({ cls := "RolePartsModel", name := "isVariable", desc := "(I)Z" } : Jvm.MethodName) prog_9_method_3_code (1 : Nat) (Option.some Jvm.ClassFile.FieldType.boolean) ∈ ax_ws := ax_wt 512 (by decide +kernel) (by decide +kernel)
theorem wd_515 : Cond.code ({ cls := "RolePartsModel", name := "isRole", desc := "(I)Z" } : Jvm.MethodName) prog_9_method_4_code (1 : Nat) (Option.some Jvm.ClassFile.FieldType.boolean) ∈ ax_ws := ax_wt 515 (by decide +kernel) (by decide +kernel)
theorem wd_526 : Cond.code ({ cls := "RolePartsModel", name := "isLabel", desc := "(I)Z" } : Jvm.MethodName) prog_9_method_5_code (1 : Nat) (Option.some Jvm.ClassFile.FieldType.boolean) ∈ ax_ws := ax_wt 526 (by decide +kernel) (by decide +kernel)
theorem wd_519 : Cond.code ({ cls := "RolePartsModel", name := "piece", desc := "(IIIII)I" } : Jvm.MethodName) prog_9_method_6_code (6 : Nat) (Option.some Jvm.ClassFile.FieldType.int) ∈ ax_ws := ax_wt 519 (by decide +kernel) (by decide +kernel)
theorem wd_523 : Cond.code ({ cls := "RolePartsModel", name := "ended", desc := "(I)I" } : Jvm.MethodName) prog_9_method_7_code (3 : Nat) (Option.some Jvm.ClassFile.FieldType.int) ∈ ax_ws := ax_wt 523 (by decide +kernel) (by decide +kernel)
theorem wd_509 : Cond.code ({ cls := "RolePartsModel", name := "afterStart", desc := "(I)I" } : Jvm.MethodName) prog_9_method_8_code (1 : Nat) (Option.some Jvm.ClassFile.FieldType.int) ∈ ax_ws := ax_wt 509 (by decide +kernel) (by decide +kernel)
theorem wd_506 : Cond.code ({ cls := "RolePartsModel", name := "read", desc := "()I" } : Jvm.MethodName) prog_9_method_9_code (9 : Nat) (Option.some Jvm.ClassFile.FieldType.int) ∈ ax_ws := ax_wt 506 (by decide +kernel) (by decide +kernel)
theorem wd_534 : Cond.code ({ cls := "RolePartsModel", name := "bound", desc := "(I)Z" } : Jvm.MethodName) prog_9_method_10_code (4 : Nat) (Option.some Jvm.ClassFile.FieldType.boolean) ∈ ax_ws := ax_wt 534 (by decide +kernel) (by decide +kernel)
theorem wd_538 : Cond.code ({ cls := "RolePartsModel", name := "single", desc := "(I)Z" } : Jvm.MethodName) prog_9_method_11_code (3 : Nat) (Option.some Jvm.ClassFile.FieldType.boolean) ∈ ax_ws := ax_wt 538 (by decide +kernel) (by decide +kernel)
theorem wd_542 : Cond.code ({ cls := "RolePartsModel", name := "apart", desc := "(I)Z" } : Jvm.MethodName) prog_9_method_12_code (3 : Nat) (Option.some Jvm.ClassFile.FieldType.boolean) ∈ ax_ws := ax_wt 542 (by decide +kernel) (by decide +kernel)
theorem wd_530 : Cond.code ({ cls := "RolePartsModel", name := "sound", desc := "()Z" } : Jvm.MethodName) prog_9_method_13_code (2 : Nat) (Option.some Jvm.ClassFile.FieldType.boolean) ∈ ax_ws := ax_wt 530 (by decide +kernel) (by decide +kernel)
theorem wd_554 : Cond.code ({ cls := "RolePartsModel", name := "put", desc := "(II)V" } : Jvm.MethodName) prog_9_method_14_code (3 : Nat) (Option.none : Option Jvm.ClassFile.FieldType) ∈ ax_ws := ax_wt 554 (by decide +kernel) (by decide +kernel)
theorem wd_558 : Cond.code ({ cls := "RolePartsModel", name := "copy", desc := "(II)V" } : Jvm.MethodName) prog_9_method_15_code (4 : Nat) (Option.none : Option Jvm.ClassFile.FieldType) ∈ ax_ws := ax_wt 558 (by decide +kernel) (by decide +kernel)
theorem wd_566 : Cond.code ({ cls := "RolePartsModel", name := "same", desc := "(II)Z" } : Jvm.MethodName) prog_9_method_16_code (5 : Nat) (Option.some Jvm.ClassFile.FieldType.boolean) ∈ ax_ws := ax_wt 566 (by decide +kernel) (by decide +kernel)
theorem wd_550 : Cond.code ({ cls := "RolePartsModel", name := "loopPart", desc := "(II)V" } : Jvm.MethodName) prog_9_method_17_code (7 : Nat) (Option.none : Option Jvm.ClassFile.FieldType) ∈ ax_ws := ax_wt 550 (by decide +kernel) (by decide +kernel)
theorem wd_562 : Cond.code ({ cls := "RolePartsModel", name := "messagePart", desc := "(II)V" } : Jvm.MethodName) prog_9_method_18_code (10 : Nat) (Option.none : Option Jvm.ClassFile.FieldType) ∈ ax_ws := ax_wt 562 (by decide +kernel) (by decide +kernel)
theorem wd_546 : Cond.code ({ cls := "RolePartsModel", name := "project", desc := "()V" } : Jvm.MethodName) prog_9_method_19_code (3 : Nat) (Option.none : Option Jvm.ClassFile.FieldType) ∈ ax_ws := ax_wt 546 (by decide +kernel) (by decide +kernel)
theorem wd_502 : Cond.code ({ cls := "RolePartsModel", name := "define", desc := "()I" } : Jvm.MethodName) prog_9_method_20_code (4 : Nat) (Option.some Jvm.ClassFile.FieldType.int) ∈ ax_ws := ax_wt 502 (by decide +kernel) (by decide +kernel)
theorem wd_577 : Cond.code ({ cls := "RolePartsModel", name := "isNumber", desc := "(I)Z" } : Jvm.MethodName) prog_9_method_21_code (1 : Nat) (Option.some Jvm.ClassFile.FieldType.boolean) ∈ ax_ws := ax_wt 577 (by decide +kernel) (by decide +kernel)
theorem wd_570 : Cond.code ({ cls := "RolePartsModel", name := "messages", desc := "()I" } : Jvm.MethodName) prog_9_method_22_code (1 : Nat) (Option.some Jvm.ClassFile.FieldType.int) ∈ ax_ws := ax_wt 570 (by decide +kernel) (by decide +kernel)
theorem wd_574 : Cond.code ({ cls := "RolePartsModel", name := "length", desc := "(I)I" } : Jvm.MethodName) prog_9_method_23_code (2 : Nat) (Option.some Jvm.ClassFile.FieldType.int) ∈ ax_ws := ax_wt 574 (by decide +kernel) (by decide +kernel)
theorem wd_581 : Cond.code ({ cls := "RolePartsModel", name := "charAt", desc := "(II)I" } : Jvm.MethodName) prog_9_method_24_code (3 : Nat) (Option.some Jvm.ClassFile.FieldType.int) ∈ ax_ws := ax_wt 581 (by decide +kernel) (by decide +kernel)
theorem wd_593 : Cond.code ({ cls := "RolePartsModel", name := "sign", desc := "(II)I" } : Jvm.MethodName) prog_9_method_25_code (3 : Nat) (Option.some Jvm.ClassFile.FieldType.int) ∈ ax_ws := ax_wt 593 (by decide +kernel) (by decide +kernel)
theorem wd_597 : Cond.code ({ cls := "RolePartsModel", name := "loopOf", desc := "(III)I" } : Jvm.MethodName) prog_9_method_26_code (8 : Nat) (Option.some Jvm.ClassFile.FieldType.int) ∈ ax_ws := ax_wt 597 (by decide +kernel) (by decide +kernel)
theorem wd_589 : Cond.code ({ cls := "RolePartsModel", name := "settle", desc := "(II)V" } : Jvm.MethodName) prog_9_method_27_code (6 : Nat) (Option.none : Option Jvm.ClassFile.FieldType) ∈ ax_ws := ax_wt 589 (by decide +kernel) (by decide +kernel)
theorem wd_585 : Cond.code ({ cls := "RolePartsModel", name := "begin", desc := "()Z" } : Jvm.MethodName) prog_9_method_28_code (3 : Nat) (Option.some Jvm.ClassFile.FieldType.boolean) ∈ ax_ws := ax_wt 585 (by decide +kernel) (by decide +kernel)
theorem wd_601 : Cond.code ({ cls := "RolePartsModel", name := "act", desc := "(I)I" } : Jvm.MethodName) prog_9_method_29_code (3 : Nat) (Option.some Jvm.ClassFile.FieldType.int) ∈ ax_ws := ax_wt 601 (by decide +kernel) (by decide +kernel)
theorem wd_605 : Cond.code ({ cls := "RolePartsModel", name := "partner", desc := "(I)I" } : Jvm.MethodName) prog_9_method_30_code (2 : Nat) (Option.some Jvm.ClassFile.FieldType.int) ∈ ax_ws := ax_wt 605 (by decide +kernel) (by decide +kernel)
theorem wd_614 : Cond.code ({ cls := "RolePartsModel", name := "branchOf", desc := "(II)I" } : Jvm.MethodName) prog_9_method_31_code (6 : Nat) (Option.some Jvm.ClassFile.FieldType.int) ∈ ax_ws := ax_wt 614 (by decide +kernel) (by decide +kernel)
theorem wd_610 : Cond.code ({ cls := "RolePartsModel", name := "offers", desc := "(II)Z" } : Jvm.MethodName) prog_9_method_32_code (3 : Nat) (Option.some Jvm.ClassFile.FieldType.boolean) ∈ ax_ws := ax_wt 610 (by decide +kernel) (by decide +kernel)
theorem wd_618 : Cond.code ({ cls := "RolePartsModel", name := "send", desc := "(II)Z" } : Jvm.MethodName) prog_9_method_33_code (4 : Nat) (Option.some Jvm.ClassFile.FieldType.boolean) ∈ ax_ws := ax_wt 618 (by decide +kernel) (by decide +kernel)
theorem wd_624 : Cond.code ({ cls := "RolePartsModel", name := "receive", desc := "(I)I" } : Jvm.MethodName) prog_9_method_34_code (4 : Nat) (Option.some Jvm.ClassFile.FieldType.int) ∈ ax_ws := ax_wt 624 (by decide +kernel) (by decide +kernel)
theorem wd_628 : Cond.code ({ cls := "RolePartsModel", name := "onTheWay", desc := "(II)I" } : Jvm.MethodName) prog_9_method_35_code (3 : Nat) (Option.some Jvm.ClassFile.FieldType.int) ∈ ax_ws := ax_wt 628 (by decide +kernel) (by decide +kernel)
theorem wd_632 : Cond.code ({ cls := "RolePartsModel", name := "labelAt", desc := "(III)I" } : Jvm.MethodName) prog_9_method_36_code (4 : Nat) (Option.some Jvm.ClassFile.FieldType.int) ∈ ax_ws := ax_wt 632 (by decide +kernel) (by decide +kernel)
theorem wd_637 : Cond.code ({ cls := "RolePartsModel", name := "moves", desc := "()I" } : Jvm.MethodName) prog_9_method_37_code (1 : Nat) (Option.some Jvm.ClassFile.FieldType.int) ∈ ax_ws := ax_wt 637 (by decide +kernel) (by decide +kernel)
theorem wd_645 : Cond.code ({ cls := "RolePartsModel", name := "canGo", desc := "(I)Z" } : Jvm.MethodName) prog_9_method_38_code (2 : Nat) (Option.some Jvm.ClassFile.FieldType.boolean) ∈ ax_ws := ax_wt 645 (by decide +kernel) (by decide +kernel)
theorem wd_641 : Cond.code ({ cls := "RolePartsModel", name := "ready", desc := "()I" } : Jvm.MethodName) prog_9_method_39_code (3 : Nat) (Option.some Jvm.ClassFile.FieldType.int) ∈ ax_ws := ax_wt 641 (by decide +kernel) (by decide +kernel)
theorem wd_650 : Cond.code ({ cls := "RolePartsModel", name := "over", desc := "()Z" } : Jvm.MethodName) prog_9_method_40_code (3 : Nat) (Option.some Jvm.ClassFile.FieldType.boolean) ∈ ax_ws := ax_wt 650 (by decide +kernel) (by decide +kernel)
theorem in_X0 : ∀ w ∈ u_ws RX0 TX0 2, w ∈ ax_ws := by decide +kernel
theorem in_X1 : ∀ w ∈ u_ws RX1 TX1 4, w ∈ ax_ws := by decide +kernel
theorem in_X2 : ∀ w ∈ u_ws RX2 TX2 3, w ∈ ax_ws := by decide +kernel
theorem in_X3 : ∀ w ∈ u_ws RX3 TX3 2, w ∈ ax_ws := by decide +kernel
theorem in_X4 : ∀ w ∈ u_ws RX4 TX4 4, w ∈ ax_ws := by decide +kernel
theorem in_X5 : ∀ w ∈ u_ws RX5 TX5 2, w ∈ ax_ws := by decide +kernel
theorem in_X6 : ∀ w ∈ u_ws RX6 TX6 9, w ∈ ax_ws := by decide +kernel
theorem in_X7 : ∀ w ∈ u_ws RX7 TX7 19, w ∈ ax_ws := by decide +kernel
theorem mo_0 : ax_mOk 0 0 := ⟨wd_35, ⟨by decide +kernel, by decide +kernel, by decide +kernel⟩, by decide, by decide, by decide +kernel⟩
theorem mo_1 : ax_mOk 1 1 := ⟨wd_168, ⟨by decide +kernel, by decide +kernel, by decide +kernel⟩, by decide, by decide, by decide +kernel⟩
theorem mo_2 : ax_mOk 2 1 := ⟨wd_180, ⟨by decide +kernel, by decide +kernel, by decide +kernel⟩, by decide, by decide, by decide +kernel⟩
theorem mo_3 : ax_mOk 3 1 := ⟨wd_184, ⟨by decide +kernel, by decide +kernel, by decide +kernel⟩, by decide, by decide, by decide +kernel⟩
theorem mo_4 : ax_mOk 4 1 := ⟨wd_194, ⟨by decide +kernel, by decide +kernel, by decide +kernel⟩, by decide, by decide, by decide +kernel⟩
theorem mo_5 : ax_mOk 5 1 := ⟨wd_201, ⟨by decide +kernel, by decide +kernel, by decide +kernel⟩, by decide, by decide, by decide +kernel⟩
theorem mo_6 : ax_mOk 6 3 := ⟨wd_90, ⟨by decide +kernel, by decide +kernel, by decide +kernel⟩, by decide, by decide, by decide +kernel⟩
theorem mo_7 : ax_mOk 7 0 := ⟨wd_245, ⟨by decide +kernel, by decide +kernel, by decide +kernel⟩, by decide, by decide, by decide +kernel⟩
theorem mo_8 : ax_mOk 8 1 := ⟨wd_253, ⟨by decide +kernel, by decide +kernel, by decide +kernel⟩, by decide, by decide, by decide +kernel⟩
theorem mo_9 : ax_mOk 9 1 := ⟨wd_258, ⟨by decide +kernel, by decide +kernel, by decide +kernel⟩, by decide, by decide, by decide +kernel⟩
theorem mo_10 : ax_mOk 10 2 := ⟨wd_263, ⟨by decide +kernel, by decide +kernel, by decide +kernel⟩, by decide, by decide, by decide +kernel⟩
theorem mo_11 : ax_mOk 11 1 := ⟨wd_274, ⟨by decide +kernel, by decide +kernel, by decide +kernel⟩, by decide, by decide, by decide +kernel⟩
theorem mo_12 : ax_mOk 12 1 := ⟨wd_278, ⟨by decide +kernel, by decide +kernel, by decide +kernel⟩, by decide, by decide, by decide +kernel⟩
theorem mo_13 : ax_mOk 13 1 := ⟨wd_282, ⟨by decide +kernel, by decide +kernel, by decide +kernel⟩, by decide, by decide, by decide +kernel⟩
theorem mo_14 : ax_mOk 14 1 := ⟨wd_73, ⟨by decide +kernel, by decide +kernel, by decide +kernel⟩, by decide, by decide, by decide +kernel⟩
theorem mo_15 : ax_mOk 15 0 := ⟨wd_316, ⟨by decide +kernel, by decide +kernel, by decide +kernel⟩, by decide, by decide, by decide +kernel⟩
theorem mo_16 : ax_mOk 16 0 := ⟨wd_342, ⟨by decide +kernel, by decide +kernel, by decide +kernel⟩, by decide, by decide, by decide +kernel⟩
theorem mo_17 : ax_mOk 17 0 := ⟨wd_351, ⟨by decide +kernel, by decide +kernel, by decide +kernel⟩, by decide, by decide, by decide +kernel⟩
theorem mo_18 : ax_mOk 18 1 := ⟨wd_359, ⟨by decide +kernel, by decide +kernel, by decide +kernel⟩, by decide, by decide, by decide +kernel⟩
theorem mo_19 : ax_mOk 19 1 := ⟨wd_377, ⟨by decide +kernel, by decide +kernel, by decide +kernel⟩, by decide, by decide, by decide +kernel⟩
theorem mo_20 : ax_mOk 20 0 := ⟨wd_320, ⟨by decide +kernel, by decide +kernel, by decide +kernel⟩, by decide, by decide, by decide +kernel⟩
theorem mo_21 : ax_mOk 21 1 := ⟨wd_326, ⟨by decide +kernel, by decide +kernel, by decide +kernel⟩, by decide, by decide, by decide +kernel⟩
theorem mo_22 : ax_mOk 22 0 := ⟨wd_108, ⟨by decide +kernel, by decide +kernel, by decide +kernel⟩, by decide, by decide, by decide +kernel⟩
theorem mo_23 : ax_mOk 23 0 := ⟨wd_390, ⟨by decide +kernel, by decide +kernel, by decide +kernel⟩, by decide, by decide, by decide +kernel⟩
theorem mo_24 : ax_mOk 24 0 := ⟨wd_373, ⟨by decide +kernel, by decide +kernel, by decide +kernel⟩, by decide, by decide, by decide +kernel⟩
theorem mo_25 : ax_mOk 25 1 := ⟨wd_394, ⟨by decide +kernel, by decide +kernel, by decide +kernel⟩, by decide, by decide, by decide +kernel⟩
theorem mo_26 : ax_mOk 26 0 := ⟨wd_330, ⟨by decide +kernel, by decide +kernel, by decide +kernel⟩, by decide, by decide, by decide +kernel⟩
theorem mo_27 : ax_mOk 27 1 := ⟨wd_382, ⟨by decide +kernel, by decide +kernel, by decide +kernel⟩, by decide, by decide, by decide +kernel⟩
theorem mo_28 : ax_mOk 28 0 := ⟨wd_398, ⟨by decide +kernel, by decide +kernel, by decide +kernel⟩, by decide, by decide, by decide +kernel⟩
theorem mo_29 : ax_mOk 29 0 := ⟨wd_48, ⟨by decide +kernel, by decide +kernel, by decide +kernel⟩, by decide, by decide, by decide +kernel⟩
theorem mo_30 : ax_mOk 30 1 := ⟨wd_205, ⟨by decide +kernel, by decide +kernel, by decide +kernel⟩, by decide, by decide, by decide +kernel⟩
theorem mo_31 : ax_mOk 31 2 := ⟨wd_210, ⟨by decide +kernel, by decide +kernel, by decide +kernel⟩, by decide, by decide, by decide +kernel⟩
theorem mo_32 : ax_mOk 32 1 := ⟨wd_215, ⟨by decide +kernel, by decide +kernel, by decide +kernel⟩, by decide, by decide, by decide +kernel⟩
theorem mo_33 : ax_mOk 33 0 := ⟨wd_219, ⟨by decide +kernel, by decide +kernel, by decide +kernel⟩, by decide, by decide, by decide +kernel⟩
theorem mo_34 : ax_mOk 34 1 := ⟨wd_227, ⟨by decide +kernel, by decide +kernel, by decide +kernel⟩, by decide, by decide, by decide +kernel⟩
theorem mo_35 : ax_mOk 35 1 := ⟨wd_232, ⟨by decide +kernel, by decide +kernel, by decide +kernel⟩, by decide, by decide, by decide +kernel⟩
theorem mo_36 : ax_mOk 36 0 := ⟨wd_223, ⟨by decide +kernel, by decide +kernel, by decide +kernel⟩, by decide, by decide, by decide +kernel⟩
theorem mo_37 : ax_mOk 37 0 := ⟨wd_21, ⟨by decide +kernel, by decide +kernel, by decide +kernel⟩, by decide, by decide, by decide +kernel⟩
theorem mo_38 : ax_mOk 38 0 := ⟨wd_172, ⟨by decide +kernel, by decide +kernel, by decide +kernel⟩, by decide, by decide, by decide +kernel⟩
theorem mo_39 : ax_mOk 39 1 := ⟨wd_176, ⟨by decide +kernel, by decide +kernel, by decide +kernel⟩, by decide, by decide, by decide +kernel⟩
theorem mo_40 : ax_mOk 40 1 := ⟨wd_152, ⟨by decide +kernel, by decide +kernel, by decide +kernel⟩, by decide, by decide, by decide +kernel⟩
theorem mo_41 : ax_mOk 41 2 := ⟨wd_156, ⟨by decide +kernel, by decide +kernel, by decide +kernel⟩, by decide, by decide, by decide +kernel⟩
theorem mo_42 : ax_mOk 42 1 := ⟨wd_249, ⟨by decide +kernel, by decide +kernel, by decide +kernel⟩, by decide, by decide, by decide +kernel⟩
theorem mo_43 : ax_mOk 43 1 := ⟨wd_240, ⟨by decide +kernel, by decide +kernel, by decide +kernel⟩, by decide, by decide, by decide +kernel⟩
theorem mo_44 : ax_mOk 44 2 := ⟨wd_268, ⟨by decide +kernel, by decide +kernel, by decide +kernel⟩, by decide, by decide, by decide +kernel⟩
theorem mo_45 : ax_mOk 45 2 := ⟨wd_286, ⟨by decide +kernel, by decide +kernel, by decide +kernel⟩, by decide, by decide, by decide +kernel⟩
theorem mo_46 : ax_mOk 46 0 := ⟨wd_13, ⟨by decide +kernel, by decide +kernel, by decide +kernel⟩, by decide, by decide, by decide +kernel⟩
theorem mo_47 : ax_mOk 47 1 := ⟨wd_148, ⟨by decide +kernel, by decide +kernel, by decide +kernel⟩, by decide, by decide, by decide +kernel⟩
theorem mo_48 : ax_mOk 48 0 := ⟨wd_160, ⟨by decide +kernel, by decide +kernel, by decide +kernel⟩, by decide, by decide, by decide +kernel⟩
theorem mo_49 : ax_mOk 49 0 := ⟨wd_291, ⟨by decide +kernel, by decide +kernel, by decide +kernel⟩, by decide, by decide, by decide +kernel⟩
theorem mo_50 : ax_mOk 50 1 := ⟨wd_295, ⟨by decide +kernel, by decide +kernel, by decide +kernel⟩, by decide, by decide, by decide +kernel⟩
theorem mo_51 : ax_mOk 51 2 := ⟨wd_307, ⟨by decide +kernel, by decide +kernel, by decide +kernel⟩, by decide, by decide, by decide +kernel⟩
theorem mo_52 : ax_mOk 52 0 := ⟨wd_312, ⟨by decide +kernel, by decide +kernel, by decide +kernel⟩, by decide, by decide, by decide +kernel⟩
theorem mo_53 : ax_mOk 53 1 := ⟨wd_334, ⟨by decide +kernel, by decide +kernel, by decide +kernel⟩, by decide, by decide, by decide +kernel⟩
theorem mo_54 : ax_mOk 54 1 := ⟨wd_347, ⟨by decide +kernel, by decide +kernel, by decide +kernel⟩, by decide, by decide, by decide +kernel⟩
theorem mo_55 : ax_mOk 55 2 := ⟨wd_355, ⟨by decide +kernel, by decide +kernel, by decide +kernel⟩, by decide, by decide, by decide +kernel⟩
theorem mo_56 : ax_mOk 56 2 := ⟨wd_365, ⟨by decide +kernel, by decide +kernel, by decide +kernel⟩, by decide, by decide, by decide +kernel⟩
theorem mo_57 : ax_mOk 57 1 := ⟨wd_386, ⟨by decide +kernel, by decide +kernel, by decide +kernel⟩, by decide, by decide, by decide +kernel⟩
theorem mo_58 : ax_mOk 58 2 := ⟨wd_402, ⟨by decide +kernel, by decide +kernel, by decide +kernel⟩, by decide, by decide, by decide +kernel⟩
theorem mo_59 : ax_mOk 59 3 := ⟨wd_406, ⟨by decide +kernel, by decide +kernel, by decide +kernel⟩, by decide, by decide, by decide +kernel⟩
theorem mo_60 : ax_mOk 60 0 := ⟨wd_410, ⟨by decide +kernel, by decide +kernel, by decide +kernel⟩, by decide, by decide, by decide +kernel⟩
theorem mo_61 : ax_mOk 61 0 := ⟨wd_414, ⟨by decide +kernel, by decide +kernel, by decide +kernel⟩, by decide, by decide, by decide +kernel⟩
theorem mo_62 : ax_mOk 62 0 := ⟨wd_422, ⟨by decide +kernel, by decide +kernel, by decide +kernel⟩, by decide, by decide, by decide +kernel⟩
theorem mo_63 : ax_mOk 63 0 := ⟨wd_164, ⟨by decide +kernel, by decide +kernel, by decide +kernel⟩, by decide, by decide, by decide +kernel⟩
theorem mo_64 : ax_mOk 64 0 := ⟨wd_236, ⟨by decide +kernel, by decide +kernel, by decide +kernel⟩, by decide, by decide, by decide +kernel⟩
theorem mo_65 : ax_mOk 65 1 := ⟨wd_299, ⟨by decide +kernel, by decide +kernel, by decide +kernel⟩, by decide, by decide, by decide +kernel⟩
theorem mo_66 : ax_mOk 66 1 := ⟨wd_338, ⟨by decide +kernel, by decide +kernel, by decide +kernel⟩, by decide, by decide, by decide +kernel⟩
theorem mo_67 : ax_mOk 67 2 := ⟨wd_369, ⟨by decide +kernel, by decide +kernel, by decide +kernel⟩, by decide, by decide, by decide +kernel⟩
theorem mo_68 : ax_mOk 68 1 := ⟨wd_418, ⟨by decide +kernel, by decide +kernel, by decide +kernel⟩, by decide, by decide, by decide +kernel⟩
theorem mo_69 : ax_mOk 69 0 := ⟨wd_426, ⟨by decide +kernel, by decide +kernel, by decide +kernel⟩, by decide, by decide, by decide +kernel⟩
theorem mo_70 : ax_mOk 70 0 := ⟨wd_430, ⟨by decide +kernel, by decide +kernel, by decide +kernel⟩, by decide, by decide, by decide +kernel⟩
theorem mo_71 : ax_mOk 71 1 := ⟨wd_302, ⟨by decide +kernel, by decide +kernel, by decide +kernel⟩, by decide, by decide, by decide +kernel⟩
theorem mo_72 : ax_mOk 72 1 := ⟨wd_190, ⟨by decide +kernel, by decide +kernel, by decide +kernel⟩, by decide, by decide, by decide +kernel⟩
theorem mo_73 : ax_mOk 73 1 := ⟨wd_197, ⟨by decide +kernel, by decide +kernel, by decide +kernel⟩, by decide, by decide, by decide +kernel⟩
theorem mo_74 : ax_mOk 74 1 := ⟨wd_187, ⟨by decide +kernel, by decide +kernel, by decide +kernel⟩, by decide, by decide, by decide +kernel⟩
theorem mo_75 : ax_mOk 75 0 := ⟨wd_435, ⟨by decide +kernel, by decide +kernel, by decide +kernel⟩, by decide, by decide, by decide +kernel⟩
theorem mo_76 : ax_mOk 76 1 := ⟨wd_498, ⟨by decide +kernel, by decide +kernel, by decide +kernel⟩, by decide, by decide, by decide +kernel⟩
theorem mo_77 : ax_mOk 77 1 := ⟨wd_512, ⟨by decide +kernel, by decide +kernel, by decide +kernel⟩, by decide, by decide, by decide +kernel⟩
theorem mo_78 : ax_mOk 78 1 := ⟨wd_515, ⟨by decide +kernel, by decide +kernel, by decide +kernel⟩, by decide, by decide, by decide +kernel⟩
theorem mo_79 : ax_mOk 79 1 := ⟨wd_526, ⟨by decide +kernel, by decide +kernel, by decide +kernel⟩, by decide, by decide, by decide +kernel⟩
theorem mo_80 : ax_mOk 80 5 := ⟨wd_519, ⟨by decide +kernel, by decide +kernel, by decide +kernel⟩, by decide, by decide, by decide +kernel⟩
theorem mo_81 : ax_mOk 81 1 := ⟨wd_523, ⟨by decide +kernel, by decide +kernel, by decide +kernel⟩, by decide, by decide, by decide +kernel⟩
theorem mo_82 : ax_mOk 82 1 := ⟨wd_509, ⟨by decide +kernel, by decide +kernel, by decide +kernel⟩, by decide, by decide, by decide +kernel⟩
theorem mo_83 : ax_mOk 83 0 := ⟨wd_506, ⟨by decide +kernel, by decide +kernel, by decide +kernel⟩, by decide, by decide, by decide +kernel⟩
theorem mo_84 : ax_mOk 84 1 := ⟨wd_534, ⟨by decide +kernel, by decide +kernel, by decide +kernel⟩, by decide, by decide, by decide +kernel⟩
theorem mo_85 : ax_mOk 85 1 := ⟨wd_538, ⟨by decide +kernel, by decide +kernel, by decide +kernel⟩, by decide, by decide, by decide +kernel⟩
theorem mo_86 : ax_mOk 86 1 := ⟨wd_542, ⟨by decide +kernel, by decide +kernel, by decide +kernel⟩, by decide, by decide, by decide +kernel⟩
theorem mo_87 : ax_mOk 87 0 := ⟨wd_530, ⟨by decide +kernel, by decide +kernel, by decide +kernel⟩, by decide, by decide, by decide +kernel⟩
theorem mo_88 : ax_mOk 88 2 := ⟨wd_554, ⟨by decide +kernel, by decide +kernel, by decide +kernel⟩, by decide, by decide, by decide +kernel⟩
theorem mo_89 : ax_mOk 89 2 := ⟨wd_558, ⟨by decide +kernel, by decide +kernel, by decide +kernel⟩, by decide, by decide, by decide +kernel⟩
theorem mo_90 : ax_mOk 90 2 := ⟨wd_566, ⟨by decide +kernel, by decide +kernel, by decide +kernel⟩, by decide, by decide, by decide +kernel⟩
theorem mo_91 : ax_mOk 91 2 := ⟨wd_550, ⟨by decide +kernel, by decide +kernel, by decide +kernel⟩, by decide, by decide, by decide +kernel⟩
theorem mo_92 : ax_mOk 92 2 := ⟨wd_562, ⟨by decide +kernel, by decide +kernel, by decide +kernel⟩, by decide, by decide, by decide +kernel⟩
theorem mo_93 : ax_mOk 93 0 := ⟨wd_546, ⟨by decide +kernel, by decide +kernel, by decide +kernel⟩, by decide, by decide, by decide +kernel⟩
theorem mo_94 : ax_mOk 94 0 := ⟨wd_502, ⟨by decide +kernel, by decide +kernel, by decide +kernel⟩, by decide, by decide, by decide +kernel⟩
theorem mo_95 : ax_mOk 95 1 := ⟨wd_577, ⟨by decide +kernel, by decide +kernel, by decide +kernel⟩, by decide, by decide, by decide +kernel⟩
theorem mo_96 : ax_mOk 96 0 := ⟨wd_570, ⟨by decide +kernel, by decide +kernel, by decide +kernel⟩, by decide, by decide, by decide +kernel⟩
theorem mo_97 : ax_mOk 97 1 := ⟨wd_574, ⟨by decide +kernel, by decide +kernel, by decide +kernel⟩, by decide, by decide, by decide +kernel⟩
theorem mo_98 : ax_mOk 98 2 := ⟨wd_581, ⟨by decide +kernel, by decide +kernel, by decide +kernel⟩, by decide, by decide, by decide +kernel⟩
theorem mo_99 : ax_mOk 99 2 := ⟨wd_593, ⟨by decide +kernel, by decide +kernel, by decide +kernel⟩, by decide, by decide, by decide +kernel⟩
theorem mo_100 : ax_mOk 100 3 := ⟨wd_597, ⟨by decide +kernel, by decide +kernel, by decide +kernel⟩, by decide, by decide, by decide +kernel⟩
theorem mo_101 : ax_mOk 101 2 := ⟨wd_589, ⟨by decide +kernel, by decide +kernel, by decide +kernel⟩, by decide, by decide, by decide +kernel⟩
theorem mo_102 : ax_mOk 102 0 := ⟨wd_585, ⟨by decide +kernel, by decide +kernel, by decide +kernel⟩, by decide, by decide, by decide +kernel⟩
theorem mo_103 : ax_mOk 103 1 := ⟨wd_601, ⟨by decide +kernel, by decide +kernel, by decide +kernel⟩, by decide, by decide, by decide +kernel⟩
theorem mo_104 : ax_mOk 104 1 := ⟨wd_605, ⟨by decide +kernel, by decide +kernel, by decide +kernel⟩, by decide, by decide, by decide +kernel⟩
theorem mo_105 : ax_mOk 105 2 := ⟨wd_614, ⟨by decide +kernel, by decide +kernel, by decide +kernel⟩, by decide, by decide, by decide +kernel⟩
theorem mo_106 : ax_mOk 106 2 := ⟨wd_610, ⟨by decide +kernel, by decide +kernel, by decide +kernel⟩, by decide, by decide, by decide +kernel⟩
theorem mo_107 : ax_mOk 107 2 := ⟨wd_618, ⟨by decide +kernel, by decide +kernel, by decide +kernel⟩, by decide, by decide, by decide +kernel⟩
theorem mo_108 : ax_mOk 108 1 := ⟨wd_624, ⟨by decide +kernel, by decide +kernel, by decide +kernel⟩, by decide, by decide, by decide +kernel⟩
theorem mo_109 : ax_mOk 109 2 := ⟨wd_628, ⟨by decide +kernel, by decide +kernel, by decide +kernel⟩, by decide, by decide, by decide +kernel⟩
theorem mo_110 : ax_mOk 110 3 := ⟨wd_632, ⟨by decide +kernel, by decide +kernel, by decide +kernel⟩, by decide, by decide, by decide +kernel⟩
theorem mo_111 : ax_mOk 111 0 := ⟨wd_637, ⟨by decide +kernel, by decide +kernel, by decide +kernel⟩, by decide, by decide, by decide +kernel⟩
theorem mo_112 : ax_mOk 112 1 := ⟨wd_645, ⟨by decide +kernel, by decide +kernel, by decide +kernel⟩, by decide, by decide, by decide +kernel⟩
theorem mo_113 : ax_mOk 113 0 := ⟨wd_641, ⟨by decide +kernel, by decide +kernel, by decide +kernel⟩, by decide, by decide, by decide +kernel⟩
theorem mo_114 : ax_mOk 114 0 := ⟨wd_650, ⟨by decide +kernel, by decide +kernel, by decide +kernel⟩, by decide, by decide, by decide +kernel⟩
end
