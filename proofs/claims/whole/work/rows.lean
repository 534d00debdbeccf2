section
-- ===== PART A: goes FIRST, ahead of the names: the tables' words, and 'selects' of the private methods out of them =====
/-- a private method of a class that the tables say can be made, by its rows of tables_1 -/
def lw_okq (q : MethodName × Nat) : Prop := (q.1.cls ≠ "java/lang/invoke/MethodHandle" ∧ q.1.cls ≠ "java/lang/invoke/VarHandle") ∧ Cond.instantiable q.1.cls q.2 ∈ tables_1 ∧ Cond.privateMethod q.1 ∈ tables_1 ∧ Cond.instanceMethod q.1 ∈ tables_1
theorem lw_p0 : lw_okq (⟨"RoomWarden", "tell", "(I)I"⟩, 8) := ⟨⟨by decide +kernel, by decide +kernel⟩, List.mem_of_getElem? (i := 13) (by decide +kernel), List.mem_of_getElem? (i := 193) (by decide +kernel), List.mem_of_getElem? (i := 194) (by decide +kernel)⟩
theorem lw_p1 : lw_okq (⟨"RoomWarden", "keeperOf", "(I)LRoomWarden$Keeper;"⟩, 8) := ⟨⟨by decide +kernel, by decide +kernel⟩, List.mem_of_getElem? (i := 13) (by decide +kernel), List.mem_of_getElem? (i := 225) (by decide +kernel), List.mem_of_getElem? (i := 226) (by decide +kernel)⟩
theorem lw_p2 : lw_okq (⟨"RoomWarden$BuddyKeeper", "leastFree", "(II)I"⟩, 1) := ⟨⟨by decide +kernel, by decide +kernel⟩, List.mem_of_getElem? (i := 148) (by decide +kernel), List.mem_of_getElem? (i := 267) (by decide +kernel), List.mem_of_getElem? (i := 268) (by decide +kernel)⟩
theorem lw_p3 : lw_okq (⟨"RoomWarden$BuddyKeeper", "partOff", "(III)I"⟩, 1) := ⟨⟨by decide +kernel, by decide +kernel⟩, List.mem_of_getElem? (i := 148) (by decide +kernel), List.mem_of_getElem? (i := 308) (by decide +kernel), List.mem_of_getElem? (i := 309) (by decide +kernel)⟩
theorem lw_p4 : lw_okq (⟨"RoomWarden$RowKeeper", "aside", "(I)I"⟩, 1) := ⟨⟨by decide +kernel, by decide +kernel⟩, List.mem_of_getElem? (i := 156) (by decide +kernel), List.mem_of_getElem? (i := 315) (by decide +kernel), List.mem_of_getElem? (i := 316) (by decide +kernel)⟩
theorem lw_p5 : lw_okq (⟨"RoomWarden$RowKeeper", "choose", "(II)I"⟩, 1) := ⟨⟨by decide +kernel, by decide +kernel⟩, List.mem_of_getElem? (i := 156) (by decide +kernel), List.mem_of_getElem? (i := 320) (by decide +kernel), List.mem_of_getElem? (i := 321) (by decide +kernel)⟩
theorem lw_p6 : lw_okq (⟨"RoomWarden$RowKeeper", "isBetter", "(III)Z"⟩, 1) := ⟨⟨by decide +kernel, by decide +kernel⟩, List.mem_of_getElem? (i := 156) (by decide +kernel), List.mem_of_getElem? (i := 326) (by decide +kernel), List.mem_of_getElem? (i := 327) (by decide +kernel)⟩
theorem lw_p7 : lw_okq (⟨"RoomWarden$RowKeeper", "bringPages", "(II)Z"⟩, 1) := ⟨⟨by decide +kernel, by decide +kernel⟩, List.mem_of_getElem? (i := 156) (by decide +kernel), List.mem_of_getElem? (i := 332) (by decide +kernel), List.mem_of_getElem? (i := 333) (by decide +kernel)⟩
theorem lw_p8 : lw_okq (⟨"RoomWarden$RowKeeper", "joinTouching", "(I)V"⟩, 1) := ⟨⟨by decide +kernel, by decide +kernel⟩, List.mem_of_getElem? (i := 156) (by decide +kernel), List.mem_of_getElem? (i := 338) (by decide +kernel), List.mem_of_getElem? (i := 339) (by decide +kernel)⟩
theorem lw_p9 : lw_okq (⟨"RoomWarden$SlabKeeper", "lowestFree", "(I)I"⟩, 1) := ⟨⟨by decide +kernel, by decide +kernel⟩, List.mem_of_getElem? (i := 129) (by decide +kernel), List.mem_of_getElem? (i := 345) (by decide +kernel), List.mem_of_getElem? (i := 346) (by decide +kernel)⟩
theorem lw_p10 : lw_okq (⟨"RoomWarden$SlabKeeper", "markSlots", "(III)V"⟩, 1) := ⟨⟨by decide +kernel, by decide +kernel⟩, List.mem_of_getElem? (i := 129) (by decide +kernel), List.mem_of_getElem? (i := 354) (by decide +kernel), List.mem_of_getElem? (i := 355) (by decide +kernel)⟩
theorem lw_p11 : lw_okq (⟨"RoomWarden$BuddyKeeper", "joinPairs", "(I)V"⟩, 1) := ⟨⟨by decide +kernel, by decide +kernel⟩, List.mem_of_getElem? (i := 148) (by decide +kernel), List.mem_of_getElem? (i := 395) (by decide +kernel), List.mem_of_getElem? (i := 396) (by decide +kernel)⟩
theorem lw_p12 : lw_okq (⟨"RoomWarden$RowKeeper", "letGoPages", "(II)V"⟩, 1) := ⟨⟨by decide +kernel, by decide +kernel⟩, List.mem_of_getElem? (i := 156) (by decide +kernel), List.mem_of_getElem? (i := 403) (by decide +kernel), List.mem_of_getElem? (i := 404) (by decide +kernel)⟩
theorem lw_p13 : lw_okq (⟨"RoomWarden$SlabKeeper", "isWhollyFree", "(II)Z"⟩, 1) := ⟨⟨by decide +kernel, by decide +kernel⟩, List.mem_of_getElem? (i := 129) (by decide +kernel), List.mem_of_getElem? (i := 410) (by decide +kernel), List.mem_of_getElem? (i := 411) (by decide +kernel)⟩
theorem lw_p14 : lw_okq (⟨"RoomWarden$Room", "areThere", "(II)Z"⟩, 13) := ⟨⟨by decide +kernel, by decide +kernel⟩, List.mem_of_getElem? (i := 21) (by decide +kernel), List.mem_of_getElem? (i := 443) (by decide +kernel), List.mem_of_getElem? (i := 444) (by decide +kernel)⟩
theorem lw_p15 : lw_okq (⟨"RoomWarden$RowKeeper", "freeBehind", "(I)I"⟩, 1) := ⟨⟨by decide +kernel, by decide +kernel⟩, List.mem_of_getElem? (i := 156) (by decide +kernel), List.mem_of_getElem? (i := 460) (by decide +kernel), List.mem_of_getElem? (i := 461) (by decide +kernel)⟩
def lw_privs_1 : List (MethodName × Nat) := [(⟨"RoomWarden", "tell", "(I)I"⟩, 8), (⟨"RoomWarden", "keeperOf", "(I)LRoomWarden$Keeper;"⟩, 8), (⟨"RoomWarden$BuddyKeeper", "leastFree", "(II)I"⟩, 1), (⟨"RoomWarden$BuddyKeeper", "partOff", "(III)I"⟩, 1), (⟨"RoomWarden$RowKeeper", "aside", "(I)I"⟩, 1), (⟨"RoomWarden$RowKeeper", "choose", "(II)I"⟩, 1), (⟨"RoomWarden$RowKeeper", "isBetter", "(III)Z"⟩, 1), (⟨"RoomWarden$RowKeeper", "bringPages", "(II)Z"⟩, 1), (⟨"RoomWarden$RowKeeper", "joinTouching", "(I)V"⟩, 1), (⟨"RoomWarden$SlabKeeper", "lowestFree", "(I)I"⟩, 1), (⟨"RoomWarden$SlabKeeper", "markSlots", "(III)V"⟩, 1), (⟨"RoomWarden$BuddyKeeper", "joinPairs", "(I)V"⟩, 1), (⟨"RoomWarden$RowKeeper", "letGoPages", "(II)V"⟩, 1), (⟨"RoomWarden$SlabKeeper", "isWhollyFree", "(II)Z"⟩, 1), (⟨"RoomWarden$Room", "areThere", "(II)Z"⟩, 13), (⟨"RoomWarden$RowKeeper", "freeBehind", "(I)I"⟩, 1)]
theorem lw_r1 : ∀ q ∈ lw_privs_1, lw_okq q := List.forall_mem_cons.mpr ⟨lw_p0, List.forall_mem_cons.mpr ⟨lw_p1, List.forall_mem_cons.mpr ⟨lw_p2, List.forall_mem_cons.mpr ⟨lw_p3, List.forall_mem_cons.mpr ⟨lw_p4, List.forall_mem_cons.mpr ⟨lw_p5, List.forall_mem_cons.mpr ⟨lw_p6, List.forall_mem_cons.mpr ⟨lw_p7, List.forall_mem_cons.mpr ⟨lw_p8, List.forall_mem_cons.mpr ⟨lw_p9, List.forall_mem_cons.mpr ⟨lw_p10, List.forall_mem_cons.mpr ⟨lw_p11, List.forall_mem_cons.mpr ⟨lw_p12, List.forall_mem_cons.mpr ⟨lw_p13, List.forall_mem_cons.mpr ⟨lw_p14, List.forall_mem_cons.mpr ⟨lw_p15, fun _ h => absurd h List.not_mem_nil⟩⟩⟩⟩⟩⟩⟩⟩⟩⟩⟩⟩⟩⟩⟩⟩
theorem lw_p16 : lw_okq (⟨"RoomWarden", "resize", "(LRoomWarden$Keeper;II)V"⟩, 8) := ⟨⟨by decide +kernel, by decide +kernel⟩, List.mem_of_getElem? (i := 13) (by decide +kernel), List.mem_of_getElem? (i := 467) (by decide +kernel), List.mem_of_getElem? (i := 468) (by decide +kernel)⟩
theorem lw_p17 : lw_okq (⟨"RoomWarden$Chart", "lookAt", "(I)V"⟩, 8) := ⟨⟨by decide +kernel, by decide +kernel⟩, List.mem_of_getElem? (i := 95) (by decide +kernel), List.mem_of_getElem? (i := 562) (by decide +kernel), List.mem_of_getElem? (i := 563) (by decide +kernel)⟩
theorem lw_p18 : lw_okq (⟨"RoomWarden$Chart", "addPart", "(II)V"⟩, 8) := ⟨⟨by decide +kernel, by decide +kernel⟩, List.mem_of_getElem? (i := 95) (by decide +kernel), List.mem_of_getElem? (i := 567) (by decide +kernel), List.mem_of_getElem? (i := 568) (by decide +kernel)⟩
theorem lw_p19 : lw_okq (⟨"RoomWarden$Chart", "addRowParts", "(II)V"⟩, 8) := ⟨⟨by decide +kernel, by decide +kernel⟩, List.mem_of_getElem? (i := 95) (by decide +kernel), List.mem_of_getElem? (i := 574) (by decide +kernel), List.mem_of_getElem? (i := 575) (by decide +kernel)⟩
theorem lw_p20 : lw_okq (⟨"RoomWarden$Chart", "partWith", "(I)I"⟩, 8) := ⟨⟨by decide +kernel, by decide +kernel⟩, List.mem_of_getElem? (i := 95) (by decide +kernel), List.mem_of_getElem? (i := 579) (by decide +kernel), List.mem_of_getElem? (i := 580) (by decide +kernel)⟩
theorem lw_p21 : lw_okq (⟨"RoomWarden$Chart", "goToPart", "(I)V"⟩, 8) := ⟨⟨by decide +kernel, by decide +kernel⟩, List.mem_of_getElem? (i := 95) (by decide +kernel), List.mem_of_getElem? (i := 583) (by decide +kernel), List.mem_of_getElem? (i := 584) (by decide +kernel)⟩
theorem lw_p22 : lw_okq (⟨"RoomWardenModel", "answer", "(I)I"⟩, 43) := ⟨⟨by decide +kernel, by decide +kernel⟩, List.mem_of_getElem? (i := 682) (by decide +kernel), List.mem_of_getElem? (i := 823) (by decide +kernel), List.mem_of_getElem? (i := 824) (by decide +kernel)⟩
theorem lw_p23 : lw_okq (⟨"RoomWardenModel", "isZone", "(I)Z"⟩, 43) := ⟨⟨by decide +kernel, by decide +kernel⟩, List.mem_of_getElem? (i := 682) (by decide +kernel), List.mem_of_getElem? (i := 840) (by decide +kernel), List.mem_of_getElem? (i := 841) (by decide +kernel)⟩
theorem lw_p24 : lw_okq (⟨"RoomWardenModel", "most", "(I)I"⟩, 43) := ⟨⟨by decide +kernel, by decide +kernel⟩, List.mem_of_getElem? (i := 682) (by decide +kernel), List.mem_of_getElem? (i := 844) (by decide +kernel), List.mem_of_getElem? (i := 845) (by decide +kernel)⟩
theorem lw_p25 : lw_okq (⟨"RoomWardenModel", "taken", "(II)I"⟩, 43) := ⟨⟨by decide +kernel, by decide +kernel⟩, List.mem_of_getElem? (i := 682) (by decide +kernel), List.mem_of_getElem? (i := 848) (by decide +kernel), List.mem_of_getElem? (i := 849) (by decide +kernel)⟩
theorem lw_p26 : lw_okq (⟨"RoomWardenModel", "named", "(II)I"⟩, 43) := ⟨⟨by decide +kernel, by decide +kernel⟩, List.mem_of_getElem? (i := 682) (by decide +kernel), List.mem_of_getElem? (i := 852) (by decide +kernel), List.mem_of_getElem? (i := 853) (by decide +kernel)⟩
theorem lw_p27 : lw_okq (⟨"RoomWardenModel", "need", "(II)I"⟩, 43) := ⟨⟨by decide +kernel, by decide +kernel⟩, List.mem_of_getElem? (i := 682) (by decide +kernel), List.mem_of_getElem? (i := 859) (by decide +kernel), List.mem_of_getElem? (i := 860) (by decide +kernel)⟩
theorem lw_p28 : lw_okq (⟨"RoomWardenModel", "isFreeAt", "(II)Z"⟩, 43) := ⟨⟨by decide +kernel, by decide +kernel⟩, List.mem_of_getElem? (i := 682) (by decide +kernel), List.mem_of_getElem? (i := 863) (by decide +kernel), List.mem_of_getElem? (i := 864) (by decide +kernel)⟩
theorem lw_p29 : lw_okq (⟨"RoomWardenModel", "isOf", "(II)Z"⟩, 43) := ⟨⟨by decide +kernel, by decide +kernel⟩, List.mem_of_getElem? (i := 682) (by decide +kernel), List.mem_of_getElem? (i := 867) (by decide +kernel), List.mem_of_getElem? (i := 868) (by decide +kernel)⟩
theorem lw_p30 : lw_okq (⟨"RoomWardenModel", "freePages", "(I)I"⟩, 43) := ⟨⟨by decide +kernel, by decide +kernel⟩, List.mem_of_getElem? (i := 682) (by decide +kernel), List.mem_of_getElem? (i := 871) (by decide +kernel), List.mem_of_getElem? (i := 872) (by decide +kernel)⟩
theorem lw_p31 : lw_okq (⟨"RoomWardenModel", "comePages", "(III)V"⟩, 43) := ⟨⟨by decide +kernel, by decide +kernel⟩, List.mem_of_getElem? (i := 682) (by decide +kernel), List.mem_of_getElem? (i := 875) (by decide +kernel), List.mem_of_getElem? (i := 876) (by decide +kernel)⟩
def lw_privs_2 : List (MethodName × Nat) := [(⟨"RoomWarden", "resize", "(LRoomWarden$Keeper;II)V"⟩, 8), (⟨"RoomWarden$Chart", "lookAt", "(I)V"⟩, 8), (⟨"RoomWarden$Chart", "addPart", "(II)V"⟩, 8), (⟨"RoomWarden$Chart", "addRowParts", "(II)V"⟩, 8), (⟨"RoomWarden$Chart", "partWith", "(I)I"⟩, 8), (⟨"RoomWarden$Chart", "goToPart", "(I)V"⟩, 8), (⟨"RoomWardenModel", "answer", "(I)I"⟩, 43), (⟨"RoomWardenModel", "isZone", "(I)Z"⟩, 43), (⟨"RoomWardenModel", "most", "(I)I"⟩, 43), (⟨"RoomWardenModel", "taken", "(II)I"⟩, 43), (⟨"RoomWardenModel", "named", "(II)I"⟩, 43), (⟨"RoomWardenModel", "need", "(II)I"⟩, 43), (⟨"RoomWardenModel", "isFreeAt", "(II)Z"⟩, 43), (⟨"RoomWardenModel", "isOf", "(II)Z"⟩, 43), (⟨"RoomWardenModel", "freePages", "(I)I"⟩, 43), (⟨"RoomWardenModel", "comePages", "(III)V"⟩, 43)]
theorem lw_r2 : ∀ q ∈ lw_privs_2, lw_okq q := List.forall_mem_cons.mpr ⟨lw_p16, List.forall_mem_cons.mpr ⟨lw_p17, List.forall_mem_cons.mpr ⟨lw_p18, List.forall_mem_cons.mpr ⟨lw_p19, List.forall_mem_cons.mpr ⟨lw_p20, List.forall_mem_cons.mpr ⟨lw_p21, List.forall_mem_cons.mpr ⟨lw_p22, List.forall_mem_cons.mpr ⟨lw_p23, List.forall_mem_cons.mpr ⟨lw_p24, List.forall_mem_cons.mpr ⟨lw_p25, List.forall_mem_cons.mpr ⟨lw_p26, List.forall_mem_cons.mpr ⟨lw_p27, List.forall_mem_cons.mpr ⟨lw_p28, List.forall_mem_cons.mpr ⟨lw_p29, List.forall_mem_cons.mpr ⟨lw_p30, List.forall_mem_cons.mpr ⟨lw_p31, fun _ h => absurd h List.not_mem_nil⟩⟩⟩⟩⟩⟩⟩⟩⟩⟩⟩⟩⟩⟩⟩⟩
theorem lw_p32 : lw_okq (⟨"RoomWardenModel", "join", "(II)V"⟩, 43) := ⟨⟨by decide +kernel, by decide +kernel⟩, List.mem_of_getElem? (i := 682) (by decide +kernel), List.mem_of_getElem? (i := 879) (by decide +kernel), List.mem_of_getElem? (i := 880) (by decide +kernel)⟩
theorem lw_p33 : lw_okq (⟨"RoomWardenModel", "ahead", "(II)I"⟩, 43) := ⟨⟨by decide +kernel, by decide +kernel⟩, List.mem_of_getElem? (i := 682) (by decide +kernel), List.mem_of_getElem? (i := 883) (by decide +kernel), List.mem_of_getElem? (i := 884) (by decide +kernel)⟩
theorem lw_p34 : lw_okq (⟨"RoomWardenModel", "cut", "(II)V"⟩, 43) := ⟨⟨by decide +kernel, by decide +kernel⟩, List.mem_of_getElem? (i := 682) (by decide +kernel), List.mem_of_getElem? (i := 887) (by decide +kernel), List.mem_of_getElem? (i := 888) (by decide +kernel)⟩
theorem lw_p35 : lw_okq (⟨"RoomWardenModel", "have", "(IIII)V"⟩, 43) := ⟨⟨by decide +kernel, by decide +kernel⟩, List.mem_of_getElem? (i := 682) (by decide +kernel), List.mem_of_getElem? (i := 891) (by decide +kernel), List.mem_of_getElem? (i := 892) (by decide +kernel)⟩
theorem lw_p36 : lw_okq (⟨"RoomWardenModel", "guard", "(I)V"⟩, 43) := ⟨⟨by decide +kernel, by decide +kernel⟩, List.mem_of_getElem? (i := 682) (by decide +kernel), List.mem_of_getElem? (i := 895) (by decide +kernel), List.mem_of_getElem? (i := 896) (by decide +kernel)⟩
theorem lw_p37 : lw_okq (⟨"RoomWardenModel", "settle", "()V"⟩, 43) := ⟨⟨by decide +kernel, by decide +kernel⟩, List.mem_of_getElem? (i := 682) (by decide +kernel), List.mem_of_getElem? (i := 899) (by decide +kernel), List.mem_of_getElem? (i := 900) (by decide +kernel)⟩
theorem lw_p38 : lw_okq (⟨"RoomWardenModel", "isWhollyFree", "(I)Z"⟩, 43) := ⟨⟨by decide +kernel, by decide +kernel⟩, List.mem_of_getElem? (i := 682) (by decide +kernel), List.mem_of_getElem? (i := 903) (by decide +kernel), List.mem_of_getElem? (i := 904) (by decide +kernel)⟩
theorem lw_p39 : lw_okq (⟨"RoomWardenModel", "pieceAt", "(I)I"⟩, 43) := ⟨⟨by decide +kernel, by decide +kernel⟩, List.mem_of_getElem? (i := 682) (by decide +kernel), List.mem_of_getElem? (i := 907) (by decide +kernel), List.mem_of_getElem? (i := 908) (by decide +kernel)⟩
theorem lw_p40 : lw_okq (⟨"RoomWardenModel", "goBack", "(I)V"⟩, 43) := ⟨⟨by decide +kernel, by decide +kernel⟩, List.mem_of_getElem? (i := 682) (by decide +kernel), List.mem_of_getElem? (i := 911) (by decide +kernel), List.mem_of_getElem? (i := 912) (by decide +kernel)⟩
theorem lw_p41 : lw_okq (⟨"RoomWardenModel", "look", "(I)I"⟩, 43) := ⟨⟨by decide +kernel, by decide +kernel⟩, List.mem_of_getElem? (i := 682) (by decide +kernel), List.mem_of_getElem? (i := 919) (by decide +kernel), List.mem_of_getElem? (i := 920) (by decide +kernel)⟩
theorem lw_p42 : lw_okq (⟨"RoomWardenModel", "spoilt", "(I)I"⟩, 43) := ⟨⟨by decide +kernel, by decide +kernel⟩, List.mem_of_getElem? (i := 682) (by decide +kernel), List.mem_of_getElem? (i := 923) (by decide +kernel), List.mem_of_getElem? (i := 924) (by decide +kernel)⟩
theorem lw_p43 : lw_okq (⟨"RoomWardenModel", "release", "(II)V"⟩, 43) := ⟨⟨by decide +kernel, by decide +kernel⟩, List.mem_of_getElem? (i := 682) (by decide +kernel), List.mem_of_getElem? (i := 927) (by decide +kernel), List.mem_of_getElem? (i := 928) (by decide +kernel)⟩
theorem lw_p44 : lw_okq (⟨"RoomWardenModel", "joinPairs", "(II)V"⟩, 43) := ⟨⟨by decide +kernel, by decide +kernel⟩, List.mem_of_getElem? (i := 682) (by decide +kernel), List.mem_of_getElem? (i := 931) (by decide +kernel), List.mem_of_getElem? (i := 932) (by decide +kernel)⟩
theorem lw_p45 : lw_okq (⟨"RoomWardenModel", "grows", "(II)Z"⟩, 43) := ⟨⟨by decide +kernel, by decide +kernel⟩, List.mem_of_getElem? (i := 682) (by decide +kernel), List.mem_of_getElem? (i := 940) (by decide +kernel), List.mem_of_getElem? (i := 941) (by decide +kernel)⟩
theorem lw_p46 : lw_okq (⟨"RoomWardenModel", "firstOf", "(II)I"⟩, 43) := ⟨⟨by decide +kernel, by decide +kernel⟩, List.mem_of_getElem? (i := 682) (by decide +kernel), List.mem_of_getElem? (i := 944) (by decide +kernel), List.mem_of_getElem? (i := 945) (by decide +kernel)⟩
theorem lw_p47 : lw_okq (⟨"RoomWardenModel", "lookAt", "(II)I"⟩, 43) := ⟨⟨by decide +kernel, by decide +kernel⟩, List.mem_of_getElem? (i := 682) (by decide +kernel), List.mem_of_getElem? (i := 956) (by decide +kernel), List.mem_of_getElem? (i := 957) (by decide +kernel)⟩
def lw_privs_3 : List (MethodName × Nat) := [(⟨"RoomWardenModel", "join", "(II)V"⟩, 43), (⟨"RoomWardenModel", "ahead", "(II)I"⟩, 43), (⟨"RoomWardenModel", "cut", "(II)V"⟩, 43), (⟨"RoomWardenModel", "have", "(IIII)V"⟩, 43), (⟨"RoomWardenModel", "guard", "(I)V"⟩, 43), (⟨"RoomWardenModel", "settle", "()V"⟩, 43), (⟨"RoomWardenModel", "isWhollyFree", "(I)Z"⟩, 43), (⟨"RoomWardenModel", "pieceAt", "(I)I"⟩, 43), (⟨"RoomWardenModel", "goBack", "(I)V"⟩, 43), (⟨"RoomWardenModel", "look", "(I)I"⟩, 43), (⟨"RoomWardenModel", "spoilt", "(I)I"⟩, 43), (⟨"RoomWardenModel", "release", "(II)V"⟩, 43), (⟨"RoomWardenModel", "joinPairs", "(II)V"⟩, 43), (⟨"RoomWardenModel", "grows", "(II)Z"⟩, 43), (⟨"RoomWardenModel", "firstOf", "(II)I"⟩, 43), (⟨"RoomWardenModel", "lookAt", "(II)I"⟩, 43)]
theorem lw_r3 : ∀ q ∈ lw_privs_3, lw_okq q := List.forall_mem_cons.mpr ⟨lw_p32, List.forall_mem_cons.mpr ⟨lw_p33, List.forall_mem_cons.mpr ⟨lw_p34, List.forall_mem_cons.mpr ⟨lw_p35, List.forall_mem_cons.mpr ⟨lw_p36, List.forall_mem_cons.mpr ⟨lw_p37, List.forall_mem_cons.mpr ⟨lw_p38, List.forall_mem_cons.mpr ⟨lw_p39, List.forall_mem_cons.mpr ⟨lw_p40, List.forall_mem_cons.mpr ⟨lw_p41, List.forall_mem_cons.mpr ⟨lw_p42, List.forall_mem_cons.mpr ⟨lw_p43, List.forall_mem_cons.mpr ⟨lw_p44, List.forall_mem_cons.mpr ⟨lw_p45, List.forall_mem_cons.mpr ⟨lw_p46, List.forall_mem_cons.mpr ⟨lw_p47, fun _ h => absurd h List.not_mem_nil⟩⟩⟩⟩⟩⟩⟩⟩⟩⟩⟩⟩⟩⟩⟩⟩
theorem lw_p48 : lw_okq (⟨"RoomWardenModel", "firstNumber", "(I)I"⟩, 43) := ⟨⟨by decide +kernel, by decide +kernel⟩, List.mem_of_getElem? (i := 682) (by decide +kernel), List.mem_of_getElem? (i := 960) (by decide +kernel), List.mem_of_getElem? (i := 961) (by decide +kernel)⟩
theorem lw_p49 : lw_okq (⟨"RoomWardenModel", "go", "(II)V"⟩, 43) := ⟨⟨by decide +kernel, by decide +kernel⟩, List.mem_of_getElem? (i := 682) (by decide +kernel), List.mem_of_getElem? (i := 992) (by decide +kernel), List.mem_of_getElem? (i := 993) (by decide +kernel)⟩
theorem lw_p50 : lw_okq (⟨"RoomWardenModel", "entry", "(IIIII)V"⟩, 43) := ⟨⟨by decide +kernel, by decide +kernel⟩, List.mem_of_getElem? (i := 682) (by decide +kernel), List.mem_of_getElem? (i := 996) (by decide +kernel), List.mem_of_getElem? (i := 997) (by decide +kernel)⟩
theorem lw_p51 : lw_okq (⟨"RoomWardenModel", "slabEntries", "(II)V"⟩, 43) := ⟨⟨by decide +kernel, by decide +kernel⟩, List.mem_of_getElem? (i := 682) (by decide +kernel), List.mem_of_getElem? (i := 1000) (by decide +kernel), List.mem_of_getElem? (i := 1001) (by decide +kernel)⟩
theorem lw_p52 : lw_okq (⟨"RoomWardenModel", "pieceEntries", "(II)V"⟩, 43) := ⟨⟨by decide +kernel, by decide +kernel⟩, List.mem_of_getElem? (i := 682) (by decide +kernel), List.mem_of_getElem? (i := 1004) (by decide +kernel), List.mem_of_getElem? (i := 1005) (by decide +kernel)⟩
def lw_privs_4 : List (MethodName × Nat) := [(⟨"RoomWardenModel", "firstNumber", "(I)I"⟩, 43), (⟨"RoomWardenModel", "go", "(II)V"⟩, 43), (⟨"RoomWardenModel", "entry", "(IIIII)V"⟩, 43), (⟨"RoomWardenModel", "slabEntries", "(II)V"⟩, 43), (⟨"RoomWardenModel", "pieceEntries", "(II)V"⟩, 43)]
theorem lw_r4 : ∀ q ∈ lw_privs_4, lw_okq q := List.forall_mem_cons.mpr ⟨lw_p48, List.forall_mem_cons.mpr ⟨lw_p49, List.forall_mem_cons.mpr ⟨lw_p50, List.forall_mem_cons.mpr ⟨lw_p51, List.forall_mem_cons.mpr ⟨lw_p52, fun _ h => absurd h List.not_mem_nil⟩⟩⟩⟩⟩
def lw_privs : List (MethodName × Nat) := lw_privs_1 ++ (lw_privs_2 ++ (lw_privs_3 ++ (lw_privs_4)))
def lw_tbl : List Cond := k2_sels lw_privs ++ tables_1
theorem lw_privs_ok : ∀ q ∈ lw_privs, lw_okq q := by
  show ∀ q ∈ lw_privs_1 ++ (lw_privs_2 ++ (lw_privs_3 ++ (lw_privs_4))), lw_okq q
  exact List.forall_mem_append.mpr ⟨lw_r1, List.forall_mem_append.mpr ⟨lw_r2, List.forall_mem_append.mpr ⟨lw_r3, lw_r4⟩⟩⟩
def TT : List Cond := lw_tbl.filter goodWord
theorem tt_of {w : Cond} (i : Nat) (h : lw_tbl[i]? = some w) (g : goodWord w = true) : w ∈ TT := List.mem_filter.mpr ⟨List.mem_of_getElem? h, g⟩
theorem tt_lw : ∀ w ∈ TT, w ∈ lw_tbl := fun w h => (List.mem_filter.mp h).1
theorem tt_good : ∀ w ∈ TT, (w.onTables && w.keeps) = true ∨ ∃ ty, w = .arrayClass ty := fun w h => good_of_word (List.mem_filter.mp h).2
theorem tt_GoodIn {ws : List Cond} (h : ∀ w ∈ ws, w ∈ TT) : GoodIn TT ws := fun w hw => ⟨h w hw, tt_good w (h w hw)⟩
end
section
def RX0 : String := "RoomWarden$BuddyKeeper"
def TX0 : u_T := fun k => match k with
  | _ => ("RoomWarden$Keeper", "room", "LRoomWarden$Room;", true)
def tyX0 : Nat → FieldType := fun k => match k with
  | _ => .object "RoomWarden$Room"
theorem nmX0 : ∀ a, a < 1 → ∀ b, b < 1 → a ≠ b → (TX0 a).2.1 ≠ (TX0 b).2.1 := by decide +kernel
theorem tyX0_ok : ∀ k, k < 1 → parseFieldDescriptor (TX0 k).2.2.1 = some (tyX0 k) := by decide +kernel
abbrev cX0_init : ByteArray := prog_2_method_1_code
def yX0_init : MethodName := ⟨RX0, "<init>", "(LRoomWarden$Room;)V"⟩
abbrev cX0_mostOf : ByteArray := prog_2_method_2_code
def yX0_mostOf : MethodName := ⟨RX0, "mostOf", "(I)I"⟩
abbrev cX0_greatest : ByteArray := prog_2_method_3_code
def yX0_greatest : MethodName := ⟨RX0, "greatest", "(I)I"⟩
abbrev cX0_takePiece : ByteArray := prog_2_method_4_code
def yX0_takePiece : MethodName := ⟨RX0, "takePiece", "(II)I"⟩
abbrev cX0_fits : ByteArray := prog_2_method_5_code
def yX0_fits : MethodName := ⟨RX0, "fits", "(II)Z"⟩
abbrev cX0_reshape : ByteArray := prog_2_method_6_code
def yX0_reshape : MethodName := ⟨RX0, "reshape", "(II)V"⟩
abbrev cX0_tidy : ByteArray := prog_2_method_7_code
def yX0_tidy : MethodName := ⟨RX0, "tidy", "(I)V"⟩
abbrev cX0_leastFree : ByteArray := prog_2_method_8_code
def yX0_leastFree : MethodName := ⟨RX0, "leastFree", "(II)I"⟩
abbrev cX0_partOff : ByteArray := prog_2_method_9_code
def yX0_partOff : MethodName := ⟨RX0, "partOff", "(III)I"⟩
abbrev cX0_joinPairs : ByteArray := prog_2_method_10_code
def yX0_joinPairs : MethodName := ⟨RX0, "joinPairs", "(I)V"⟩
def RX1 : String := "RoomWarden$Chart"
def TX1 : u_T := fun k => match k with
  | 0 => ("RoomWarden$Chart", "room", "LRoomWarden$Room;", true)
  | 1 => ("RoomWarden$Chart", "partKind", "[I", true)
  | 2 => ("RoomWarden$Chart", "partLength", "[I", true)
  | 3 => ("RoomWarden$Chart", "parts", "I", false)
  | 4 => ("RoomWarden$Chart", "start", "I", false)
  | 5 => ("RoomWarden$Chart", "place", "I", false)
  | 6 => ("RoomWarden$Chart", "length", "I", false)
  | _ => ("RoomWarden$Chart", "kind", "I", false)
def tyX1 : Nat → FieldType := fun k => match k with
  | 0 => .object "RoomWarden$Room"
  | 1 => .array .int
  | 2 => .array .int
  | 3 => .int
  | 4 => .int
  | 5 => .int
  | 6 => .int
  | _ => .int
theorem nmX1 : ∀ a, a < 8 → ∀ b, b < 8 → a ≠ b → (TX1 a).2.1 ≠ (TX1 b).2.1 := by decide +kernel
theorem tyX1_ok : ∀ k, k < 8 → parseFieldDescriptor (TX1 k).2.2.1 = some (tyX1 k) := by decide +kernel
abbrev cX1_init : ByteArray := prog_3_method_1_code
def yX1_init : MethodName := ⟨RX1, "<init>", "(LRoomWarden$Room;)V"⟩
abbrev cX1_entries : ByteArray := prog_3_method_2_code
def yX1_entries : MethodName := ⟨RX1, "entries", "()I"⟩
abbrev cX1_seek : ByteArray := prog_3_method_3_code
def yX1_seek : MethodName := ⟨RX1, "seek", "(I)Z"⟩
abbrev cX1_kindAt : ByteArray := prog_3_method_4_code
def yX1_kindAt : MethodName := ⟨RX1, "kindAt", "(I)I"⟩
abbrev cX1_handle : ByteArray := prog_3_method_5_code
def yX1_handle : MethodName := ⟨RX1, "handle", "()I"⟩
abbrev cX1_zoneNumber : ByteArray := prog_3_method_6_code
def yX1_zoneNumber : MethodName := ⟨RX1, "zoneNumber", "()I"⟩
abbrev cX1_goToPart : ByteArray := prog_3_method_7_code
def yX1_goToPart : MethodName := ⟨RX1, "goToPart", "(I)V"⟩
abbrev cX1_partWith : ByteArray := prog_3_method_8_code
def yX1_partWith : MethodName := ⟨RX1, "partWith", "(I)I"⟩
abbrev cX1_addPart : ByteArray := prog_3_method_9_code
def yX1_addPart : MethodName := ⟨RX1, "addPart", "(II)V"⟩
abbrev cX1_lookAt : ByteArray := prog_3_method_10_code
def yX1_lookAt : MethodName := ⟨RX1, "lookAt", "(I)V"⟩
abbrev cX1_addRowParts : ByteArray := prog_3_method_11_code
def yX1_addRowParts : MethodName := ⟨RX1, "addRowParts", "(II)V"⟩
def RX2 : String := "RoomWarden$Keeper"
def TX2 : u_T := fun k => match k with
  | _ => ("", "", "", false)
def tyX2 : Nat → FieldType := fun k => match k with
  | _ => .int
theorem nmX2 : ∀ a, a < 0 → ∀ b, b < 0 → a ≠ b → (TX2 a).2.1 ≠ (TX2 b).2.1 := by decide +kernel
theorem tyX2_ok : ∀ k, k < 0 → parseFieldDescriptor (TX2 k).2.2.1 = some (tyX2 k) := by decide +kernel
abbrev cX2_init : ByteArray := prog_4_method_1_code
def yX2_init : MethodName := ⟨RX2, "<init>", "(LRoomWarden$Room;)V"⟩
def RX3 : String := "RoomWarden$Room"
def TX3 : u_T := fun k => match k with
  | 0 => ("RoomWarden$Room", "owner", "[I", true)
  | 1 => ("RoomWarden$Room", "numbers", "[J", true)
  | 2 => ("RoomWarden$Room", "piece", "[I", true)
  | 3 => ("RoomWarden$Room", "zoneKind", "[I", true)
  | 4 => ("RoomWarden$Room", "zoneBy", "[J", true)
  | 5 => ("RoomWarden$Room", "given", "[I", true)
  | 6 => ("RoomWarden$Room", "blockZone", "[I", true)
  | 7 => ("RoomWarden$Room", "blockPlace", "[I", true)
  | 8 => ("RoomWarden$Room", "blockLength", "[I", true)
  | 9 => ("RoomWarden$Room", "blockSize", "[I", true)
  | 10 => ("RoomWarden$Room", "held", "[I", true)
  | 11 => ("RoomWarden$Room", "pages", "I", false)
  | _ => ("RoomWarden$Room", "zones", "I", false)
def tyX3 : Nat → FieldType := fun k => match k with
  | 0 => .array .int
  | 1 => .array .long
  | 2 => .array .int
  | 3 => .array .int
  | 4 => .array .long
  | 5 => .array .int
  | 6 => .array .int
  | 7 => .array .int
  | 8 => .array .int
  | 9 => .array .int
  | 10 => .array .int
  | 11 => .int
  | _ => .int
theorem nmX3 : ∀ a, a < 13 → ∀ b, b < 13 → a ≠ b → (TX3 a).2.1 ≠ (TX3 b).2.1 := by decide +kernel
theorem tyX3_ok : ∀ k, k < 13 → parseFieldDescriptor (TX3 k).2.2.1 = some (tyX3 k) := by decide +kernel
abbrev cX3_init : ByteArray := prog_5_method_1_code
def yX3_init : MethodName := ⟨RX3, "<init>", "()V"⟩
abbrev cX3_beginAnew : ByteArray := prog_5_method_2_code
def yX3_beginAnew : MethodName := ⟨RX3, "beginAnew", "(I)V"⟩
abbrev cX3_become : ByteArray := prog_5_method_3_code
def yX3_become : MethodName := ⟨RX3, "become", "(LRoomWarden$Room;)V"⟩
abbrev cX3_places : ByteArray := prog_5_method_4_code
def yX3_places : MethodName := ⟨RX3, "places", "()I"⟩
abbrev cX3_ownerAt : ByteArray := prog_5_method_5_code
def yX3_ownerAt : MethodName := ⟨RX3, "ownerAt", "(I)I"⟩
abbrev cX3_pagesOf : ByteArray := prog_5_method_6_code
def yX3_pagesOf : MethodName := ⟨RX3, "pagesOf", "(I)I"⟩
abbrev cX3_freeRun : ByteArray := prog_5_method_7_code
def yX3_freeRun : MethodName := ⟨RX3, "freeRun", "(I)I"⟩
abbrev cX3_longestFreeRun : ByteArray := prog_5_method_8_code
def yX3_longestFreeRun : MethodName := ⟨RX3, "longestFreeRun", "()I"⟩
abbrev cX3_areThere : ByteArray := prog_5_method_9_code
def yX3_areThere : MethodName := ⟨RX3, "areThere", "(II)Z"⟩
abbrev cX3_numberAt : ByteArray := prog_5_method_10_code
def yX3_numberAt : MethodName := ⟨RX3, "numberAt", "(I)J"⟩
abbrev cX3_setNumber : ByteArray := prog_5_method_11_code
def yX3_setNumber : MethodName := ⟨RX3, "setNumber", "(IJ)V"⟩
abbrev cX3_setNumbers : ByteArray := prog_5_method_12_code
def yX3_setNumbers : MethodName := ⟨RX3, "setNumbers", "(IIJ)V"⟩
abbrev cX3_copyNumbers : ByteArray := prog_5_method_13_code
def yX3_copyNumbers : MethodName := ⟨RX3, "copyNumbers", "(III)V"⟩
abbrev cX3_pieceAt : ByteArray := prog_5_method_14_code
def yX3_pieceAt : MethodName := ⟨RX3, "pieceAt", "(I)I"⟩
abbrev cX3_mark : ByteArray := prog_5_method_15_code
def yX3_mark : MethodName := ⟨RX3, "mark", "(II)V"⟩
abbrev cX3_blockAt : ByteArray := prog_5_method_16_code
def yX3_blockAt : MethodName := ⟨RX3, "blockAt", "(I)I"⟩
abbrev cX3_freeAt : ByteArray := prog_5_method_17_code
def yX3_freeAt : MethodName := ⟨RX3, "freeAt", "(II)I"⟩
abbrev cX3_endOf : ByteArray := prog_5_method_18_code
def yX3_endOf : MethodName := ⟨RX3, "endOf", "(I)I"⟩
abbrev cX3_freePiecesOf : ByteArray := prog_5_method_19_code
def yX3_freePiecesOf : MethodName := ⟨RX3, "freePiecesOf", "(I)I"⟩
abbrev cX3_vacate : ByteArray := prog_5_method_20_code
def yX3_vacate : MethodName := ⟨RX3, "vacate", "(II)V"⟩
abbrev cX3_hasZone : ByteArray := prog_5_method_21_code
def yX3_hasZone : MethodName := ⟨RX3, "hasZone", "(I)Z"⟩
abbrev cX3_addZone : ByteArray := prog_5_method_22_code
def yX3_addZone : MethodName := ⟨RX3, "addZone", "(IJ)I"⟩
abbrev cX3_kindOf : ByteArray := prog_5_method_23_code
def yX3_kindOf : MethodName := ⟨RX3, "kindOf", "(I)I"⟩
abbrev cX3_classOf : ByteArray := prog_5_method_24_code
def yX3_classOf : MethodName := ⟨RX3, "classOf", "(I)I"⟩
abbrev cX3_isRowZone : ByteArray := prog_5_method_25_code
def yX3_isRowZone : MethodName := ⟨RX3, "isRowZone", "(I)Z"⟩
abbrev cX3_find : ByteArray := prog_5_method_26_code
def yX3_find : MethodName := ⟨RX3, "find", "(I)I"⟩
abbrev cX3_handleOf : ByteArray := prog_5_method_27_code
def yX3_handleOf : MethodName := ⟨RX3, "handleOf", "(I)I"⟩
abbrev cX3_lowestUnused : ByteArray := prog_5_method_28_code
def yX3_lowestUnused : MethodName := ⟨RX3, "lowestUnused", "()I"⟩
abbrev cX3_blocks : ByteArray := prog_5_method_29_code
def yX3_blocks : MethodName := ⟨RX3, "blocks", "()I"⟩
abbrev cX3_blocksOf : ByteArray := prog_5_method_30_code
def yX3_blocksOf : MethodName := ⟨RX3, "blocksOf", "(I)I"⟩
abbrev cX3_putBlock : ByteArray := prog_5_method_31_code
def yX3_putBlock : MethodName := ⟨RX3, "putBlock", "(IIII)V"⟩
abbrev cX3_moveBlock : ByteArray := prog_5_method_32_code
def yX3_moveBlock : MethodName := ⟨RX3, "moveBlock", "(III)V"⟩
abbrev cX3_firstNumber : ByteArray := prog_5_method_33_code
def yX3_firstNumber : MethodName := ⟨RX3, "firstNumber", "(I)I"⟩
abbrev cX3_hasNumbers : ByteArray := prog_5_method_34_code
def yX3_hasNumbers : MethodName := ⟨RX3, "hasNumbers", "(III)Z"⟩
abbrev cX3_isGuarded : ByteArray := prog_5_method_35_code
def yX3_isGuarded : MethodName := ⟨RX3, "isGuarded", "(I)Z"⟩
abbrev cX3_wordOf : ByteArray := prog_5_method_36_code
def yX3_wordOf : MethodName := ⟨RX3, "wordOf", "(I)J"⟩
abbrev cX3_firstWord : ByteArray := prog_5_method_37_code
def yX3_firstWord : MethodName := ⟨RX3, "firstWord", "(I)I"⟩
abbrev cX3_lastWord : ByteArray := prog_5_method_38_code
def yX3_lastWord : MethodName := ⟨RX3, "lastWord", "(I)I"⟩
abbrev cX3_setWords : ByteArray := prog_5_method_39_code
def yX3_setWords : MethodName := ⟨RX3, "setWords", "(IJ)V"⟩
abbrev cX3_spoiledWords : ByteArray := prog_5_method_40_code
def yX3_spoiledWords : MethodName := ⟨RX3, "spoiledWords", "(I)I"⟩
def RX4 : String := "RoomWarden$RowKeeper"
def TX4 : u_T := fun k => match k with
  | _ => ("RoomWarden$Keeper", "room", "LRoomWarden$Room;", true)
def tyX4 : Nat → FieldType := fun k => match k with
  | _ => .object "RoomWarden$Room"
theorem nmX4 : ∀ a, a < 1 → ∀ b, b < 1 → a ≠ b → (TX4 a).2.1 ≠ (TX4 b).2.1 := by decide +kernel
theorem tyX4_ok : ∀ k, k < 1 → parseFieldDescriptor (TX4 k).2.2.1 = some (tyX4 k) := by decide +kernel
abbrev cX4_init : ByteArray := prog_6_method_1_code
def yX4_init : MethodName := ⟨RX4, "<init>", "(LRoomWarden$Room;)V"⟩
abbrev cX4_mostOf : ByteArray := prog_6_method_2_code
def yX4_mostOf : MethodName := ⟨RX4, "mostOf", "(I)I"⟩
abbrev cX4_greatest : ByteArray := prog_6_method_3_code
def yX4_greatest : MethodName := ⟨RX4, "greatest", "(I)I"⟩
abbrev cX4_takePiece : ByteArray := prog_6_method_4_code
def yX4_takePiece : MethodName := ⟨RX4, "takePiece", "(II)I"⟩
abbrev cX4_fits : ByteArray := prog_6_method_5_code
def yX4_fits : MethodName := ⟨RX4, "fits", "(II)Z"⟩
abbrev cX4_reshape : ByteArray := prog_6_method_6_code
def yX4_reshape : MethodName := ⟨RX4, "reshape", "(II)V"⟩
abbrev cX4_tidy : ByteArray := prog_6_method_7_code
def yX4_tidy : MethodName := ⟨RX4, "tidy", "(I)V"⟩
abbrev cX4_aside : ByteArray := prog_6_method_8_code
def yX4_aside : MethodName := ⟨RX4, "aside", "(I)I"⟩
abbrev cX4_choose : ByteArray := prog_6_method_9_code
def yX4_choose : MethodName := ⟨RX4, "choose", "(II)I"⟩
abbrev cX4_isBetter : ByteArray := prog_6_method_10_code
def yX4_isBetter : MethodName := ⟨RX4, "isBetter", "(III)Z"⟩
abbrev cX4_bringPages : ByteArray := prog_6_method_11_code
def yX4_bringPages : MethodName := ⟨RX4, "bringPages", "(II)Z"⟩
abbrev cX4_freeBehind : ByteArray := prog_6_method_12_code
def yX4_freeBehind : MethodName := ⟨RX4, "freeBehind", "(I)I"⟩
abbrev cX4_joinTouching : ByteArray := prog_6_method_13_code
def yX4_joinTouching : MethodName := ⟨RX4, "joinTouching", "(I)V"⟩
abbrev cX4_letGoPages : ByteArray := prog_6_method_14_code
def yX4_letGoPages : MethodName := ⟨RX4, "letGoPages", "(II)V"⟩
def RX5 : String := "RoomWarden$SlabKeeper"
def TX5 : u_T := fun k => match k with
  | _ => ("RoomWarden$Keeper", "room", "LRoomWarden$Room;", true)
def tyX5 : Nat → FieldType := fun k => match k with
  | _ => .object "RoomWarden$Room"
theorem nmX5 : ∀ a, a < 1 → ∀ b, b < 1 → a ≠ b → (TX5 a).2.1 ≠ (TX5 b).2.1 := by decide +kernel
theorem tyX5_ok : ∀ k, k < 1 → parseFieldDescriptor (TX5 k).2.2.1 = some (tyX5 k) := by decide +kernel
abbrev cX5_init : ByteArray := prog_7_method_1_code
def yX5_init : MethodName := ⟨RX5, "<init>", "(LRoomWarden$Room;)V"⟩
abbrev cX5_mostOf : ByteArray := prog_7_method_2_code
def yX5_mostOf : MethodName := ⟨RX5, "mostOf", "(I)I"⟩
abbrev cX5_greatest : ByteArray := prog_7_method_3_code
def yX5_greatest : MethodName := ⟨RX5, "greatest", "(I)I"⟩
abbrev cX5_takePiece : ByteArray := prog_7_method_4_code
def yX5_takePiece : MethodName := ⟨RX5, "takePiece", "(II)I"⟩
abbrev cX5_fits : ByteArray := prog_7_method_5_code
def yX5_fits : MethodName := ⟨RX5, "fits", "(II)Z"⟩
abbrev cX5_reshape : ByteArray := prog_7_method_6_code
def yX5_reshape : MethodName := ⟨RX5, "reshape", "(II)V"⟩
abbrev cX5_tidy : ByteArray := prog_7_method_7_code
def yX5_tidy : MethodName := ⟨RX5, "tidy", "(I)V"⟩
abbrev cX5_lowestFree : ByteArray := prog_7_method_8_code
def yX5_lowestFree : MethodName := ⟨RX5, "lowestFree", "(I)I"⟩
abbrev cX5_markSlots : ByteArray := prog_7_method_9_code
def yX5_markSlots : MethodName := ⟨RX5, "markSlots", "(III)V"⟩
abbrev cX5_isWhollyFree : ByteArray := prog_7_method_10_code
def yX5_isWhollyFree : MethodName := ⟨RX5, "isWhollyFree", "(II)Z"⟩
def RX6 : String := "RoomWarden"
def TX6 : u_T := fun k => match k with
  | 0 => ("RoomWarden", "room", "LRoomWarden$Room;", true)
  | 1 => ("RoomWarden", "chart", "LRoomWarden$Chart;", true)
  | 2 => ("RoomWarden", "slabs", "LRoomWarden$Keeper;", true)
  | 3 => ("RoomWarden", "buddies", "LRoomWarden$Keeper;", true)
  | 4 => ("RoomWarden", "rows", "LRoomWarden$Keeper;", true)
  | 5 => ("RoomWarden", "answered", "[I", true)
  | 6 => ("RoomWarden", "kept", "LRoomWarden$Room;", false)
  | _ => ("RoomWarden", "theValue", "J", false)
def tyX6 : Nat → FieldType := fun k => match k with
  | 0 => .object "RoomWarden$Room"
  | 1 => .object "RoomWarden$Chart"
  | 2 => .object "RoomWarden$Keeper"
  | 3 => .object "RoomWarden$Keeper"
  | 4 => .object "RoomWarden$Keeper"
  | 5 => .array .int
  | 6 => .object "RoomWarden$Room"
  | _ => .long
theorem nmX6 : ∀ a, a < 8 → ∀ b, b < 8 → a ≠ b → (TX6 a).2.1 ≠ (TX6 b).2.1 := by decide +kernel
theorem tyX6_ok : ∀ k, k < 8 → parseFieldDescriptor (TX6 k).2.2.1 = some (tyX6 k) := by decide +kernel
abbrev cX6_init : ByteArray := prog_1_method_1_code
def yX6_init : MethodName := ⟨RX6, "<init>", "()V"⟩
abbrev cX6_open : ByteArray := prog_1_method_2_code
def yX6_open : MethodName := ⟨RX6, "open", "(I)I"⟩
abbrev cX6_page : ByteArray := prog_1_method_3_code
def yX6_page : MethodName := ⟨RX6, "page", "(IZ)I"⟩
abbrev cX6_zone : ByteArray := prog_1_method_4_code
def yX6_zone : MethodName := ⟨RX6, "zone", "(IJ)I"⟩
abbrev cX6_want : ByteArray := prog_1_method_5_code
def yX6_want : MethodName := ⟨RX6, "want", "(II)I"⟩
abbrev cX6_give : ByteArray := prog_1_method_6_code
def yX6_give : MethodName := ⟨RX6, "give", "(I)I"⟩
abbrev cX6_grow : ByteArray := prog_1_method_7_code
def yX6_grow : MethodName := ⟨RX6, "grow", "(II)I"⟩
abbrev cX6_shrink : ByteArray := prog_1_method_8_code
def yX6_shrink : MethodName := ⟨RX6, "shrink", "(II)I"⟩
abbrev cX6_write : ByteArray := prog_1_method_9_code
def yX6_write : MethodName := ⟨RX6, "write", "(IIJ)I"⟩
abbrev cX6_read : ByteArray := prog_1_method_10_code
def yX6_read : MethodName := ⟨RX6, "read", "(II)I"⟩
abbrev cX6_value : ByteArray := prog_1_method_11_code
def yX6_value : MethodName := ⟨RX6, "value", "()J"⟩
abbrev cX6_copy : ByteArray := prog_1_method_12_code
def yX6_copy : MethodName := ⟨RX6, "copy", "(IIIII)I"⟩
abbrev cX6_fill : ByteArray := prog_1_method_13_code
def yX6_fill : MethodName := ⟨RX6, "fill", "(IJ)I"⟩
abbrev cX6_block : ByteArray := prog_1_method_14_code
def yX6_block : MethodName := ⟨RX6, "block", "(II)I"⟩
abbrev cX6_spoil : ByteArray := prog_1_method_15_code
def yX6_spoil : MethodName := ⟨RX6, "spoil", "(IZJ)I"⟩
abbrev cX6_peek : ByteArray := prog_1_method_16_code
def yX6_peek : MethodName := ⟨RX6, "peek", "(I)I"⟩
abbrev cX6_largest : ByteArray := prog_1_method_17_code
def yX6_largest : MethodName := ⟨RX6, "largest", "(I)I"⟩
abbrev cX6_told : ByteArray := prog_1_method_18_code
def yX6_told : MethodName := ⟨RX6, "told", "(II)I"⟩
abbrev cX6_map : ByteArray := prog_1_method_19_code
def yX6_map : MethodName := ⟨RX6, "map", "(II)I"⟩
abbrev cX6_count : ByteArray := prog_1_method_20_code
def yX6_count : MethodName := ⟨RX6, "count", "(I)I"⟩
abbrev cX6_save : ByteArray := prog_1_method_21_code
def yX6_save : MethodName := ⟨RX6, "save", "()I"⟩
abbrev cX6_back : ByteArray := prog_1_method_22_code
def yX6_back : MethodName := ⟨RX6, "back", "()I"⟩
abbrev cX6_hold : ByteArray := prog_1_method_23_code
def yX6_hold : MethodName := ⟨RX6, "hold", "(II)I"⟩
abbrev cX6_throwIt : ByteArray := prog_1_method_24_code
def yX6_throwIt : MethodName := ⟨RX6, "throwIt", "(I)I"⟩
abbrev cX6_found : ByteArray := prog_1_method_25_code
def yX6_found : MethodName := ⟨RX6, "found", "(I)I"⟩
abbrev cX6_tell : ByteArray := prog_1_method_26_code
def yX6_tell : MethodName := ⟨RX6, "tell", "(I)I"⟩
abbrev cX6_keeperOf : ByteArray := prog_1_method_27_code
def yX6_keeperOf : MethodName := ⟨RX6, "keeperOf", "(I)LRoomWarden$Keeper;"⟩
abbrev cX6_resize : ByteArray := prog_1_method_28_code
def yX6_resize : MethodName := ⟨RX6, "resize", "(LRoomWarden$Keeper;II)V"⟩
def RX7 : String := "RoomWardenModel"
def TX7 : u_T := fun k => match k with
  | 0 => ("RoomWardenModel", "pages", "I", false)
  | 1 => ("RoomWardenModel", "owner", "[I", true)
  | 2 => ("RoomWardenModel", "numbers", "[J", true)
  | 3 => ("RoomWardenModel", "length", "[I", true)
  | 4 => ("RoomWardenModel", "holder", "[I", true)
  | 5 => ("RoomWardenModel", "zones", "I", false)
  | 6 => ("RoomWardenModel", "kindOf", "[I", true)
  | 7 => ("RoomWardenModel", "by", "[J", true)
  | 8 => ("RoomWardenModel", "given", "[I", true)
  | 9 => ("RoomWardenModel", "there", "[Z", true)
  | 10 => ("RoomWardenModel", "size", "[I", true)
  | 11 => ("RoomWardenModel", "zoneOf", "[I", true)
  | 12 => ("RoomWardenModel", "placeOf", "[I", true)
  | 13 => ("RoomWardenModel", "blocks", "I", false)
  | 14 => ("RoomWardenModel", "codes", "[I", true)
  | 15 => ("RoomWardenModel", "value", "J", false)
  | 16 => ("RoomWardenModel", "founds", "[I", true)
  | 17 => ("RoomWardenModel", "isKept", "Z", false)
  | 18 => ("RoomWardenModel", "keptPages", "I", false)
  | 19 => ("RoomWardenModel", "keptOwner", "[I", true)
  | 20 => ("RoomWardenModel", "keptNumbers", "[J", true)
  | 21 => ("RoomWardenModel", "keptLength", "[I", true)
  | 22 => ("RoomWardenModel", "keptHolder", "[I", true)
  | 23 => ("RoomWardenModel", "keptZones", "I", false)
  | 24 => ("RoomWardenModel", "keptKind", "[I", true)
  | 25 => ("RoomWardenModel", "keptBy", "[J", true)
  | 26 => ("RoomWardenModel", "keptGiven", "[I", true)
  | 27 => ("RoomWardenModel", "keptThere", "[Z", true)
  | 28 => ("RoomWardenModel", "keptSize", "[I", true)
  | 29 => ("RoomWardenModel", "keptZone", "[I", true)
  | 30 => ("RoomWardenModel", "keptPlace", "[I", true)
  | 31 => ("RoomWardenModel", "keptBlocks", "I", false)
  | 32 => ("RoomWardenModel", "keptCodes", "[I", true)
  | 33 => ("RoomWardenModel", "some", "[J", true)
  | 34 => ("RoomWardenModel", "at", "I", false)
  | 35 => ("RoomWardenModel", "long1", "I", false)
  | 36 => ("RoomWardenModel", "kind", "I", false)
  | 37 => ("RoomWardenModel", "whose", "I", false)
  | 38 => ("RoomWardenModel", "where", "I", false)
  | 39 => ("RoomWardenModel", "gone", "I", false)
  | 40 => ("RoomWardenModel", "sought", "I", false)
  | 41 => ("RoomWardenModel", "soughtPlace", "I", false)
  | _ => ("RoomWardenModel", "isFound", "Z", false)
def tyX7 : Nat → FieldType := fun k => match k with
  | 0 => .int
  | 1 => .array .int
  | 2 => .array .long
  | 3 => .array .int
  | 4 => .array .int
  | 5 => .int
  | 6 => .array .int
  | 7 => .array .long
  | 8 => .array .int
  | 9 => .array .boolean
  | 10 => .array .int
  | 11 => .array .int
  | 12 => .array .int
  | 13 => .int
  | 14 => .array .int
  | 15 => .long
  | 16 => .array .int
  | 17 => .boolean
  | 18 => .int
  | 19 => .array .int
  | 20 => .array .long
  | 21 => .array .int
  | 22 => .array .int
  | 23 => .int
  | 24 => .array .int
  | 25 => .array .long
  | 26 => .array .int
  | 27 => .array .boolean
  | 28 => .array .int
  | 29 => .array .int
  | 30 => .array .int
  | 31 => .int
  | 32 => .array .int
  | 33 => .array .long
  | 34 => .int
  | 35 => .int
  | 36 => .int
  | 37 => .int
  | 38 => .int
  | 39 => .int
  | 40 => .int
  | 41 => .int
  | _ => .boolean
theorem nmX7 : ∀ a, a < 43 → ∀ b, b < 43 → a ≠ b → (TX7 a).2.1 ≠ (TX7 b).2.1 := by decide +kernel
theorem tyX7_ok : ∀ k, k < 43 → parseFieldDescriptor (TX7 k).2.2.1 = some (tyX7 k) := by decide +kernel
abbrev cX7_init : ByteArray := prog_9_method_1_code
def yX7_init : MethodName := ⟨RX7, "<init>", "()V"⟩
abbrev cX7_answer : ByteArray := prog_9_method_2_code
def yX7_answer : MethodName := ⟨RX7, "answer", "(I)I"⟩
abbrev cX7_open : ByteArray := prog_9_method_3_code
def yX7_open : MethodName := ⟨RX7, "open", "(I)I"⟩
abbrev cX7_page : ByteArray := prog_9_method_4_code
def yX7_page : MethodName := ⟨RX7, "page", "(IZ)I"⟩
abbrev cX7_zone : ByteArray := prog_9_method_5_code
def yX7_zone : MethodName := ⟨RX7, "zone", "(IJ)I"⟩
abbrev cX7_isZone : ByteArray := prog_9_method_6_code
def yX7_isZone : MethodName := ⟨RX7, "isZone", "(I)Z"⟩
abbrev cX7_isOf : ByteArray := prog_9_method_7_code
def yX7_isOf : MethodName := ⟨RX7, "isOf", "(II)Z"⟩
abbrev cX7_most : ByteArray := prog_9_method_8_code
def yX7_most : MethodName := ⟨RX7, "most", "(I)I"⟩
abbrev cX7_need : ByteArray := prog_9_method_9_code
def yX7_need : MethodName := ⟨RX7, "need", "(II)I"⟩
abbrev cX7_power : ByteArray := prog_9_method_10_code
def yX7_power : MethodName := ⟨RX7, "power", "(I)I"⟩
abbrev cX7_isFreeAt : ByteArray := prog_9_method_11_code
def yX7_isFreeAt : MethodName := ⟨RX7, "isFreeAt", "(II)Z"⟩
abbrev cX7_freePages : ByteArray := prog_9_method_12_code
def yX7_freePages : MethodName := ⟨RX7, "freePages", "(I)I"⟩
abbrev cX7_named : ByteArray := prog_9_method_13_code
def yX7_named : MethodName := ⟨RX7, "named", "(II)I"⟩
abbrev cX7_comePages : ByteArray := prog_9_method_14_code
def yX7_comePages : MethodName := ⟨RX7, "comePages", "(III)V"⟩
abbrev cX7_ahead : ByteArray := prog_9_method_15_code
def yX7_ahead : MethodName := ⟨RX7, "ahead", "(II)I"⟩
abbrev cX7_join : ByteArray := prog_9_method_16_code
def yX7_join : MethodName := ⟨RX7, "join", "(II)V"⟩
abbrev cX7_taken : ByteArray := prog_9_method_17_code
def yX7_taken : MethodName := ⟨RX7, "taken", "(II)I"⟩
abbrev cX7_cut : ByteArray := prog_9_method_18_code
def yX7_cut : MethodName := ⟨RX7, "cut", "(II)V"⟩
abbrev cX7_firstOf : ByteArray := prog_9_method_19_code
def yX7_firstOf : MethodName := ⟨RX7, "firstOf", "(II)I"⟩
abbrev cX7_have : ByteArray := prog_9_method_20_code
def yX7_have : MethodName := ⟨RX7, "have", "(IIII)V"⟩
abbrev cX7_guard : ByteArray := prog_9_method_21_code
def yX7_guard : MethodName := ⟨RX7, "guard", "(I)V"⟩
abbrev cX7_release : ByteArray := prog_9_method_22_code
def yX7_release : MethodName := ⟨RX7, "release", "(II)V"⟩
abbrev cX7_joinPairs : ByteArray := prog_9_method_23_code
def yX7_joinPairs : MethodName := ⟨RX7, "joinPairs", "(II)V"⟩
abbrev cX7_settle : ByteArray := prog_9_method_24_code
def yX7_settle : MethodName := ⟨RX7, "settle", "()V"⟩
abbrev cX7_pieceAt : ByteArray := prog_9_method_25_code
def yX7_pieceAt : MethodName := ⟨RX7, "pieceAt", "(I)I"⟩
abbrev cX7_isWhollyFree : ByteArray := prog_9_method_26_code
def yX7_isWhollyFree : MethodName := ⟨RX7, "isWhollyFree", "(I)Z"⟩
abbrev cX7_goBack : ByteArray := prog_9_method_27_code
def yX7_goBack : MethodName := ⟨RX7, "goBack", "(I)V"⟩
abbrev cX7_look : ByteArray := prog_9_method_28_code
def yX7_look : MethodName := ⟨RX7, "look", "(I)I"⟩
abbrev cX7_spoilt : ByteArray := prog_9_method_29_code
def yX7_spoilt : MethodName := ⟨RX7, "spoilt", "(I)I"⟩
abbrev cX7_want : ByteArray := prog_9_method_30_code
def yX7_want : MethodName := ⟨RX7, "want", "(II)I"⟩
abbrev cX7_give : ByteArray := prog_9_method_31_code
def yX7_give : MethodName := ⟨RX7, "give", "(I)I"⟩
abbrev cX7_grows : ByteArray := prog_9_method_32_code
def yX7_grows : MethodName := ⟨RX7, "grows", "(II)Z"⟩
abbrev cX7_grow : ByteArray := prog_9_method_33_code
def yX7_grow : MethodName := ⟨RX7, "grow", "(II)I"⟩
abbrev cX7_shrink : ByteArray := prog_9_method_34_code
def yX7_shrink : MethodName := ⟨RX7, "shrink", "(II)I"⟩
abbrev cX7_lookAt : ByteArray := prog_9_method_35_code
def yX7_lookAt : MethodName := ⟨RX7, "lookAt", "(II)I"⟩
abbrev cX7_firstNumber : ByteArray := prog_9_method_36_code
def yX7_firstNumber : MethodName := ⟨RX7, "firstNumber", "(I)I"⟩
abbrev cX7_write : ByteArray := prog_9_method_37_code
def yX7_write : MethodName := ⟨RX7, "write", "(IIJ)I"⟩
abbrev cX7_read : ByteArray := prog_9_method_38_code
def yX7_read : MethodName := ⟨RX7, "read", "(II)I"⟩
abbrev cX7_value : ByteArray := prog_9_method_39_code
def yX7_value : MethodName := ⟨RX7, "value", "()J"⟩
abbrev cX7_copy : ByteArray := prog_9_method_40_code
def yX7_copy : MethodName := ⟨RX7, "copy", "(IIIII)I"⟩
abbrev cX7_fill : ByteArray := prog_9_method_41_code
def yX7_fill : MethodName := ⟨RX7, "fill", "(IJ)I"⟩
abbrev cX7_block : ByteArray := prog_9_method_42_code
def yX7_block : MethodName := ⟨RX7, "block", "(II)I"⟩
abbrev cX7_spoil : ByteArray := prog_9_method_43_code
def yX7_spoil : MethodName := ⟨RX7, "spoil", "(IZJ)I"⟩
abbrev cX7_entry : ByteArray := prog_9_method_44_code
def yX7_entry : MethodName := ⟨RX7, "entry", "(IIIII)V"⟩
abbrev cX7_go : ByteArray := prog_9_method_45_code
def yX7_go : MethodName := ⟨RX7, "go", "(II)V"⟩
abbrev cX7_slabEntries : ByteArray := prog_9_method_46_code
def yX7_slabEntries : MethodName := ⟨RX7, "slabEntries", "(II)V"⟩
abbrev cX7_pieceEntries : ByteArray := prog_9_method_47_code
def yX7_pieceEntries : MethodName := ⟨RX7, "pieceEntries", "(II)V"⟩
abbrev cX7_peek : ByteArray := prog_9_method_48_code
def yX7_peek : MethodName := ⟨RX7, "peek", "(I)I"⟩
abbrev cX7_map : ByteArray := prog_9_method_49_code
def yX7_map : MethodName := ⟨RX7, "map", "(II)I"⟩
abbrev cX7_largest : ByteArray := prog_9_method_50_code
def yX7_largest : MethodName := ⟨RX7, "largest", "(I)I"⟩
abbrev cX7_told : ByteArray := prog_9_method_51_code
def yX7_told : MethodName := ⟨RX7, "told", "(II)I"⟩
abbrev cX7_count : ByteArray := prog_9_method_52_code
def yX7_count : MethodName := ⟨RX7, "count", "(I)I"⟩
abbrev cX7_put : ByteArray := prog_9_method_53_code
def yX7_put : MethodName := ⟨RX7, "put", "([I[I)V"⟩
abbrev cX7_put_ : ByteArray := prog_9_method_54_code
def yX7_put_ : MethodName := ⟨RX7, "put", "([J[J)V"⟩
abbrev cX7_put__ : ByteArray := prog_9_method_55_code
def yX7_put__ : MethodName := ⟨RX7, "put", "([Z[Z)V"⟩
abbrev cX7_save : ByteArray := prog_9_method_56_code
def yX7_save : MethodName := ⟨RX7, "save", "()I"⟩
abbrev cX7_back : ByteArray := prog_9_method_57_code
def yX7_back : MethodName := ⟨RX7, "back", "()I"⟩
abbrev cX7_hold : ByteArray := prog_9_method_58_code
def yX7_hold : MethodName := ⟨RX7, "hold", "(II)I"⟩
abbrev cX7_throwIt : ByteArray := prog_9_method_59_code
def yX7_throwIt : MethodName := ⟨RX7, "throwIt", "(I)I"⟩
abbrev cX7_found : ByteArray := prog_9_method_60_code
def yX7_found : MethodName := ⟨RX7, "found", "(I)I"⟩
def RJ9 : String := "java/lang/Math"
def TJ9 : u_T := fun k => match k with
  | _ => ("", "", "", false)
def tyJ9 : Nat → FieldType := fun k => match k with
  | _ => .int
theorem nmJ9 : ∀ a, a < 0 → ∀ b, b < 0 → a ≠ b → (TJ9 a).2.1 ≠ (TJ9 b).2.1 := by decide +kernel
theorem tyJ9_ok : ∀ k, k < 0 → parseFieldDescriptor (TJ9 k).2.2.1 = some (tyJ9 k) := by decide +kernel
abbrev cJ9_max_7cf53 : ByteArray := prog_10_method_65_code
def yJ9_max_7cf53 : MethodName := ⟨RJ9, "max", "(II)I"⟩
abbrev cJ9_max_f86c9 : ByteArray := prog_10_method_66_code
def yJ9_max_f86c9 : MethodName := ⟨RJ9, "max", "(JJ)J"⟩
abbrev cJ9_min_7cf53 : ByteArray := prog_10_method_69_code
def yJ9_min_7cf53 : MethodName := ⟨RJ9, "min", "(II)I"⟩
abbrev cJ9_min_f86c9 : ByteArray := prog_10_method_70_code
def yJ9_min_f86c9 : MethodName := ⟨RJ9, "min", "(JJ)J"⟩
def RJ10 : String := "java/lang/System"
def TJ10 : u_T := fun k => match k with
  | _ => ("", "", "", false)
def tyJ10 : Nat → FieldType := fun k => match k with
  | _ => .int
theorem nmJ10 : ∀ a, a < 0 → ∀ b, b < 0 → a ≠ b → (TJ10 a).2.1 ≠ (TJ10 b).2.1 := by decide +kernel
theorem tyJ10_ok : ∀ k, k < 0 → parseFieldDescriptor (TJ10 k).2.2.1 = some (tyJ10 k) := by decide +kernel
def RJ7 : String := "java/util/Arrays"
def TJ7 : u_T := fun k => match k with
  | _ => ("", "", "", false)
def tyJ7 : Nat → FieldType := fun k => match k with
  | _ => .int
theorem nmJ7 : ∀ a, a < 0 → ∀ b, b < 0 → a ≠ b → (TJ7 a).2.1 ≠ (TJ7 b).2.1 := by decide +kernel
theorem tyJ7_ok : ∀ k, k < 0 → parseFieldDescriptor (TJ7 k).2.2.1 = some (tyJ7 k) := by decide +kernel
abbrev cJ7_fill_d0a16 : ByteArray := prog_12_method_101_code
def yJ7_fill_d0a16 : MethodName := ⟨RJ7, "fill", "([JJ)V"⟩
abbrev cJ7_fill_53178 : ByteArray := prog_12_method_103_code
def yJ7_fill_53178 : MethodName := ⟨RJ7, "fill", "([II)V"⟩
def RL : String := "RoomWardenLaw"
abbrev cL_law : ByteArray := code
def yL_law : MethodName := ⟨RL, "law", "([I)Z"⟩
end
section
/-! the state of a world: ints, longs, int rows, long rows, each by number -/
abbrev SS : Type := (Nat → Int32) × (Nat → Int64) × (Nat → Nat → Int32) × (Nat → Nat → Int64)
def gI (σ : SS) (k : Nat) : Int32 := σ.1 k
def gL (σ : SS) (k : Nat) : Int64 := σ.2.1 k
def gA (σ : SS) (k : Nat) : Nat → Int32 := σ.2.2.1 k
def gB (σ : SS) (k : Nat) : Nat → Int64 := σ.2.2.2 k
def sI (σ : SS) (k : Nat) (v : Int32) : SS := (va_up σ.1 k v, σ.2)
def sL (σ : SS) (k : Nat) (v : Int64) : SS := (σ.1, va_up σ.2.1 k v, σ.2.2)
def sAA (σ : SS) (k : Nat) (f : Nat → Int32) : SS := (σ.1, σ.2.1, va_up σ.2.2.1 k f, σ.2.2.2)
def sBB (σ : SS) (k : Nat) (f : Nat → Int64) : SS := (σ.1, σ.2.1, σ.2.2.1, va_up σ.2.2.2 k f)
def sA (σ : SS) (k j : Nat) (x : Int32) : SS := sAA σ k (upd (gA σ k) j x)
def sB (σ : SS) (k j : Nat) (x : Int64) : SS := sBB σ k (vp_updL (gB σ k) j x)
/-- the least predicate that a loop's body keeps -/
def lfp {τ : Type} (B : (τ → Prop) → τ → Prop) (t : τ) : Prop := ∀ X : τ → Prop, (∀ t, B X t → X t) → X t
/-- the classes whose objects the worlds hold -/
abbrev cls : List vw_C := [(RX0, TX0, 1), (RX1, TX1, 8), (RX3, TX3, 13), (RX4, TX4, 1), (RX5, TX5, 1), (RX6, TX6, 8), (RX7, TX7, 43)]
abbrev tys (cI cJ cZ : ClassId) : List (ClassId × FieldType) := [(cI, .int), (cJ, .long), (cZ, .boolean)]
/-- the abstract methods that are called -/
def dks : List MethodName := [⟨"RoomWarden$Keeper", "mostOf", "(I)I"⟩, ⟨"RoomWarden$Keeper", "greatest", "(I)I"⟩, ⟨"RoomWarden$Keeper", "takePiece", "(II)I"⟩, ⟨"RoomWarden$Keeper", "fits", "(II)Z"⟩, ⟨"RoomWarden$Keeper", "reshape", "(II)V"⟩, ⟨"RoomWarden$Keeper", "tidy", "(I)V"⟩]
def DK (U : State) : Prop := ∀ x ∈ dks, va_Nw (.declares x) U
theorem DK.warm {s U : State} (hW : s.WarmedH U.vm) (h : DK s) : DK U := fun x hx => va_Nw.warmD hW (h x hx)
theorem DK.same {s U : State} (hW : s.vm = U.vm) (h : DK s) : DK U := fun x hx => va_tabs rfl hW (h x hx)
/-- the addresses don't depend on the state -/
def Ad (w : SS → va_W) : Prop := ∀ σ σ' : SS, (w σ).map Prod.fst = (w σ').map Prod.fst
theorem va_D.adr {A : Nat → Prop} {ws ws' : va_W} (h : va_D A ws) (he : ws.map Prod.fst = ws'.map Prod.fst) : va_D A ws' := by
  have key : ∀ (k : Nat) (q : Nat × va_E), ws'[k]? = some q → ∃ q0 : Nat × va_E, ws[k]? = some q0 ∧ q0.1 = q.1 := by
    intro k q hq
    have h1 : (ws'.map Prod.fst)[k]? = some q.1 := by rw [List.getElem?_map, hq]; rfl
    rw [← he, List.getElem?_map] at h1
    cases hz : ws[k]? with
    | none => rw [hz] at h1; cases h1
    | some z => rw [hz] at h1; exact ⟨z, rfl, Option.some.inj h1⟩
  refine ⟨fun i j p q hp hq hpq => ?_, fun k q hq => ?_⟩
  · obtain ⟨p0, a1, a2⟩ := key i p hp
    obtain ⟨q0, b1, b2⟩ := key j q hq
    exact h.1 i j p0 q0 a1 b1 (by rw [a2, b2]; exact hpq)
  · obtain ⟨q0, b1, b2⟩ := key k q hq
    rw [← b2]; exact h.2 k q0 b1
def WW (D : va_G) (ty : List (ClassId × FieldType)) (w : SS → va_W) (σ : SS) (t : State) : Prop := va_P D cls (w σ) t.heap ∧ va_K D cls ty t
def PP (D : va_G) (ty : List (ClassId × FieldType)) (w : SS → va_W) (av : List Value) (σ : SS) (sz : Nat) : Array Value → State → Prop := va_Pc av (fun U => U.heap.size = sz ∧ va_P D cls (w σ) U.heap ∧ va_K D cls ty U ∧ va_D (fun _ => True) (w σ) ∧ DK U)
def Ci (l : Launch) (y : MethodName) (ws : List Cond) (rm : Room) (D : va_G) (ty : List (ClassId × FieldType)) (w : SS → va_W) (av : List Value) (σ : SS) (Post : Int32 → SS → Prop) : Prop := ∀ sz : Nat, Met l y ws rm (PP D ty w av σ sz) (va_Qi Post (WW D ty w) (va_A (w σ) sz)) 0 0 (va_A (w σ) sz)
def Cl (l : Launch) (y : MethodName) (ws : List Cond) (rm : Room) (D : va_G) (ty : List (ClassId × FieldType)) (w : SS → va_W) (av : List Value) (σ : SS) (Post : Int64 → SS → Prop) : Prop := ∀ sz : Nat, Met l y ws rm (PP D ty w av σ sz) (va_Ql Post (WW D ty w) (va_A (w σ) sz)) 0 0 (va_A (w σ) sz)
def Cv (l : Launch) (y : MethodName) (ws : List Cond) (rm : Room) (D : va_G) (ty : List (ClassId × FieldType)) (w : SS → va_W) (av : List Value) (σ : SS) (Post : SS → Prop) : Prop := ∀ sz : Nat, Met l y ws rm (PP D ty w av σ sz) (va_Qv Post (WW D ty w) (va_A (w σ) sz)) 0 0 (va_A (w σ) sz)
/-- an answer that is one of the world's cells, by its number -/
def Cr (l : Launch) (y : MethodName) (ws : List Cond) (rm : Room) (D : va_G) (ty : List (ClassId × FieldType)) (w : SS → va_W) (ad : Nat → Nat) (av : List Value) (σ : SS) (Post : Nat → SS → Prop) : Prop := ∀ sz : Nat, Met l y ws rm (PP D ty w av σ sz) (va_Qr (fun u : Nat × SS => Post u.1 u.2) (fun u a t => a = ad u.1 ∧ WW D ty w u.2 t) (va_A (w σ) sz)) 0 0 (va_A (w σ) sz)
section JJ
variable {p : Program} {l : Launch} {e : Env} {R : Room} {s : State} {m : MethodId} {args : Array Value} {below : List Frame} {meth : Method} {c : Code} {D : va_G} {ty : List (ClassId × FieldType)} {w : SS → va_W} {A : Nat → Prop} {cc : ByteArray} {nL : Nat} {own : String} {ret : Option FieldType} {Q : State → Prop} {σ : SS} {pc : Nat} {lv : List (Nat × Value)} {st : List Value}
def Cx (p : Program) (s : State) (m : MethodId) (args : Array Value) (meth : Method) (c : Code) (D : va_G) (ty : List (ClassId × FieldType)) (w : SS → va_W) (A : Nat → Prop) (cc : ByteArray) (nL : Nat) (own : String) (ret : Option FieldType) : Prop :=
  p.tables.exec = Jvm.exec ∧ c.code = cc ∧ c.maxLocals = nL ∧ s.vm.findClass own = some m.cls ∧ (∀ w ∈ TT, w.before args s = true) ∧ va_K D cls ty s ∧ (∀ σ, va_D A (w σ)) ∧ meth.sig.returnType = ret ∧ meth.locks = false ∧ DK s ∧ (∀ q, s.heap.size ≤ q → A q)
def J (p : Program) (l : Launch) (e : Env) (R : Room) (s : State) (m : MethodId) (args : Array Value) (below : List Frame) (meth : Method) (c : Code) (D : va_G) (w : SS → va_W) (A : Nat → Prop) (nL : Nat) (Q : State → Prop) (σ : SS) (pc : Nat) (lv : List (Nat × Value)) (st : List Value) : Prop :=
  ∀ (H : Heap) (locs : List Loc) (ls : Array Slot), va_P D cls (w σ) H → va_S A s.heap H locs → lv_has ls nL lv → W p l e R s m args below meth c H locs 0 0 Q (F0 m pc ls st)

theorem j_iconst {n : Int} {v : Int32} (C : Cx p s m args meth c D ty w A cc nL own ret) (hd : decode cc pc = .ok (.iconst n, 1)) (hv : Int32.ofInt n = v) (K : J p l e R s m args below meth c D w A nL Q σ (pc + 1) lv (.int v :: st)) : J p l e R s m args below meth c D w A nL Q σ pc lv (st) := fun H locs ls hP hS hl => lv_iconst C.1 C.2.1 hd hv (K H locs ls hP hS hl)
theorem j_bipush {n : Int} {v : Int32} (C : Cx p s m args meth c D ty w A cc nL own ret) (hd : decode cc pc = .ok (.bipush n, 2)) (hv : (Int8.ofInt n).toInt32 = v) (K : J p l e R s m args below meth c D w A nL Q σ (pc + 2) lv (.int v :: st)) : J p l e R s m args below meth c D w A nL Q σ pc lv (st) := fun H locs ls hP hS hl => lv_bipush C.1 C.2.1 hd hv (K H locs ls hP hS hl)
theorem j_sipush {n : Int} {v : Int32} (C : Cx p s m args meth c D ty w A cc nL own ret) (hd : decode cc pc = .ok (.sipush n, 3)) (hv : (Int16.ofInt n).toInt32 = v) (K : J p l e R s m args below meth c D w A nL Q σ (pc + 3) lv (.int v :: st)) : J p l e R s m args below meth c D w A nL Q σ pc lv (st) := fun H locs ls hP hS hl => lv_sipush C.1 C.2.1 hd hv (K H locs ls hP hS hl)
theorem j_lconst {n : Fin 2} {v : Int64} (C : Cx p s m args meth c D ty w A cc nL own ret) (hd : decode cc pc = .ok (.lconst n, 1)) (hv : Int64.ofNat (n : Nat) = v) (K : J p l e R s m args below meth c D w A nL Q σ (pc + 1) lv (.long v :: st)) : J p l e R s m args below meth c D w A nL Q σ pc lv (st) := fun H locs ls hP hS hl => lv_lconst C.1 C.2.1 hd hv (K H locs ls hP hS hl)
theorem j_ldc2 {index : Nat} {v : Int64} (C : Cx p s m args meth c D ty w A cc nL own ret) (hd : decode cc pc = .ok (.ldc2_w index, 3)) (hc : Cond.constantLong own index v ∈ TT) (K : J p l e R s m args below meth c D w A nL Q σ (pc + 3) lv (.long v :: st)) : J p l e R s m args below meth c D w A nL Q σ pc lv st := fun H locs ls hP hS hl => lv_ldc2 C.1 C.2.1 C.2.2.2.1 (C.2.2.2.2.1 _ hc) hd (K H locs ls hP hS hl)
theorem j_iload_n {k : Fin 4} {x : Int32} (C : Cx p s m args meth c D ty w A cc nL own ret) (hd : decode cc pc = .ok (.iload_n k, 1)) (i : Nat) (hi : lv[i]? = some ((k : Nat), .int x)) (K : J p l e R s m args below meth c D w A nL Q σ (pc + 1) lv (.int x :: st)) : J p l e R s m args below meth c D w A nL Q σ pc lv (st) := fun H locs ls hP hS hl => lv_iload_n C.1 C.2.1 hd rfl (lv_at hl i hi) (K H locs ls hP hS hl)
theorem j_iload {k : Nat} {x : Int32} (C : Cx p s m args meth c D ty w A cc nL own ret) (hd : decode cc pc = .ok (.iload k, 2)) (i : Nat) (hi : lv[i]? = some (k, .int x)) (K : J p l e R s m args below meth c D w A nL Q σ (pc + 2) lv (.int x :: st)) : J p l e R s m args below meth c D w A nL Q σ pc lv (st) := fun H locs ls hP hS hl => lv_iload C.1 C.2.1 hd (lv_at hl i hi) (K H locs ls hP hS hl)
theorem j_lload_n {k : Fin 4} {x : Int64} (C : Cx p s m args meth c D ty w A cc nL own ret) (hd : decode cc pc = .ok (.lload_n k, 1)) (i : Nat) (hi : lv[i]? = some ((k : Nat), .long x)) (K : J p l e R s m args below meth c D w A nL Q σ (pc + 1) lv (.long x :: st)) : J p l e R s m args below meth c D w A nL Q σ pc lv (st) := fun H locs ls hP hS hl => lv_lload_n C.1 C.2.1 hd rfl (lv_at hl i hi) (K H locs ls hP hS hl)
theorem j_lload {k : Nat} {x : Int64} (C : Cx p s m args meth c D ty w A cc nL own ret) (hd : decode cc pc = .ok (.lload k, 2)) (i : Nat) (hi : lv[i]? = some (k, .long x)) (K : J p l e R s m args below meth c D w A nL Q σ (pc + 2) lv (.long x :: st)) : J p l e R s m args below meth c D w A nL Q σ pc lv (st) := fun H locs ls hP hS hl => lv_lload C.1 C.2.1 hd (lv_at hl i hi) (K H locs ls hP hS hl)
theorem j_aload_n {k : Fin 4} {x : Nat} (C : Cx p s m args meth c D ty w A cc nL own ret) (hd : decode cc pc = .ok (.aload_n k, 1)) (i : Nat) (hi : lv[i]? = some ((k : Nat), .ref x)) (K : J p l e R s m args below meth c D w A nL Q σ (pc + 1) lv (.ref x :: st)) : J p l e R s m args below meth c D w A nL Q σ pc lv (st) := fun H locs ls hP hS hl => lv_aload_n C.1 C.2.1 hd rfl (lv_at hl i hi) (K H locs ls hP hS hl)
theorem j_aload {k : Nat} {x : Nat} (C : Cx p s m args meth c D ty w A cc nL own ret) (hd : decode cc pc = .ok (.aload k, 2)) (i : Nat) (hi : lv[i]? = some (k, .ref x)) (K : J p l e R s m args below meth c D w A nL Q σ (pc + 2) lv (.ref x :: st)) : J p l e R s m args below meth c D w A nL Q σ pc lv (st) := fun H locs ls hP hS hl => lv_aload C.1 C.2.1 hd (lv_at hl i hi) (K H locs ls hP hS hl)
theorem j_istore_n {k : Fin 4} {x : Int32} {lv' : List (Nat × Value)} (C : Cx p s m args meth c D ty w A cc nL own ret) (hd : decode cc pc = .ok (.istore_n k, 1)) (hn : (k : Nat) < nL) (hv : ((k : Nat), Value.int x) :: lv.filter (fun q => !(q.1 == (k : Nat)) && !(q.1 + 1 == (k : Nat) && q.2.category == 2)) = lv') (K : J p l e R s m args below meth c D w A nL Q σ (pc + 1) lv' st) : J p l e R s m args below meth c D w A nL Q σ pc lv (.int x :: st) := fun H locs ls hP hS hl => lv_istore_n C.1 C.2.1 hd rfl hl hn hv (fun ls hl => K H locs ls hP hS hl)
theorem j_istore {k : Nat} {x : Int32} {lv' : List (Nat × Value)} (C : Cx p s m args meth c D ty w A cc nL own ret) (hd : decode cc pc = .ok (.istore k, 2)) (hn : k < nL) (hv : (k, Value.int x) :: lv.filter (fun q => !(q.1 == k) && !(q.1 + 1 == k && q.2.category == 2)) = lv') (K : J p l e R s m args below meth c D w A nL Q σ (pc + 2) lv' st) : J p l e R s m args below meth c D w A nL Q σ pc lv (.int x :: st) := fun H locs ls hP hS hl => lv_istore C.1 C.2.1 hd hl hn hv (fun ls hl => K H locs ls hP hS hl)
theorem j_lstore_n {k : Fin 4} {x : Int64} {lv' : List (Nat × Value)} (C : Cx p s m args meth c D ty w A cc nL own ret) (hd : decode cc pc = .ok (.lstore_n k, 1)) (hn : (k : Nat) + 1 < nL) (hv : ((k : Nat), Value.long x) :: lv.filter (fun q => !(q.1 == (k : Nat)) && (!(q.1 == (k : Nat) + 1) && !(q.1 + 1 == (k : Nat) && q.2.category == 2))) = lv') (K : J p l e R s m args below meth c D w A nL Q σ (pc + 1) lv' st) : J p l e R s m args below meth c D w A nL Q σ pc lv (.long x :: st) := fun H locs ls hP hS hl => lv_lstore_n C.1 C.2.1 hd rfl hl hn hv (fun ls hl => K H locs ls hP hS hl)
theorem j_lstore {k : Nat} {x : Int64} {lv' : List (Nat × Value)} (C : Cx p s m args meth c D ty w A cc nL own ret) (hd : decode cc pc = .ok (.lstore k, 2)) (hn : k + 1 < nL) (hv : (k, Value.long x) :: lv.filter (fun q => !(q.1 == k) && (!(q.1 == k + 1) && !(q.1 + 1 == k && q.2.category == 2))) = lv') (K : J p l e R s m args below meth c D w A nL Q σ (pc + 2) lv' st) : J p l e R s m args below meth c D w A nL Q σ pc lv (.long x :: st) := fun H locs ls hP hS hl => lv_lstore C.1 C.2.1 hd hl hn hv (fun ls hl => K H locs ls hP hS hl)
theorem j_astore_n {k : Fin 4} {x : Nat} {lv' : List (Nat × Value)} (C : Cx p s m args meth c D ty w A cc nL own ret) (hd : decode cc pc = .ok (.astore_n k, 1)) (hn : (k : Nat) < nL) (hv : ((k : Nat), Value.ref x) :: lv.filter (fun q => !(q.1 == (k : Nat)) && !(q.1 + 1 == (k : Nat) && q.2.category == 2)) = lv') (K : J p l e R s m args below meth c D w A nL Q σ (pc + 1) lv' st) : J p l e R s m args below meth c D w A nL Q σ pc lv (.ref x :: st) := fun H locs ls hP hS hl => lv_astore_n C.1 C.2.1 hd rfl hl hn hv (fun ls hl => K H locs ls hP hS hl)
theorem j_astore {k : Nat} {x : Nat} {lv' : List (Nat × Value)} (C : Cx p s m args meth c D ty w A cc nL own ret) (hd : decode cc pc = .ok (.astore k, 2)) (hn : k < nL) (hv : (k, Value.ref x) :: lv.filter (fun q => !(q.1 == k) && !(q.1 + 1 == k && q.2.category == 2)) = lv') (K : J p l e R s m args below meth c D w A nL Q σ (pc + 2) lv' st) : J p l e R s m args below meth c D w A nL Q σ pc lv (.ref x :: st) := fun H locs ls hP hS hl => lv_astore C.1 C.2.1 hd hl hn hv (fun ls hl => K H locs ls hP hS hl)
theorem j_iinc {k : Nat} {n : Int} {x : Int32} {lv' : List (Nat × Value)} (v : Int32) (C : Cx p s m args meth c D ty w A cc nL own ret) (hd : decode cc pc = .ok (.iinc k n, 3)) (i : Nat) (hi : lv[i]? = some (k, .int x)) (hx : x + Int32.ofInt n = v) (hn : k < nL) (hv : (k, Value.int v) :: lv.filter (fun q => !(q.1 == k) && !(q.1 + 1 == k && q.2.category == 2)) = lv') (K : J p l e R s m args below meth c D w A nL Q σ (pc + 3) lv' st) : J p l e R s m args below meth c D w A nL Q σ pc lv st := fun H locs ls hP hS hl => lv_iinc C.1 C.2.1 hd hl hi hx hn hv (fun ls hl => K H locs ls hP hS hl)
theorem j_sub {lv' : List (Nat × Value)} (ks : List Nat) (h : lv_pick lv ks = lv') (K : J p l e R s m args below meth c D w A nL Q σ pc lv' st) : J p l e R s m args below meth c D w A nL Q σ pc lv st := fun H locs ls hP hS hl => K H locs ls hP hS (lv_sub hl ks h)
theorem j_iadd {x y : Int32} (C : Cx p s m args meth c D ty w A cc nL own ret) (hd : decode cc pc = .ok (.iadd, 1)) (K : J p l e R s m args below meth c D w A nL Q σ (pc + 1) lv (.int (x + y) :: st)) : J p l e R s m args below meth c D w A nL Q σ pc lv (.int y :: .int x :: st) := fun H locs ls hP hS hl => lv_iadd C.1 C.2.1 hd (K H locs ls hP hS hl)
theorem j_isub {x y : Int32} (C : Cx p s m args meth c D ty w A cc nL own ret) (hd : decode cc pc = .ok (.isub, 1)) (K : J p l e R s m args below meth c D w A nL Q σ (pc + 1) lv (.int (x - y) :: st)) : J p l e R s m args below meth c D w A nL Q σ pc lv (.int y :: .int x :: st) := fun H locs ls hP hS hl => lv_isub C.1 C.2.1 hd (K H locs ls hP hS hl)
theorem j_imul {x y : Int32} (C : Cx p s m args meth c D ty w A cc nL own ret) (hd : decode cc pc = .ok (.imul, 1)) (K : J p l e R s m args below meth c D w A nL Q σ (pc + 1) lv (.int (x * y) :: st)) : J p l e R s m args below meth c D w A nL Q σ pc lv (.int y :: .int x :: st) := fun H locs ls hP hS hl => lv_imul C.1 C.2.1 hd (K H locs ls hP hS hl)
theorem j_iand {x y : Int32} (C : Cx p s m args meth c D ty w A cc nL own ret) (hd : decode cc pc = .ok (.iand, 1)) (K : J p l e R s m args below meth c D w A nL Q σ (pc + 1) lv (.int (x &&& y) :: st)) : J p l e R s m args below meth c D w A nL Q σ pc lv (.int y :: .int x :: st) := fun H locs ls hP hS hl => lv_iand C.1 C.2.1 hd (K H locs ls hP hS hl)
theorem j_ladd {x y : Int64} (C : Cx p s m args meth c D ty w A cc nL own ret) (hd : decode cc pc = .ok (.ladd, 1)) (K : J p l e R s m args below meth c D w A nL Q σ (pc + 1) lv (.long (x + y) :: st)) : J p l e R s m args below meth c D w A nL Q σ pc lv (.long y :: .long x :: st) := fun H locs ls hP hS hl => lv_ladd C.1 C.2.1 hd (K H locs ls hP hS hl)
theorem j_land {x y : Int64} (C : Cx p s m args meth c D ty w A cc nL own ret) (hd : decode cc pc = .ok (.land, 1)) (K : J p l e R s m args below meth c D w A nL Q σ (pc + 1) lv (.long (x &&& y) :: st)) : J p l e R s m args below meth c D w A nL Q σ pc lv (.long y :: .long x :: st) := fun H locs ls hP hS hl => lv_land C.1 C.2.1 hd (K H locs ls hP hS hl)
theorem j_lor {x y : Int64} (C : Cx p s m args meth c D ty w A cc nL own ret) (hd : decode cc pc = .ok (.lor, 1)) (K : J p l e R s m args below meth c D w A nL Q σ (pc + 1) lv (.long (x ||| y) :: st)) : J p l e R s m args below meth c D w A nL Q σ pc lv (.long y :: .long x :: st) := fun H locs ls hP hS hl => lv_lor C.1 C.2.1 hd (K H locs ls hP hS hl)
theorem j_idiv {x y : Int32} (C : Cx p s m args meth c D ty w A cc nL own ret) (hd : decode cc pc = .ok (.idiv, 1)) (hne : ¬ y = 0) (K : J p l e R s m args below meth c D w A nL Q σ (pc + 1) lv (.int (x / y) :: st)) : J p l e R s m args below meth c D w A nL Q σ pc lv (.int y :: .int x :: st) := fun H locs ls hP hS hl => lv_idiv C.1 C.2.1 hd hne (K H locs ls hP hS hl)
theorem j_irem {x y : Int32} (C : Cx p s m args meth c D ty w A cc nL own ret) (hd : decode cc pc = .ok (.irem, 1)) (hne : ¬ y = 0) (K : J p l e R s m args below meth c D w A nL Q σ (pc + 1) lv (.int (x - x / y * y) :: st)) : J p l e R s m args below meth c D w A nL Q σ pc lv (.int y :: .int x :: st) := fun H locs ls hP hS hl => lv_irem C.1 C.2.1 hd hne (K H locs ls hP hS hl)
theorem j_ineg {x : Int32} (C : Cx p s m args meth c D ty w A cc nL own ret) (hd : decode cc pc = .ok (.ineg, 1)) (K : J p l e R s m args below meth c D w A nL Q σ (pc + 1) lv (.int (-x) :: st)) : J p l e R s m args below meth c D w A nL Q σ pc lv (.int x :: st) := fun H locs ls hP hS hl => lv_ineg C.1 C.2.1 hd (K H locs ls hP hS hl)
theorem j_i2l {x : Int32} (C : Cx p s m args meth c D ty w A cc nL own ret) (hd : decode cc pc = .ok (.i2l, 1)) (K : J p l e R s m args below meth c D w A nL Q σ (pc + 1) lv (.long x.toInt64 :: st)) : J p l e R s m args below meth c D w A nL Q σ pc lv (.int x :: st) := fun H locs ls hP hS hl => lv_i2l C.1 C.2.1 hd rfl (K H locs ls hP hS hl)
theorem j_l2i {x : Int64} (C : Cx p s m args meth c D ty w A cc nL own ret) (hd : decode cc pc = .ok (.l2i, 1)) (K : J p l e R s m args below meth c D w A nL Q σ (pc + 1) lv (.int x.toInt32 :: st)) : J p l e R s m args below meth c D w A nL Q σ pc lv (.long x :: st) := fun H locs ls hP hS hl => lv_l2i C.1 C.2.1 hd rfl (K H locs ls hP hS hl)
theorem j_lshl {x : Int64} {y : Int32} (C : Cx p s m args meth c D ty w A cc nL own ret) (hd : decode cc pc = .ok (.lshl, 1)) (K : J p l e R s m args below meth c D w A nL Q σ (pc + 1) lv (.long (x <<< (y.toInt64 &&& 63)) :: st)) : J p l e R s m args below meth c D w A nL Q σ pc lv (.int y :: .long x :: st) := fun H locs ls hP hS hl => lv_lshl C.1 C.2.1 hd rfl (K H locs ls hP hS hl)
theorem j_lcmp {x y : Int64} (C : Cx p s m args meth c D ty w A cc nL own ret) (hd : decode cc pc = .ok (.lcmp, 1)) (K : J p l e R s m args below meth c D w A nL Q σ (pc + 1) lv (.int (lg_cmp x y) :: st)) : J p l e R s m args below meth c D w A nL Q σ pc lv (.long y :: .long x :: st) := fun H locs ls hP hS hl => W.lcmp C.1 C.2.1 hd (K H locs ls hP hS hl)
theorem j_dup {v : Value} (C : Cx p s m args meth c D ty w A cc nL own ret) (hd : decode cc pc = .ok (.dup, 1)) (hc : v.category = 1) (K : J p l e R s m args below meth c D w A nL Q σ (pc + 1) lv (v :: v :: st)) : J p l e R s m args below meth c D w A nL Q σ pc lv (v :: st) := fun H locs ls hP hS hl => lv_dup C.1 C.2.1 hd hc (K H locs ls hP hS hl)
theorem j_dup2 {v u : Value} (C : Cx p s m args meth c D ty w A cc nL own ret) (hd : decode cc pc = .ok (.dup2, 1)) (hc : v.category = 1) (hc2 : u.category = 1) (K : J p l e R s m args below meth c D w A nL Q σ (pc + 1) lv (v :: u :: v :: u :: st)) : J p l e R s m args below meth c D w A nL Q σ pc lv (v :: u :: st) := fun H locs ls hP hS hl => lv_dup2_11 C.1 C.2.1 hd hc hc2 (K H locs ls hP hS hl)
theorem j_goto {off : Int} (tgt : Nat) (C : Cx p s m args meth c D ty w A cc nL own ret) (hd : decode cc pc = .ok (.goto off, 3)) (ht : (pc : Int) + off = (tgt : Int)) (K : J p l e R s m args below meth c D w A nL Q σ tgt lv st) : J p l e R s m args below meth c D w A nL Q σ pc lv st := fun H locs ls hP hS hl => lv_goto C.1 C.2.1 hd ht (K H locs ls hP hS hl)
theorem j_if_eq {x : Int32} {off : Int} {T F : Prop} (tgt : Nat) (C : Cx p s m args meth c D ty w A cc nL own ret) (hd : decode cc pc = .ok (.ifCond .eq off, 3)) (ht : (pc : Int) + off = (tgt : Int)) (h : (x = 0 → T) ∧ (¬ x = 0 → F)) (kt : T → J p l e R s m args below meth c D w A nL Q σ tgt lv st) (kf : F → J p l e R s m args below meth c D w A nL Q σ (pc + 3) lv st) : J p l e R s m args below meth c D w A nL Q σ pc lv (.int x :: st) := fun H locs ls hP hS hl => lv_if_eq C.1 C.2.1 hd ht (fun z => kt (h.1 z) H locs ls hP hS hl) (fun z => kf (h.2 z) H locs ls hP hS hl)
theorem j_if_ne {x : Int32} {off : Int} {T F : Prop} (tgt : Nat) (C : Cx p s m args meth c D ty w A cc nL own ret) (hd : decode cc pc = .ok (.ifCond .ne off, 3)) (ht : (pc : Int) + off = (tgt : Int)) (h : (¬ x = 0 → T) ∧ (x = 0 → F)) (kt : T → J p l e R s m args below meth c D w A nL Q σ tgt lv st) (kf : F → J p l e R s m args below meth c D w A nL Q σ (pc + 3) lv st) : J p l e R s m args below meth c D w A nL Q σ pc lv (.int x :: st) := fun H locs ls hP hS hl => lv_if_ne C.1 C.2.1 hd ht (fun z => kt (h.1 z) H locs ls hP hS hl) (fun z => kf (h.2 z) H locs ls hP hS hl)
theorem j_if_lt {x : Int32} {off : Int} {T F : Prop} (tgt : Nat) (C : Cx p s m args meth c D ty w A cc nL own ret) (hd : decode cc pc = .ok (.ifCond .lt off, 3)) (ht : (pc : Int) + off = (tgt : Int)) (h : (x < 0 → T) ∧ (¬ x < 0 → F)) (kt : T → J p l e R s m args below meth c D w A nL Q σ tgt lv st) (kf : F → J p l e R s m args below meth c D w A nL Q σ (pc + 3) lv st) : J p l e R s m args below meth c D w A nL Q σ pc lv (.int x :: st) := fun H locs ls hP hS hl => lv_if_lt C.1 C.2.1 hd ht (fun z => kt (h.1 z) H locs ls hP hS hl) (fun z => kf (h.2 z) H locs ls hP hS hl)
theorem j_if_ge {x : Int32} {off : Int} {T F : Prop} (tgt : Nat) (C : Cx p s m args meth c D ty w A cc nL own ret) (hd : decode cc pc = .ok (.ifCond .ge off, 3)) (ht : (pc : Int) + off = (tgt : Int)) (h : (0 ≤ x → T) ∧ (¬ 0 ≤ x → F)) (kt : T → J p l e R s m args below meth c D w A nL Q σ tgt lv st) (kf : F → J p l e R s m args below meth c D w A nL Q σ (pc + 3) lv st) : J p l e R s m args below meth c D w A nL Q σ pc lv (.int x :: st) := fun H locs ls hP hS hl => lv_if_ge C.1 C.2.1 hd ht (fun z => kt (h.1 z) H locs ls hP hS hl) (fun z => kf (h.2 z) H locs ls hP hS hl)
theorem j_if_gt {x : Int32} {off : Int} {T F : Prop} (tgt : Nat) (C : Cx p s m args meth c D ty w A cc nL own ret) (hd : decode cc pc = .ok (.ifCond .gt off, 3)) (ht : (pc : Int) + off = (tgt : Int)) (h : (0 < x → T) ∧ (¬ 0 < x → F)) (kt : T → J p l e R s m args below meth c D w A nL Q σ tgt lv st) (kf : F → J p l e R s m args below meth c D w A nL Q σ (pc + 3) lv st) : J p l e R s m args below meth c D w A nL Q σ pc lv (.int x :: st) := fun H locs ls hP hS hl => lv_if_gt C.1 C.2.1 hd ht (fun z => kt (h.1 z) H locs ls hP hS hl) (fun z => kf (h.2 z) H locs ls hP hS hl)
theorem j_if_le {x : Int32} {off : Int} {T F : Prop} (tgt : Nat) (C : Cx p s m args meth c D ty w A cc nL own ret) (hd : decode cc pc = .ok (.ifCond .le off, 3)) (ht : (pc : Int) + off = (tgt : Int)) (h : (x ≤ 0 → T) ∧ (¬ x ≤ 0 → F)) (kt : T → J p l e R s m args below meth c D w A nL Q σ tgt lv st) (kf : F → J p l e R s m args below meth c D w A nL Q σ (pc + 3) lv st) : J p l e R s m args below meth c D w A nL Q σ pc lv (.int x :: st) := fun H locs ls hP hS hl => lv_if_le C.1 C.2.1 hd ht (fun z => kt (h.1 z) H locs ls hP hS hl) (fun z => kf (h.2 z) H locs ls hP hS hl)
theorem j_icmp_eq {x y : Int32} {off : Int} {T F : Prop} (tgt : Nat) (C : Cx p s m args meth c D ty w A cc nL own ret) (hd : decode cc pc = .ok (.if_icmp .eq off, 3)) (ht : (pc : Int) + off = (tgt : Int)) (h : (x = y → T) ∧ (¬ x = y → F)) (kt : T → J p l e R s m args below meth c D w A nL Q σ tgt lv st) (kf : F → J p l e R s m args below meth c D w A nL Q σ (pc + 3) lv st) : J p l e R s m args below meth c D w A nL Q σ pc lv (.int y :: .int x :: st) := fun H locs ls hP hS hl => lv_icmp_eq C.1 C.2.1 hd ht (fun z => kt (h.1 z) H locs ls hP hS hl) (fun z => kf (h.2 z) H locs ls hP hS hl)
theorem j_icmp_ne {x y : Int32} {off : Int} {T F : Prop} (tgt : Nat) (C : Cx p s m args meth c D ty w A cc nL own ret) (hd : decode cc pc = .ok (.if_icmp .ne off, 3)) (ht : (pc : Int) + off = (tgt : Int)) (h : (¬ x = y → T) ∧ (x = y → F)) (kt : T → J p l e R s m args below meth c D w A nL Q σ tgt lv st) (kf : F → J p l e R s m args below meth c D w A nL Q σ (pc + 3) lv st) : J p l e R s m args below meth c D w A nL Q σ pc lv (.int y :: .int x :: st) := fun H locs ls hP hS hl => lv_icmp_ne C.1 C.2.1 hd ht (fun z => kt (h.1 z) H locs ls hP hS hl) (fun z => kf (h.2 z) H locs ls hP hS hl)
theorem j_icmp_lt {x y : Int32} {off : Int} {T F : Prop} (tgt : Nat) (C : Cx p s m args meth c D ty w A cc nL own ret) (hd : decode cc pc = .ok (.if_icmp .lt off, 3)) (ht : (pc : Int) + off = (tgt : Int)) (h : (x < y → T) ∧ (¬ x < y → F)) (kt : T → J p l e R s m args below meth c D w A nL Q σ tgt lv st) (kf : F → J p l e R s m args below meth c D w A nL Q σ (pc + 3) lv st) : J p l e R s m args below meth c D w A nL Q σ pc lv (.int y :: .int x :: st) := fun H locs ls hP hS hl => lv_icmp_lt C.1 C.2.1 hd ht (fun z => kt (h.1 z) H locs ls hP hS hl) (fun z => kf (h.2 z) H locs ls hP hS hl)
theorem j_icmp_ge {x y : Int32} {off : Int} {T F : Prop} (tgt : Nat) (C : Cx p s m args meth c D ty w A cc nL own ret) (hd : decode cc pc = .ok (.if_icmp .ge off, 3)) (ht : (pc : Int) + off = (tgt : Int)) (h : (y ≤ x → T) ∧ (¬ y ≤ x → F)) (kt : T → J p l e R s m args below meth c D w A nL Q σ tgt lv st) (kf : F → J p l e R s m args below meth c D w A nL Q σ (pc + 3) lv st) : J p l e R s m args below meth c D w A nL Q σ pc lv (.int y :: .int x :: st) := fun H locs ls hP hS hl => lv_icmp_ge C.1 C.2.1 hd ht (fun z => kt (h.1 z) H locs ls hP hS hl) (fun z => kf (h.2 z) H locs ls hP hS hl)
theorem j_icmp_gt {x y : Int32} {off : Int} {T F : Prop} (tgt : Nat) (C : Cx p s m args meth c D ty w A cc nL own ret) (hd : decode cc pc = .ok (.if_icmp .gt off, 3)) (ht : (pc : Int) + off = (tgt : Int)) (h : (y < x → T) ∧ (¬ y < x → F)) (kt : T → J p l e R s m args below meth c D w A nL Q σ tgt lv st) (kf : F → J p l e R s m args below meth c D w A nL Q σ (pc + 3) lv st) : J p l e R s m args below meth c D w A nL Q σ pc lv (.int y :: .int x :: st) := fun H locs ls hP hS hl => lv_icmp_gt C.1 C.2.1 hd ht (fun z => kt (h.1 z) H locs ls hP hS hl) (fun z => kf (h.2 z) H locs ls hP hS hl)
theorem j_icmp_le {x y : Int32} {off : Int} {T F : Prop} (tgt : Nat) (C : Cx p s m args meth c D ty w A cc nL own ret) (hd : decode cc pc = .ok (.if_icmp .le off, 3)) (ht : (pc : Int) + off = (tgt : Int)) (h : (x ≤ y → T) ∧ (¬ x ≤ y → F)) (kt : T → J p l e R s m args below meth c D w A nL Q σ tgt lv st) (kf : F → J p l e R s m args below meth c D w A nL Q σ (pc + 3) lv st) : J p l e R s m args below meth c D w A nL Q σ pc lv (.int y :: .int x :: st) := fun H locs ls hP hS hl => lv_icmp_le C.1 C.2.1 hd ht (fun z => kt (h.1 z) H locs ls hP hS hl) (fun z => kf (h.2 z) H locs ls hP hS hl)
theorem j_tableIn {dflt lo hi : Int} {offs : Array Int} {len : Nat} {x : Int32} {off : Int} (tgt : Nat) (k : Int32) (C : Cx p s m args meth c D ty w A cc nL own ret) (hd : decode cc pc = .ok (.tableswitch dflt lo hi offs, len)) (hx : x = k) (h1 : ¬ k.toInt < lo) (h2 : ¬ hi < k.toInt) (ho : offs[(k.toInt - lo).toNat]? = some off) (ht : (pc : Int) + off = (tgt : Int)) (K : J p l e R s m args below meth c D w A nL Q σ tgt lv st) : J p l e R s m args below meth c D w A nL Q σ pc lv (.int x :: st) := fun H locs ls hP hS hl => lv_tableIn C.1 C.2.1 hd (by rw [hx]; exact h1) (by rw [hx]; exact h2) (by rw [hx]; exact ho) ht (K H locs ls hP hS hl)
theorem j_tableOut {dflt lo hi : Int} {offs : Array Int} {len : Nat} {x : Int32} (tgt : Nat) (C : Cx p s m args meth c D ty w A cc nL own ret) (hd : decode cc pc = .ok (.tableswitch dflt lo hi offs, len)) (h : x.toInt < lo ∨ hi < x.toInt) (ht : (pc : Int) + dflt = (tgt : Int)) (K : J p l e R s m args below meth c D w A nL Q σ tgt lv st) : J p l e R s m args below meth c D w A nL Q σ pc lv (.int x :: st) := fun H locs ls hP hS hl => lv_tableOut C.1 C.2.1 hd h ht (K H locs ls hP hS hl)
theorem j_lookup {dflt : Int} {ps : Array (Int × Int)} {len : Nat} {x : Int32} {off : Int} (tgt : Nat) (C : Cx p s m args meth c D ty w A cc nL own ret) (hd : decode cc pc = .ok (.lookupswitch dflt ps, len)) (hp : (ps.toList.zip (ps.toList.drop 1)).all (fun (a, next) => a.1 < next.1) = true) (ho : Op.lookupswitch.offset ps.toList dflt x.toInt = off) (ht : (pc : Int) + off = (tgt : Int)) (K : J p l e R s m args below meth c D w A nL Q σ tgt lv st) : J p l e R s m args below meth c D w A nL Q σ pc lv (.int x :: st) := fun H locs ls hP hS hl => lv_lookup C.1 C.2.1 hd hp ho ht (K H locs ls hP hS hl)
theorem j_get {ref Cn : String} {T : u_T} {N ci index a : Nat} {fs : List Value} {v : Value} (q0 k : Nat) (C : Cx p s m args meth c D ty w A cc nL own ret) (hin : ∀ w ∈ u_ws Cn T N, w ∈ TT) (he : (w σ)[q0]? = some (a, .inr (ci, fs))) (hc : cls[ci]? = some (Cn, T, N)) (hk : k < N) (hlink : Cond.fieldLink own index ref (T k).2.1 (T k).2.2.1 ∈ TT) (hsame : ref = (T k).1 ∨ Cond.sameField ref (T k).1 (T k).2.1 (T k).2.2.1 ∈ TT) (hv : fs[k]? = some v) (hd : decode cc pc = .ok (.getfield index, 3)) (K : J p l e R s m args below meth c D w A nL Q σ (pc + 3) lv (v :: st)) : J p l e R s m args below meth c D w A nL Q σ pc lv (.ref a :: st) := fun H locs ls hP hS hl =>
  va_get (D := D) C.1 C.2.1 C.2.2.2.2.1 hin C.2.2.2.1 C.2.2.2.2.2.1 hP q0 he hc k hk (C.2.2.2.2.1 _ hlink) (fun x hx => hsame.elim (fun z => by rw [z]; exact hx) (fun z => u_same (C.2.2.2.2.1 _ z) x hx)) hv hd (K H locs ls hP hS hl)
theorem j_put {ref Cn : String} {T : u_T} {N ci index a : Nat} {fs : List Value} {v : Value} {fty : FieldType} {σ' : SS} (q0 k : Nat) (C : Cx p s m args meth c D ty w A cc nL own ret) (hin : ∀ w ∈ u_ws Cn T N, w ∈ TT) (ty0 : Nat → FieldType) (hty : ∀ k, k < N → parseFieldDescriptor (T k).2.2.1 = some (ty0 k)) (hnm : ∀ a, a < N → ∀ b, b < N → a ≠ b → (T a).2.1 ≠ (T b).2.1) (he : (w σ)[q0]? = some (a, .inr (ci, fs))) (hc : cls[ci]? = some (Cn, T, N)) (hk : k < N) (hlink : Cond.fieldLink own index ref (T k).2.1 (T k).2.2.1 ∈ TT) (hsame : ref = (T k).1) (hfin : (T k).2.2.2 = false) (hd0 : parseFieldDescriptor (T k).2.2.1 = some fty) (hn : narrow fty v = v) (hfit : fits fty v = true) (hl0 : k < fs.length) (hst : (w σ).set q0 (a, .inr (ci, fs.set k v)) = w σ') (hd : decode cc pc = .ok (.putfield index, 3)) (K : J p l e R s m args below meth c D w A nL Q σ' (pc + 3) lv st) : J p l e R s m args below meth c D w A nL Q σ pc lv (v :: .ref a :: st) := fun H locs ls hP hS hl =>
  va_put (D := D) C.1 C.2.1 C.2.2.2.2.1 hin ty0 hty hnm C.2.2.2.1 C.2.2.2.2.2.1 hP (C.2.2.2.2.2.2.1 σ) hS q0 he hc k hk (C.2.2.2.2.1 _ hlink) (fun x hx => by rw [hsame]; exact hx) hfin hd0 hn hfit hl0 hd (fun H1 locs1 hP1 _ hS1 => K H1 locs1 ls (by rw [← hst]; exact hP1) hS1 hl)
theorem j_iald {a n : Nat} {cA : ClassId} {f : Nat → Int32} {i : Int32} (q0 t0 : Nat) (C : Cx p s m args meth c D ty w A cc nL own ret) (he : (w σ)[q0]? = some (a, .inl (cA, n, .inl f))) (ht : ty[t0]? = some (cA, .int)) (hin : vp_in i n) (hd : decode cc pc = .ok (.iaload, 1)) (K : J p l e R s m args below meth c D w A nL Q σ (pc + 1) lv (.int (f i.toNatClampNeg) :: st)) : J p l e R s m args below meth c D w A nL Q σ pc lv (.int i :: .ref a :: st) := fun H locs ls hP hS hl => va_iald C.1 C.2.1 C.2.2.2.2.2.1 hP q0 t0 he ht hin hd (K H locs ls hP hS hl)
theorem j_zald {a n : Nat} {cA : ClassId} {f : Nat → Int32} {i : Int32} (q0 t0 : Nat) (C : Cx p s m args meth c D ty w A cc nL own ret) (he : (w σ)[q0]? = some (a, .inl (cA, n, .inl f))) (ht : ty[t0]? = some (cA, .boolean)) (hin : vp_in i n) (hd : decode cc pc = .ok (.baload, 1)) (K : J p l e R s m args below meth c D w A nL Q σ (pc + 1) lv (.int (f i.toNatClampNeg) :: st)) : J p l e R s m args below meth c D w A nL Q σ pc lv (.int i :: .ref a :: st) := fun H locs ls hP hS hl => va_zald C.1 C.2.1 C.2.2.2.2.2.1 hP q0 t0 he ht hin hd (K H locs ls hP hS hl)
theorem j_lald {a n : Nat} {cA : ClassId} {f : Nat → Int64} {i : Int32} (q0 t0 : Nat) (C : Cx p s m args meth c D ty w A cc nL own ret) (he : (w σ)[q0]? = some (a, .inl (cA, n, .inr (.inl f)))) (ht : ty[t0]? = some (cA, .long)) (hin : vp_in i n) (hd : decode cc pc = .ok (.laload, 1)) (K : J p l e R s m args below meth c D w A nL Q σ (pc + 1) lv (.long (f i.toNatClampNeg) :: st)) : J p l e R s m args below meth c D w A nL Q σ pc lv (.int i :: .ref a :: st) := fun H locs ls hP hS hl => va_lald C.1 C.2.1 C.2.2.2.2.2.1 hP q0 t0 he ht hin hd (K H locs ls hP hS hl)
theorem j_iast {a n : Nat} {cA : ClassId} {f : Nat → Int32} {i x : Int32} {σ' : SS} (q0 t0 : Nat) (C : Cx p s m args meth c D ty w A cc nL own ret) (he : (w σ)[q0]? = some (a, .inl (cA, n, .inl f))) (ht : ty[t0]? = some (cA, .int)) (hst : (w σ).set q0 (a, .inl (cA, n, .inl (upd f i.toNatClampNeg x))) = w σ') (hin : vp_in i n) (hd : decode cc pc = .ok (.iastore, 1)) (K : J p l e R s m args below meth c D w A nL Q σ' (pc + 1) lv st) : J p l e R s m args below meth c D w A nL Q σ pc lv (.int x :: .int i :: .ref a :: st) := fun H locs ls hP hS hl => va_iast C.1 C.2.1 C.2.2.2.2.2.1 hP (C.2.2.2.2.2.2.1 σ) hS q0 t0 he ht hin hd (fun H1 locs1 hP1 _ hS1 => K H1 locs1 ls (by rw [← hst]; exact hP1) hS1 hl)
theorem j_zast {a n : Nat} {cA : ClassId} {f : Nat → Int32} {i x : Int32} {σ' : SS} (q0 t0 : Nat) (C : Cx p s m args meth c D ty w A cc nL own ret) (he : (w σ)[q0]? = some (a, .inl (cA, n, .inl f))) (ht : ty[t0]? = some (cA, .boolean)) (hst : (w σ).set q0 (a, .inl (cA, n, .inl (upd f i.toNatClampNeg (vp_nar .boolean x)))) = w σ') (hin : vp_in i n) (hd : decode cc pc = .ok (.bastore, 1)) (K : J p l e R s m args below meth c D w A nL Q σ' (pc + 1) lv st) : J p l e R s m args below meth c D w A nL Q σ pc lv (.int x :: .int i :: .ref a :: st) := fun H locs ls hP hS hl => va_zast C.1 C.2.1 C.2.2.2.2.2.1 hP (C.2.2.2.2.2.2.1 σ) hS q0 t0 he ht hin hd (fun H1 locs1 hP1 _ hS1 => K H1 locs1 ls (by rw [← hst]; exact hP1) hS1 hl)
theorem j_last {a n : Nat} {cA : ClassId} {f : Nat → Int64} {i : Int32} {x : Int64} {σ' : SS} (q0 t0 : Nat) (C : Cx p s m args meth c D ty w A cc nL own ret) (he : (w σ)[q0]? = some (a, .inl (cA, n, .inr (.inl f)))) (ht : ty[t0]? = some (cA, .long)) (hst : (w σ).set q0 (a, .inl (cA, n, .inr (.inl (vp_updL f i.toNatClampNeg x)))) = w σ') (hin : vp_in i n) (hd : decode cc pc = .ok (.lastore, 1)) (K : J p l e R s m args below meth c D w A nL Q σ' (pc + 1) lv st) : J p l e R s m args below meth c D w A nL Q σ pc lv (.long x :: .int i :: .ref a :: st) := fun H locs ls hP hS hl => va_last C.1 C.2.1 C.2.2.2.2.2.1 hP (C.2.2.2.2.2.2.1 σ) hS q0 t0 he ht hin hd (fun H1 locs1 hP1 _ hS1 => K H1 locs1 ls (by rw [← hst]; exact hP1) hS1 hl)
theorem j_alen {a : Nat} {cA : ClassId} {x : vp_A} {fty : FieldType} {v : Int32} (q0 t0 : Nat) (C : Cx p s m args meth c D ty w A cc nL own ret) (he : (w σ)[q0]? = some (a, .inl (cA, x))) (ht : ty[t0]? = some (cA, fty)) (hv : Int32.ofNat x.1 = v) (hd : decode cc pc = .ok (.arraylength, 1)) (K : J p l e R s m args below meth c D w A nL Q σ (pc + 1) lv (.int v :: st)) : J p l e R s m args below meth c D w A nL Q σ pc lv (.ref a :: st) := fun H locs ls hP hS hl => va_alen C.1 C.2.1 C.2.2.2.2.2.1 hP q0 t0 he ht hv hd (K H locs ls hP hS hl)
theorem j_mmax {index : Nat} {x y : Int32} (C : Cx p s m args meth c D ty w A cc nL own ret) (hl0 : Cond.methodLink own index Lib.Math.max.name ∈ TT) (h1 : Cond.static Lib.Math.max.name ∈ TT) (h2 : Cond.initialized "java/lang/Math" ∈ TT) (h3 : Cond.code Lib.Math.max.name Lib.Math.max.code 2 (some .int) ∈ TT) (hR : 1 ≤ R.frames ∧ (st.map fun v => v.category).sum + 13 ≤ R.locals) (hd : decode cc pc = .ok (.invokestatic index, 3)) (K : J p l e R s m args below meth c D w A nL Q σ (pc + 3) lv (.int (if x < y then y else x) :: st)) : J p l e R s m args below meth c D w A nL Q σ pc lv (.int y :: .int x :: st) := fun H locs ls hP hS hl => va_mmax C.1 C.2.1 (by rw [C.2.2.1]; exact hl.1.symm) C.2.2.2.1 (C.2.2.2.2.1 _ hl0) (C.2.2.2.2.1 _ h1) (C.2.2.2.2.1 _ h2) (C.2.2.2.2.1 _ h3) hR.1 hR.2 (Nat.zero_le _) (Nat.zero_le _) hd (K H locs ls hP hS hl)
theorem j_mmin {index : Nat} {x y : Int32} (C : Cx p s m args meth c D ty w A cc nL own ret) (hl0 : Cond.methodLink own index Lib.Math.min.name ∈ TT) (h1 : Cond.static Lib.Math.min.name ∈ TT) (h2 : Cond.initialized "java/lang/Math" ∈ TT) (h3 : Cond.code Lib.Math.min.name Lib.Math.min.code 2 (some .int) ∈ TT) (hR : 1 ≤ R.frames ∧ (st.map fun v => v.category).sum + 13 ≤ R.locals) (hd : decode cc pc = .ok (.invokestatic index, 3)) (K : J p l e R s m args below meth c D w A nL Q σ (pc + 3) lv (.int (if y < x then y else x) :: st)) : J p l e R s m args below meth c D w A nL Q σ pc lv (.int y :: .int x :: st) := fun H locs ls hP hS hl => va_mmin C.1 C.2.1 (by rw [C.2.2.1]; exact hl.1.symm) C.2.2.2.1 (C.2.2.2.2.1 _ hl0) (C.2.2.2.2.1 _ h1) (C.2.2.2.2.1 _ h2) (C.2.2.2.2.1 _ h3) hR.1 hR.2 (Nat.zero_le _) (Nat.zero_le _) hd (K H locs ls hP hS hl)
theorem j_mmaxl {index : Nat} {x y : Int64} (C : Cx p s m args meth c D ty w A cc nL own ret) (hl0 : Cond.methodLink own index Lib.MathLoose.max_long.x ∈ TT) (h1 : Cond.static Lib.MathLoose.max_long.x ∈ TT) (h2 : Cond.initialized "java/lang/Math" ∈ TT) (h3 : Cond.code Lib.MathLoose.max_long.x Lib.MathLoose.max_long.code 4 (some .long) ∈ TT) (hR : 1 ≤ R.frames ∧ (st.map fun v => v.category).sum + 15 ≤ R.locals) (hd : decode cc pc = .ok (.invokestatic index, 3)) (K : J p l e R s m args below meth c D w A nL Q σ (pc + 3) lv (.long (if y < x then x else y) :: st)) : J p l e R s m args below meth c D w A nL Q σ pc lv (.long y :: .long x :: st) := fun H locs ls hP hS hl => va_mmax_long C.1 C.2.1 (by rw [C.2.2.1]; exact hl.1.symm) C.2.2.2.1 (C.2.2.2.2.1 _ hl0) (C.2.2.2.2.1 _ h1) (C.2.2.2.2.1 _ h2) (C.2.2.2.2.1 _ h3) hR.1 hR.2 (Nat.zero_le _) (Nat.zero_le _) hd (K H locs ls hP hS hl)
theorem j_mminl {index : Nat} {x y : Int64} (C : Cx p s m args meth c D ty w A cc nL own ret) (hl0 : Cond.methodLink own index Lib.MathLoose.min_long.x ∈ TT) (h1 : Cond.static Lib.MathLoose.min_long.x ∈ TT) (h2 : Cond.initialized "java/lang/Math" ∈ TT) (h3 : Cond.code Lib.MathLoose.min_long.x Lib.MathLoose.min_long.code 4 (some .long) ∈ TT) (hR : 1 ≤ R.frames ∧ (st.map fun v => v.category).sum + 15 ≤ R.locals) (hd : decode cc pc = .ok (.invokestatic index, 3)) (K : J p l e R s m args below meth c D w A nL Q σ (pc + 3) lv (.long (if y < x then y else x) :: st)) : J p l e R s m args below meth c D w A nL Q σ pc lv (.long y :: .long x :: st) := fun H locs ls hP hS hl => va_mmin_long C.1 C.2.1 (by rw [C.2.2.1]; exact hl.1.symm) C.2.2.2.1 (C.2.2.2.2.1 _ hl0) (C.2.2.2.2.1 _ h1) (C.2.2.2.2.1 _ h2) (C.2.2.2.2.1 _ h3) hR.1 hR.2 (Nat.zero_le _) (Nat.zero_le _) hd (K H locs ls hP hS hl)
theorem j_iret {v : Int32} {Post : Int32 → SS → Prop} (C : Cx p s m args meth c D ty w A cc nL own (some .int)) (hd : decode cc pc = .ok (.ireturn, 1)) (h : Post v σ) : J p l e R s m args below meth c D w A nL (MQ below (va_Qi Post (WW D ty w) A) args s 0 0 A) σ pc lv [.int v] := fun H locs ls hP hS hl =>
  W.iret C.1 C.2.1 C.2.2.2.2.2.2.2.1 (fun t ht hW => ⟨⟨v, σ, rfl, h, by rw [ht]; exact hP, va_K.moved hW.alike C.2.2.2.2.2.1⟩, hS.F ht⟩) hS.2.2 hd C.2.2.2.2.2.2.2.2.1
theorem j_zret {v : Int32} {Post : Int32 → SS → Prop} (C : Cx p s m args meth c D ty w A cc nL own (some .boolean)) (hd : decode cc pc = .ok (.ireturn, 1)) (hn : narrow .boolean (.int v) = .int v) (h : Post v σ) : J p l e R s m args below meth c D w A nL (MQ below (va_Qi Post (WW D ty w) A) args s 0 0 A) σ pc lv [.int v] := fun H locs ls hP hS hl =>
  W.zret C.1 C.2.1 C.2.2.2.2.2.2.2.1 hn (fun t ht hW => ⟨⟨v, σ, rfl, h, by rw [ht]; exact hP, va_K.moved hW.alike C.2.2.2.2.2.1⟩, hS.F ht⟩) hS.2.2 hd C.2.2.2.2.2.2.2.2.1
theorem j_lret {v : Int64} {Post : Int64 → SS → Prop} (C : Cx p s m args meth c D ty w A cc nL own (some .long)) (hd : decode cc pc = .ok (.lreturn, 1)) (h : Post v σ) : J p l e R s m args below meth c D w A nL (MQ below (va_Ql Post (WW D ty w) A) args s 0 0 A) σ pc lv [.long v] := fun H locs ls hP hS hl =>
  W.lret C.1 C.2.1 C.2.2.2.2.2.2.2.1 (fun t ht hW => ⟨⟨v, σ, rfl, h, by rw [ht]; exact hP, va_K.moved hW.alike C.2.2.2.2.2.1⟩, hS.F ht⟩) hS.2.2 hd C.2.2.2.2.2.2.2.2.1
theorem j_vret {Post : SS → Prop} (C : Cx p s m args meth c D ty w A cc nL own none) (hd : decode cc pc = .ok (.return_, 1)) (h : Post σ) : J p l e R s m args below meth c D w A nL (MQ below (va_Qv Post (WW D ty w) A) args s 0 0 A) σ pc lv [] := fun H locs ls hP hS hl =>
  W.vret C.1 C.2.1 C.2.2.2.2.2.2.2.1 (fun t ht hW => ⟨⟨σ, rfl, h, by rw [ht]; exact hP, va_K.moved hW.alike C.2.2.2.2.2.1⟩, hS.F ht⟩) hS.2.2 hd C.2.2.2.2.2.2.2.2.1
theorem j_aret {ad : Nat → Nat} {oc : String} {Post : Nat → SS → Prop} (k : Nat) (C : Cx p s m args meth c D ty w A cc nL own (some (.object oc))) (hd : decode cc pc = .ok (.areturn, 1)) (h : Post k σ) : J p l e R s m args below meth c D w A nL (MQ below (va_Qr (fun u : Nat × SS => Post u.1 u.2) (fun u a t => a = ad u.1 ∧ WW D ty w u.2 t) A) args s 0 0 A) σ pc lv [.ref (ad k)] := fun H locs ls hP hS hl =>
  W.aret C.1 C.2.1 C.2.2.2.2.2.2.2.1 (Or.inl ⟨_, rfl⟩) (Or.inr ⟨_, rfl⟩) (fun t ht hW => ⟨⟨(k, σ), ad k, rfl, h, rfl, by rw [ht]; exact hP, va_K.moved hW.alike C.2.2.2.2.2.1⟩, hS.F ht⟩) hS.2.2 hd C.2.2.2.2.2.2.2.2.1

end JJ
theorem Ci.of {l : Launch} {y : MethodName} {cc : ByteArray} {nL : Nat} {ret : Option FieldType} {rm : Room} {D : va_G} {ty : List (ClassId × FieldType)} {w : SS → va_W} {av : List Value} {σ : SS} {Post : Int32 → SS → Prop} {lv : List (Nat × Value)} (hy : plainName y.cls = true) (hAd : Ad w) (hln : (lg_sl av).length ≤ nL) (hlv : lv_args 0 av = lv)
    (body : ∀ (p : Program) (e : Env) (s : State) (m : MethodId) (args : Array Value) (below : List Frame) (meth : Method) (c : Code) (A : Nat → Prop), Cx p s m args meth c D ty w A cc nL y.cls ret → J p l e rm s m args below meth c D w A nL (MQ below (va_Qi Post (WW D ty w) A) args s 0 0 A) σ 0 lv []) : Ci l y (.code y cc nL ret :: TT) rm D ty w av σ Post := by
  intro sz
  refine Met.ofW (cc := cc) (maxL := nL) (ret := ret) hy rfl ?_
  intro p e s m args below meth c s₁ B hml hv
  obtain ⟨rfl, hsz, hP, hK, hD0, hdk⟩ := hv
  have hts := atoms_spec (ws := .code y cc nL ret :: TT) B.pre
  have hown : s.vm.findClass y.cls = some m.cls := findClass_of_methodNamed B.named
  subst hsz
  have hD := hD0.self (sz := s.heap.size)
  have hl := lv_entry av (n := nL) hln
  rw [lg_entry_eq]
  rw [hlv] at hl
  exact body p e s m _ below meth c _ ⟨B.exec, B.bytes, hml, hown, fun w hw => hts w (List.mem_cons_of_mem _ hw), hK, fun σ' => hD.adr (hAd σ σ'), B.returns, B.notSynchronized, hdk, fun q h => Or.inr h⟩ s.heap [] _ hP va_S.rf hl
theorem Cl.of {l : Launch} {y : MethodName} {cc : ByteArray} {nL : Nat} {ret : Option FieldType} {rm : Room} {D : va_G} {ty : List (ClassId × FieldType)} {w : SS → va_W} {av : List Value} {σ : SS} {Post : Int64 → SS → Prop} {lv : List (Nat × Value)} (hy : plainName y.cls = true) (hAd : Ad w) (hln : (lg_sl av).length ≤ nL) (hlv : lv_args 0 av = lv)
    (body : ∀ (p : Program) (e : Env) (s : State) (m : MethodId) (args : Array Value) (below : List Frame) (meth : Method) (c : Code) (A : Nat → Prop), Cx p s m args meth c D ty w A cc nL y.cls ret → J p l e rm s m args below meth c D w A nL (MQ below (va_Ql Post (WW D ty w) A) args s 0 0 A) σ 0 lv []) : Cl l y (.code y cc nL ret :: TT) rm D ty w av σ Post := by
  intro sz
  refine Met.ofW (cc := cc) (maxL := nL) (ret := ret) hy rfl ?_
  intro p e s m args below meth c s₁ B hml hv
  obtain ⟨rfl, hsz, hP, hK, hD0, hdk⟩ := hv
  have hts := atoms_spec (ws := .code y cc nL ret :: TT) B.pre
  have hown : s.vm.findClass y.cls = some m.cls := findClass_of_methodNamed B.named
  subst hsz
  have hD := hD0.self (sz := s.heap.size)
  have hl := lv_entry av (n := nL) hln
  rw [lg_entry_eq]
  rw [hlv] at hl
  exact body p e s m _ below meth c _ ⟨B.exec, B.bytes, hml, hown, fun w hw => hts w (List.mem_cons_of_mem _ hw), hK, fun σ' => hD.adr (hAd σ σ'), B.returns, B.notSynchronized, hdk, fun q h => Or.inr h⟩ s.heap [] _ hP va_S.rf hl
theorem Cv.of {l : Launch} {y : MethodName} {cc : ByteArray} {nL : Nat} {ret : Option FieldType} {rm : Room} {D : va_G} {ty : List (ClassId × FieldType)} {w : SS → va_W} {av : List Value} {σ : SS} {Post : SS → Prop} {lv : List (Nat × Value)} (hy : plainName y.cls = true) (hAd : Ad w) (hln : (lg_sl av).length ≤ nL) (hlv : lv_args 0 av = lv)
    (body : ∀ (p : Program) (e : Env) (s : State) (m : MethodId) (args : Array Value) (below : List Frame) (meth : Method) (c : Code) (A : Nat → Prop), Cx p s m args meth c D ty w A cc nL y.cls ret → J p l e rm s m args below meth c D w A nL (MQ below (va_Qv Post (WW D ty w) A) args s 0 0 A) σ 0 lv []) : Cv l y (.code y cc nL ret :: TT) rm D ty w av σ Post := by
  intro sz
  refine Met.ofW (cc := cc) (maxL := nL) (ret := ret) hy rfl ?_
  intro p e s m args below meth c s₁ B hml hv
  obtain ⟨rfl, hsz, hP, hK, hD0, hdk⟩ := hv
  have hts := atoms_spec (ws := .code y cc nL ret :: TT) B.pre
  have hown : s.vm.findClass y.cls = some m.cls := findClass_of_methodNamed B.named
  subst hsz
  have hD := hD0.self (sz := s.heap.size)
  have hl := lv_entry av (n := nL) hln
  rw [lg_entry_eq]
  rw [hlv] at hl
  exact body p e s m _ below meth c _ ⟨B.exec, B.bytes, hml, hown, fun w hw => hts w (List.mem_cons_of_mem _ hw), hK, fun σ' => hD.adr (hAd σ σ'), B.returns, B.notSynchronized, hdk, fun q h => Or.inr h⟩ s.heap [] _ hP va_S.rf hl
theorem Cr.of {l : Launch} {y : MethodName} {cc : ByteArray} {nL : Nat} {ret : Option FieldType} {rm : Room} {D : va_G} {ty : List (ClassId × FieldType)} {w : SS → va_W} {ad : Nat → Nat} {av : List Value} {σ : SS} {Post : Nat → SS → Prop} {lv : List (Nat × Value)} (hy : plainName y.cls = true) (hAd : Ad w) (hln : (lg_sl av).length ≤ nL) (hlv : lv_args 0 av = lv)
    (body : ∀ (p : Program) (e : Env) (s : State) (m : MethodId) (args : Array Value) (below : List Frame) (meth : Method) (c : Code) (A : Nat → Prop), Cx p s m args meth c D ty w A cc nL y.cls ret → J p l e rm s m args below meth c D w A nL (MQ below (va_Qr (fun u : Nat × SS => Post u.1 u.2) (fun u a t => a = ad u.1 ∧ WW D ty w u.2 t) A) args s 0 0 A) σ 0 lv []) : Cr l y (.code y cc nL ret :: TT) rm D ty w ad av σ Post := by
  intro sz
  refine Met.ofW (cc := cc) (maxL := nL) (ret := ret) hy rfl ?_
  intro p e s m args below meth c s₁ B hml hv
  obtain ⟨rfl, hsz, hP, hK, hD0, hdk⟩ := hv
  have hts := atoms_spec (ws := .code y cc nL ret :: TT) B.pre
  have hown : s.vm.findClass y.cls = some m.cls := findClass_of_methodNamed B.named
  subst hsz
  have hD := hD0.self (sz := s.heap.size)
  have hl := lv_entry av (n := nL) hln
  rw [lg_entry_eq]
  rw [hlv] at hl
  exact body p e s m _ below meth c _ ⟨B.exec, B.bytes, hml, hown, fun w hw => hts w (List.mem_cons_of_mem _ hw), hK, fun σ' => hD.adr (hAd σ σ'), B.returns, B.notSynchronized, hdk, fun q h => Or.inr h⟩ s.heap [] _ hP va_S.rf hl
theorem tt_V {own : String} {idx n : Nat} {y : MethodName} {b : ByteArray} {ret : Option FieldType} (h1 : Cond.methodLink own idx y ∈ TT) (h : Cond.instanceMethod y ∈ TT ∧ Cond.selects y.cls y y ∈ TT ∧ Cond.initialized y.cls ∈ TT ∧ Cond.code y b n ret ∈ TT) : GoodIn TT (wsV own idx y.cls y (.code y b n ret :: TT)) := tt_GoodIn (by
  intro w hw
  simp only [wsV, List.mem_append, List.mem_cons, List.not_mem_nil, or_false] at hw
  rcases hw with (rfl | rfl | rfl | rfl) | rfl | hw
  · exact h1
  · exact h.1
  · exact h.2.1
  · exact h.2.2.1
  · exact h.2.2.2
  · exact hw)
theorem tt_U {own C owner : String} {idx n : Nat} {x y : MethodName} {b : ByteArray} {ret : Option FieldType} (h1 : Cond.methodLink own idx x ∈ TT) (h2 : Cond.sameMethod x.cls owner x.name x.desc ∈ TT) (h3 : Cond.selects C x y ∈ TT) (h : Cond.instanceMethod y ∈ TT ∧ Cond.initialized y.cls ∈ TT ∧ Cond.code y b n ret ∈ TT) : GoodIn TT (va_wsU own idx C owner x y (.code y b n ret :: TT)) := tt_GoodIn (by
  intro w hw
  simp only [va_wsU, List.mem_append, List.mem_cons, List.not_mem_nil, or_false] at hw
  rcases hw with (rfl | rfl | rfl | rfl | rfl) | rfl | hw
  · exact h1
  · exact h2
  · exact h3
  · exact h.1
  · exact h.2.1
  · exact h.2.2
  · exact hw)
theorem tt_S {own : String} {idx n : Nat} {y : MethodName} {b : ByteArray} {ret : Option FieldType} (h1 : Cond.methodLink own idx y ∈ TT) (h : Cond.static y ∈ TT ∧ Cond.initialized y.cls ∈ TT ∧ Cond.code y b n ret ∈ TT) : GoodIn TT (va_wsS own idx y (.code y b n ret :: TT)) := tt_GoodIn (by
  intro w hw
  simp only [va_wsS, List.mem_append, List.mem_cons, List.not_mem_nil, or_false] at hw
  rcases hw with (rfl | rfl | rfl) | rfl | hw
  · exact h1
  · exact h.1
  · exact h.2.1
  · exact h.2.2
  · exact hw)
/-- what a call asks of a method's name -/
def okY (y : MethodName) (n : Nat) : Prop := y.cls ≠ "java/lang/invoke/MethodHandle" ∧ y.cls ≠ "java/lang/invoke/VarHandle" ∧ (parseMethodDescriptor y.desc).map (fun d => d.parameters.length) = some n
theorem PP.blind {D : va_G} {ty : List (ClassId × FieldType)} {w : SS → va_W} {av : List Value} {σ : SS} {sz : Nat} : FrameBlind (PP D ty w av σ sz) := fun a U g mk q => by
  obtain ⟨q0, q1, qP, qK, qD, qN⟩ := q
  exact ⟨q0, q1, qP, va_K.moved (u := U) (U := U.calling g mk a) (Vm.Alike.refl U.vm) qK, qD, DK.same rfl qN⟩
section JC
variable {p : Program} {l : Launch} {e : Env} {R : Room} {s : State} {m : MethodId} {args : Array Value} {below : List Frame} {meth : Method} {c : Code} {D : va_G} {ty : List (ClassId × FieldType)} {w : SS → va_W} {A : Nat → Prop} {cc : ByteArray} {nL : Nat} {own : String} {ret : Option FieldType} {Q : State → Prop} {σ : SS} {pc : Nat} {lv : List (Nat × Value)} {st : List Value}
theorem Cx.free (C : Cx p s m args meth c D ty w A cc nL own ret) {H : Heap} {locs : List Loc} (hS : va_S A s.heap H locs) : ∀ q, va_A (w σ) H.size q → A q := by
  intro q h
  rcases h with ⟨k, e, h⟩ | h
  · exact (C.2.2.2.2.2.2.1 σ).2 k _ h
  · exact C.2.2.2.2.2.2.2.2.2.2 q (Nat.le_trans hS.1 h)
theorem j_calli {y : MethodName} {bytes : ByteArray} {maxL f k index b ci : Nat} {retY : Option FieldType} {T : u_T} {N : Nat} {fs : List Value} {Post : Int32 → SS → Prop} (q0 : Nat) (As rest : List Value) (C : Cx p s m args meth c D ty w A cc nL own ret) (hM : Ci l y (.code y bytes maxL retY :: TT) { frames := f, cells := 0, slots := 0, locals := k } D ty w (.ref b :: As) σ Post) (g : GoodIn TT (wsV own index y.cls y (.code y bytes maxL retY :: TT))) (hy : okY y As.length) (hR : f + 1 ≤ R.frames ∧ 8 + (maxL + 11) + k ≤ R.locals) (hc : cls[ci]? = some (y.cls, T, N)) (he : (w σ)[q0]? = some (b, .inr (ci, fs))) (hcat : (rest.map fun v => v.category).sum ≤ 8) (hst : st = As.reverse ++ .ref b :: rest) (hd : decode cc pc = .ok (.invokevirtual index, 3)) (K : ∀ (r : Int32) (σ' : SS), Post r σ' → J p l e R s m args below meth c D w A nL Q σ' (pc + 3) lv (.int r :: rest)) : J p l e R s m args below meth c D w A nL Q σ pc lv st := fun H locs ls hP hS hl => by
  subst hst
  exact va_calli (va_runV (As := As) (rest := rest) ⟨C.1, C.2.1, C.2.2.1, C.2.2.2.1, C.2.2.2.2.1⟩ (hM H.size) (cwV As.length C.2.2.2.2.1 g rfl rfl rfl ⟨rfl, hy⟩ hR) ⟨PP.blind, va_recv C.2.2.2.2.2.1 hP hc he, fun U hU hW => ⟨rfl, by rw [hU], by rw [hU]; exact hP, va_K.moved hW.alike C.2.2.2.2.2.1, (C.2.2.2.2.2.2.1 σ).weaken (fun _ _ _ _ => trivial), DK.warm hW C.2.2.2.2.2.2.2.2.2.1⟩⟩ rfl rfl hl.1 rfl (lv_room hcat) hd ⟨Nat.zero_le _, Nat.zero_le _⟩) hS (fun q _ h => C.free hS q h) (C.free hS) (fun r u t H1 locs1 ht hvm hw hB hz1 hk1 hS1 => K r u hw H1 locs1 ls (by rw [← ht]; exact hB.1) hS1 hl)
theorem j_callUi {x y : MethodName} {bytes : ByteArray} {maxL f k index b ci : Nat} {retY : Option FieldType} {T : u_T} {N : Nat} {fs : List Value} {Cn owner : String} {Post : Int32 → SS → Prop} (q0 : Nat) (As rest : List Value) (C : Cx p s m args meth c D ty w A cc nL own ret) (hM : Ci l y (.code y bytes maxL retY :: TT) { frames := f, cells := 0, slots := 0, locals := k } D ty w (.ref b :: As) σ Post) (g : GoodIn TT (va_wsU own index Cn owner x y (.code y bytes maxL retY :: TT))) (hx : ⟨owner, x.name, x.desc⟩ ∈ dks) (hy : owner ≠ "java/lang/invoke/MethodHandle" ∧ owner ≠ "java/lang/invoke/VarHandle" ∧ (parseMethodDescriptor x.desc).map (fun d => d.parameters.length) = some As.length) (hR : f + 1 ≤ R.frames ∧ 8 + (maxL + 11) + k ≤ R.locals) (hc : cls[ci]? = some (Cn, T, N)) (he : (w σ)[q0]? = some (b, .inr (ci, fs))) (hcat : (rest.map fun v => v.category).sum ≤ 8) (hst : st = As.reverse ++ .ref b :: rest) (hd : decode cc pc = .ok (.invokevirtual index, 3)) (K : ∀ (r : Int32) (σ' : SS), Post r σ' → J p l e R s m args below meth c D w A nL Q σ' (pc + 3) lv (.int r :: rest)) : J p l e R s m args below meth c D w A nL Q σ pc lv st := fun H locs ls hP hS hl => by
  subst hst
  exact va_calli (va_runU (As := As) (rest := rest) ⟨C.1, C.2.1, C.2.2.1, C.2.2.2.1, C.2.2.2.2.1⟩ (hM H.size) (va_cwA As.length C.2.2.2.2.1 g rfl rfl rfl (C.2.2.2.2.2.2.2.2.2.1 _ hx) hy hR) ⟨PP.blind, va_recv C.2.2.2.2.2.1 hP hc he, fun U hU hW => ⟨rfl, by rw [hU], by rw [hU]; exact hP, va_K.moved hW.alike C.2.2.2.2.2.1, (C.2.2.2.2.2.2.1 σ).weaken (fun _ _ _ _ => trivial), DK.warm hW C.2.2.2.2.2.2.2.2.2.1⟩⟩ rfl rfl hl.1 rfl (lv_room hcat) hd ⟨Nat.zero_le _, Nat.zero_le _⟩) hS (fun q _ h => C.free hS q h) (C.free hS) (fun r u t H1 locs1 ht hvm hw hB hz1 hk1 hS1 => K r u hw H1 locs1 ls (by rw [← ht]; exact hB.1) hS1 hl)
theorem j_callSi {y : MethodName} {bytes : ByteArray} {maxL f k index : Nat} {retY : Option FieldType} {Post : Int32 → SS → Prop} (As rest : List Value) (C : Cx p s m args meth c D ty w A cc nL own ret) (hM : Ci l y (.code y bytes maxL retY :: TT) { frames := f, cells := 0, slots := 0, locals := k } D ty w As σ Post) (g : GoodIn TT (va_wsS own index y (.code y bytes maxL retY :: TT))) (hy : okY y As.length) (hR : f + 1 ≤ R.frames ∧ 8 + (maxL + 11) + k ≤ R.locals) (hcat : (rest.map fun v => v.category).sum ≤ 8) (hst : st = As.reverse ++ rest) (hd : decode cc pc = .ok (.invokestatic index, 3)) (K : ∀ (r : Int32) (σ' : SS), Post r σ' → J p l e R s m args below meth c D w A nL Q σ' (pc + 3) lv (.int r :: rest)) : J p l e R s m args below meth c D w A nL Q σ pc lv st := fun H locs ls hP hS hl => by
  subst hst
  exact va_calli (va_runS (As := As) (rest := rest) ⟨C.1, C.2.1, C.2.2.1, C.2.2.2.1, C.2.2.2.2.1⟩ (hM H.size) (va_cwS As.length C.2.2.2.2.1 g rfl rfl rfl hy hR) ⟨PP.blind, fun U hU hW => ⟨rfl, by rw [hU], by rw [hU]; exact hP, va_K.moved hW.alike C.2.2.2.2.2.1, (C.2.2.2.2.2.2.1 σ).weaken (fun _ _ _ _ => trivial), DK.warm hW C.2.2.2.2.2.2.2.2.2.1⟩⟩ rfl rfl hl.1 rfl (lv_room hcat) hd ⟨Nat.zero_le _, Nat.zero_le _⟩) hS (fun q _ h => C.free hS q h) (C.free hS) (fun r u t H1 locs1 ht hvm hw hB hz1 hk1 hS1 => K r u hw H1 locs1 ls (by rw [← ht]; exact hB.1) hS1 hl)
theorem j_calll {y : MethodName} {bytes : ByteArray} {maxL f k index b ci : Nat} {retY : Option FieldType} {T : u_T} {N : Nat} {fs : List Value} {Post : Int64 → SS → Prop} (q0 : Nat) (As rest : List Value) (C : Cx p s m args meth c D ty w A cc nL own ret) (hM : Cl l y (.code y bytes maxL retY :: TT) { frames := f, cells := 0, slots := 0, locals := k } D ty w (.ref b :: As) σ Post) (g : GoodIn TT (wsV own index y.cls y (.code y bytes maxL retY :: TT))) (hy : okY y As.length) (hR : f + 1 ≤ R.frames ∧ 8 + (maxL + 11) + k ≤ R.locals) (hc : cls[ci]? = some (y.cls, T, N)) (he : (w σ)[q0]? = some (b, .inr (ci, fs))) (hcat : (rest.map fun v => v.category).sum ≤ 8) (hst : st = As.reverse ++ .ref b :: rest) (hd : decode cc pc = .ok (.invokevirtual index, 3)) (K : ∀ (r : Int64) (σ' : SS), Post r σ' → J p l e R s m args below meth c D w A nL Q σ' (pc + 3) lv (.long r :: rest)) : J p l e R s m args below meth c D w A nL Q σ pc lv st := fun H locs ls hP hS hl => by
  subst hst
  exact va_calll (va_runV (As := As) (rest := rest) ⟨C.1, C.2.1, C.2.2.1, C.2.2.2.1, C.2.2.2.2.1⟩ (hM H.size) (cwV As.length C.2.2.2.2.1 g rfl rfl rfl ⟨rfl, hy⟩ hR) ⟨PP.blind, va_recv C.2.2.2.2.2.1 hP hc he, fun U hU hW => ⟨rfl, by rw [hU], by rw [hU]; exact hP, va_K.moved hW.alike C.2.2.2.2.2.1, (C.2.2.2.2.2.2.1 σ).weaken (fun _ _ _ _ => trivial), DK.warm hW C.2.2.2.2.2.2.2.2.2.1⟩⟩ rfl rfl hl.1 rfl (lv_room hcat) hd ⟨Nat.zero_le _, Nat.zero_le _⟩) hS (fun q _ h => C.free hS q h) (C.free hS) (fun r u t H1 locs1 ht hvm hw hB hz1 hk1 hS1 => K r u hw H1 locs1 ls (by rw [← ht]; exact hB.1) hS1 hl)
theorem j_callv {y : MethodName} {bytes : ByteArray} {maxL f k index b ci : Nat} {retY : Option FieldType} {T : u_T} {N : Nat} {fs : List Value} {Post : SS → Prop} (q0 : Nat) (As rest : List Value) (C : Cx p s m args meth c D ty w A cc nL own ret) (hM : Cv l y (.code y bytes maxL retY :: TT) { frames := f, cells := 0, slots := 0, locals := k } D ty w (.ref b :: As) σ Post) (g : GoodIn TT (wsV own index y.cls y (.code y bytes maxL retY :: TT))) (hy : okY y As.length) (hR : f + 1 ≤ R.frames ∧ 8 + (maxL + 11) + k ≤ R.locals) (hc : cls[ci]? = some (y.cls, T, N)) (he : (w σ)[q0]? = some (b, .inr (ci, fs))) (hcat : (rest.map fun v => v.category).sum ≤ 8) (hst : st = As.reverse ++ .ref b :: rest) (hd : decode cc pc = .ok (.invokevirtual index, 3)) (K : ∀ (σ' : SS), Post σ' → J p l e R s m args below meth c D w A nL Q σ' (pc + 3) lv rest) : J p l e R s m args below meth c D w A nL Q σ pc lv st := fun H locs ls hP hS hl => by
  subst hst
  exact va_callv (va_runV (As := As) (rest := rest) ⟨C.1, C.2.1, C.2.2.1, C.2.2.2.1, C.2.2.2.2.1⟩ (hM H.size) (cwV As.length C.2.2.2.2.1 g rfl rfl rfl ⟨rfl, hy⟩ hR) ⟨PP.blind, va_recv C.2.2.2.2.2.1 hP hc he, fun U hU hW => ⟨rfl, by rw [hU], by rw [hU]; exact hP, va_K.moved hW.alike C.2.2.2.2.2.1, (C.2.2.2.2.2.2.1 σ).weaken (fun _ _ _ _ => trivial), DK.warm hW C.2.2.2.2.2.2.2.2.2.1⟩⟩ rfl rfl hl.1 rfl (lv_room hcat) hd ⟨Nat.zero_le _, Nat.zero_le _⟩) hS (fun q _ h => C.free hS q h) (C.free hS) (fun u t H1 locs1 ht hvm hw hB hz1 hk1 hS1 => K u hw H1 locs1 ls (by rw [← ht]; exact hB.1) hS1 hl)
theorem j_callUv {x y : MethodName} {bytes : ByteArray} {maxL f k index b ci : Nat} {retY : Option FieldType} {T : u_T} {N : Nat} {fs : List Value} {Cn owner : String} {Post : SS → Prop} (q0 : Nat) (As rest : List Value) (C : Cx p s m args meth c D ty w A cc nL own ret) (hM : Cv l y (.code y bytes maxL retY :: TT) { frames := f, cells := 0, slots := 0, locals := k } D ty w (.ref b :: As) σ Post) (g : GoodIn TT (va_wsU own index Cn owner x y (.code y bytes maxL retY :: TT))) (hx : ⟨owner, x.name, x.desc⟩ ∈ dks) (hy : owner ≠ "java/lang/invoke/MethodHandle" ∧ owner ≠ "java/lang/invoke/VarHandle" ∧ (parseMethodDescriptor x.desc).map (fun d => d.parameters.length) = some As.length) (hR : f + 1 ≤ R.frames ∧ 8 + (maxL + 11) + k ≤ R.locals) (hc : cls[ci]? = some (Cn, T, N)) (he : (w σ)[q0]? = some (b, .inr (ci, fs))) (hcat : (rest.map fun v => v.category).sum ≤ 8) (hst : st = As.reverse ++ .ref b :: rest) (hd : decode cc pc = .ok (.invokevirtual index, 3)) (K : ∀ (σ' : SS), Post σ' → J p l e R s m args below meth c D w A nL Q σ' (pc + 3) lv rest) : J p l e R s m args below meth c D w A nL Q σ pc lv st := fun H locs ls hP hS hl => by
  subst hst
  exact va_callv (va_runU (As := As) (rest := rest) ⟨C.1, C.2.1, C.2.2.1, C.2.2.2.1, C.2.2.2.2.1⟩ (hM H.size) (va_cwA As.length C.2.2.2.2.1 g rfl rfl rfl (C.2.2.2.2.2.2.2.2.2.1 _ hx) hy hR) ⟨PP.blind, va_recv C.2.2.2.2.2.1 hP hc he, fun U hU hW => ⟨rfl, by rw [hU], by rw [hU]; exact hP, va_K.moved hW.alike C.2.2.2.2.2.1, (C.2.2.2.2.2.2.1 σ).weaken (fun _ _ _ _ => trivial), DK.warm hW C.2.2.2.2.2.2.2.2.2.1⟩⟩ rfl rfl hl.1 rfl (lv_room hcat) hd ⟨Nat.zero_le _, Nat.zero_le _⟩) hS (fun q _ h => C.free hS q h) (C.free hS) (fun u t H1 locs1 ht hvm hw hB hz1 hk1 hS1 => K u hw H1 locs1 ls (by rw [← ht]; exact hB.1) hS1 hl)
theorem j_callSv {y : MethodName} {bytes : ByteArray} {maxL f k index : Nat} {retY : Option FieldType} {Post : SS → Prop} (As rest : List Value) (C : Cx p s m args meth c D ty w A cc nL own ret) (hM : Cv l y (.code y bytes maxL retY :: TT) { frames := f, cells := 0, slots := 0, locals := k } D ty w As σ Post) (g : GoodIn TT (va_wsS own index y (.code y bytes maxL retY :: TT))) (hy : okY y As.length) (hR : f + 1 ≤ R.frames ∧ 8 + (maxL + 11) + k ≤ R.locals) (hcat : (rest.map fun v => v.category).sum ≤ 8) (hst : st = As.reverse ++ rest) (hd : decode cc pc = .ok (.invokestatic index, 3)) (K : ∀ (σ' : SS), Post σ' → J p l e R s m args below meth c D w A nL Q σ' (pc + 3) lv rest) : J p l e R s m args below meth c D w A nL Q σ pc lv st := fun H locs ls hP hS hl => by
  subst hst
  exact va_callv (va_runS (As := As) (rest := rest) ⟨C.1, C.2.1, C.2.2.1, C.2.2.2.1, C.2.2.2.2.1⟩ (hM H.size) (va_cwS As.length C.2.2.2.2.1 g rfl rfl rfl hy hR) ⟨PP.blind, fun U hU hW => ⟨rfl, by rw [hU], by rw [hU]; exact hP, va_K.moved hW.alike C.2.2.2.2.2.1, (C.2.2.2.2.2.2.1 σ).weaken (fun _ _ _ _ => trivial), DK.warm hW C.2.2.2.2.2.2.2.2.2.1⟩⟩ rfl rfl hl.1 rfl (lv_room hcat) hd ⟨Nat.zero_le _, Nat.zero_le _⟩) hS (fun q _ h => C.free hS q h) (C.free hS) (fun u t H1 locs1 ht hvm hw hB hz1 hk1 hS1 => K u hw H1 locs1 ls (by rw [← ht]; exact hB.1) hS1 hl)
theorem j_callr {y : MethodName} {bytes : ByteArray} {maxL f k index b ci : Nat} {retY : Option FieldType} {T : u_T} {N : Nat} {fs : List Value} {ad : Nat → Nat} {Post : Nat → SS → Prop} (q0 : Nat) (As rest : List Value) (C : Cx p s m args meth c D ty w A cc nL own ret) (hM : Cr l y (.code y bytes maxL retY :: TT) { frames := f, cells := 0, slots := 0, locals := k } D ty w ad (.ref b :: As) σ Post) (g : GoodIn TT (wsV own index y.cls y (.code y bytes maxL retY :: TT))) (hy : okY y As.length) (hR : f + 1 ≤ R.frames ∧ 8 + (maxL + 11) + k ≤ R.locals) (hc : cls[ci]? = some (y.cls, T, N)) (he : (w σ)[q0]? = some (b, .inr (ci, fs))) (hcat : (rest.map fun v => v.category).sum ≤ 8) (hst : st = As.reverse ++ .ref b :: rest) (hd : decode cc pc = .ok (.invokevirtual index, 3)) (K : ∀ (r : Nat) (σ' : SS), Post r σ' → J p l e R s m args below meth c D w A nL Q σ' (pc + 3) lv (.ref (ad r) :: rest)) : J p l e R s m args below meth c D w A nL Q σ pc lv st := fun H locs ls hP hS hl => by
  subst hst
  exact va_callr (va_runV (As := As) (rest := rest) ⟨C.1, C.2.1, C.2.2.1, C.2.2.2.1, C.2.2.2.2.1⟩ (hM H.size) (cwV As.length C.2.2.2.2.1 g rfl rfl rfl ⟨rfl, hy⟩ hR) ⟨PP.blind, va_recv C.2.2.2.2.2.1 hP hc he, fun U hU hW => ⟨rfl, by rw [hU], by rw [hU]; exact hP, va_K.moved hW.alike C.2.2.2.2.2.1, (C.2.2.2.2.2.2.1 σ).weaken (fun _ _ _ _ => trivial), DK.warm hW C.2.2.2.2.2.2.2.2.2.1⟩⟩ rfl rfl hl.1 rfl (lv_room hcat) hd ⟨Nat.zero_le _, Nat.zero_le _⟩) hS (fun q _ h => C.free hS q h) (C.free hS) (fun u ra t H1 locs1 ht hvm hw hB hz1 hk1 hS1 => by rw [hB.1]; exact K u.1 u.2 hw H1 locs1 ls (by rw [← ht]; exact hB.2.1) hS1 hl)
end JC
end
section
def wX (cI cJ : ClassId) (ad : Nat → Nat) (kv : Value) (σ : SS) : va_W := [(ad 0, .inr (2, [.ref (ad 1), .ref (ad 2), .ref (ad 3), .ref (ad 4), .ref (ad 5), .ref (ad 6), .ref (ad 7), .ref (ad 8), .ref (ad 9), .ref (ad 10), .ref (ad 11), .int (gI σ 0), .int (gI σ 1)])),
  (ad 1, .inl (cI, 40, .inl (gA σ 0))),
  (ad 2, .inl (cJ, 2560, .inr (.inl (gB σ 0)))),
  (ad 3, .inl (cI, 2560, .inl (gA σ 1))),
  (ad 4, .inl (cI, 8, .inl (gA σ 2))),
  (ad 5, .inl (cJ, 8, .inr (.inl (gB σ 1)))),
  (ad 6, .inl (cI, 100, .inl (gA σ 3))),
  (ad 7, .inl (cI, 100, .inl (gA σ 4))),
  (ad 8, .inl (cI, 100, .inl (gA σ 5))),
  (ad 9, .inl (cI, 100, .inl (gA σ 6))),
  (ad 10, .inl (cI, 100, .inl (gA σ 7))),
  (ad 11, .inl (cI, 4, .inl (gA σ 8))),
  (ad 12, .inr (1, [.ref (ad 0), .ref (ad 13), .ref (ad 14), .int (gI σ 2), .int (gI σ 3), .int (gI σ 4), .int (gI σ 5), .int (gI σ 6)])),
  (ad 13, .inl (cI, 4, .inl (gA σ 9))),
  (ad 14, .inl (cI, 4, .inl (gA σ 10))),
  (ad 15, .inr (4, [.ref (ad 0)])),
  (ad 16, .inr (0, [.ref (ad 0)])),
  (ad 17, .inr (3, [.ref (ad 0)])),
  (ad 18, .inr (5, [.ref (ad 0), .ref (ad 12), .ref (ad 15), .ref (ad 16), .ref (ad 17), .ref (ad 19), kv, .long (gL σ 0)])),
  (ad 19, .inl (cI, 10, .inl (gA σ 11)))]
def wM (cI cJ cZ : ClassId) (ad : Nat → Nat) (σ : SS) : va_W := [(ad 0, .inr (6, [.int (gI σ 0), .ref (ad 1), .ref (ad 2), .ref (ad 3), .ref (ad 4), .int (gI σ 1), .ref (ad 5), .ref (ad 6), .ref (ad 7), .ref (ad 8), .ref (ad 9), .ref (ad 10), .ref (ad 11), .int (gI σ 2), .ref (ad 12), .long (gL σ 0), .ref (ad 13), .int (gI σ 3), .int (gI σ 4), .ref (ad 14), .ref (ad 15), .ref (ad 16), .ref (ad 17), .int (gI σ 5), .ref (ad 18), .ref (ad 19), .ref (ad 20), .ref (ad 21), .ref (ad 22), .ref (ad 23), .ref (ad 24), .int (gI σ 6), .ref (ad 25), .ref (ad 26), .int (gI σ 7), .int (gI σ 8), .int (gI σ 9), .int (gI σ 10), .int (gI σ 11), .int (gI σ 12), .int (gI σ 13), .int (gI σ 14), .int (gI σ 15)])),
  (ad 1, .inl (cI, 40, .inl (gA σ 0))),
  (ad 2, .inl (cJ, 2560, .inr (.inl (gB σ 0)))),
  (ad 3, .inl (cI, 2560, .inl (gA σ 1))),
  (ad 4, .inl (cI, 2560, .inl (gA σ 2))),
  (ad 5, .inl (cI, 8, .inl (gA σ 3))),
  (ad 6, .inl (cJ, 8, .inr (.inl (gB σ 1)))),
  (ad 7, .inl (cI, 100, .inl (gA σ 4))),
  (ad 8, .inl (cZ, 100, .inl (gA σ 5))),
  (ad 9, .inl (cI, 100, .inl (gA σ 6))),
  (ad 10, .inl (cI, 100, .inl (gA σ 7))),
  (ad 11, .inl (cI, 100, .inl (gA σ 8))),
  (ad 12, .inl (cI, 4, .inl (gA σ 9))),
  (ad 13, .inl (cI, 10, .inl (gA σ 10))),
  (ad 14, .inl (cI, 40, .inl (gA σ 11))),
  (ad 15, .inl (cJ, 2560, .inr (.inl (gB σ 2)))),
  (ad 16, .inl (cI, 2560, .inl (gA σ 12))),
  (ad 17, .inl (cI, 2560, .inl (gA σ 13))),
  (ad 18, .inl (cI, 8, .inl (gA σ 14))),
  (ad 19, .inl (cJ, 8, .inr (.inl (gB σ 3)))),
  (ad 20, .inl (cI, 100, .inl (gA σ 15))),
  (ad 21, .inl (cZ, 100, .inl (gA σ 16))),
  (ad 22, .inl (cI, 100, .inl (gA σ 17))),
  (ad 23, .inl (cI, 100, .inl (gA σ 18))),
  (ad 24, .inl (cI, 100, .inl (gA σ 19))),
  (ad 25, .inl (cI, 4, .inl (gA σ 20))),
  (ad 26, .inl (cJ, 2000, .inr (.inl (gB σ 4))))]
theorem adX {cI cJ : ClassId} {ad : Nat → Nat} {kv : Value} : Ad (wX cI cJ ad kv) := fun _ _ => rfl
theorem adM {cI cJ cZ : ClassId} {ad : Nat → Nat} : Ad (wM cI cJ cZ ad) := fun _ _ => rfl
theorem inTX0 : ∀ w ∈ u_ws RX0 TX0 1, w ∈ TT := by decide +kernel
theorem inTX1 : ∀ w ∈ u_ws RX1 TX1 8, w ∈ TT := by decide +kernel
theorem inTX3 : ∀ w ∈ u_ws RX3 TX3 13, w ∈ TT := by decide +kernel
theorem inTX4 : ∀ w ∈ u_ws RX4 TX4 1, w ∈ TT := by decide +kernel
theorem inTX5 : ∀ w ∈ u_ws RX5 TX5 1, w ∈ TT := by decide +kernel
theorem inTX6 : ∀ w ∈ u_ws RX6 TX6 8, w ∈ TT := by decide +kernel
theorem inTX7 : ∀ w ∈ u_ws RX7 TX7 43, w ∈ TT := by decide +kernel
theorem mi_L : Cond.initialized "RoomWardenLaw" ∈ TT := tt_of 53 (by decide +kernel) (by decide +kernel)
theorem mi_X6 : Cond.initialized RX6 ∈ TT := tt_of 54 (by decide +kernel) (by decide +kernel)
theorem mi_X3 : Cond.initialized RX3 ∈ TT := tt_of 55 (by decide +kernel) (by decide +kernel)
theorem mi_J7 : Cond.initialized RJ7 ∈ TT := tt_of 56 (by decide +kernel) (by decide +kernel)
theorem mi_X1 : Cond.initialized RX1 ∈ TT := tt_of 57 (by decide +kernel) (by decide +kernel)
theorem mi_X2 : Cond.initialized RX2 ∈ TT := tt_of 58 (by decide +kernel) (by decide +kernel)
theorem mi_X5 : Cond.initialized RX5 ∈ TT := tt_of 59 (by decide +kernel) (by decide +kernel)
theorem mi_X0 : Cond.initialized RX0 ∈ TT := tt_of 60 (by decide +kernel) (by decide +kernel)
theorem mi_X4 : Cond.initialized RX4 ∈ TT := tt_of 61 (by decide +kernel) (by decide +kernel)
theorem mi_X7 : Cond.initialized RX7 ∈ TT := tt_of 62 (by decide +kernel) (by decide +kernel)
theorem mi_J9 : Cond.initialized RJ9 ∈ TT := tt_of 63 (by decide +kernel) (by decide +kernel)
theorem mi_J10 : Cond.initialized RJ10 ∈ TT := tt_of 64 (by decide +kernel) (by decide +kernel)
theorem ml_L_9 : Cond.methodLink "RoomWardenLaw" 9 yX6_init ∈ TT := tt_of 67 (by decide +kernel) (by decide +kernel)
theorem ml_X6_3 : Cond.methodLink RX6 3 objectInit ∈ TT := tt_of 70 (by decide +kernel) (by decide +kernel)
theorem ml_X6_11 : Cond.methodLink RX6 11 yX3_init ∈ TT := tt_of 75 (by decide +kernel) (by decide +kernel)
theorem ml_X3_3 : Cond.methodLink RX3 3 objectInit ∈ TT := tt_of 78 (by decide +kernel) (by decide +kernel)
theorem ml_X3_53 : Cond.methodLink RX3 53 yJ7_fill_53178 ∈ TT := tt_of 79 (by decide +kernel) (by decide +kernel)
theorem mf_X3_9 : Cond.fieldLink RX3 9 "RoomWarden$Room" "owner" "[I" ∈ TT := tt_of 82 (by decide +kernel) (by decide +kernel)
theorem mf_X6_67 : Cond.fieldLink RX6 67 "RoomWarden$Room" "owner" "[I" ∈ TT := tt_of 83 (by decide +kernel) (by decide +kernel)
theorem mf_X0_40 : Cond.fieldLink RX0 40 "RoomWarden$Room" "owner" "[I" ∈ TT := tt_of 84 (by decide +kernel) (by decide +kernel)
theorem mf_X5_27 : Cond.fieldLink RX5 27 "RoomWarden$Room" "owner" "[I" ∈ TT := tt_of 85 (by decide +kernel) (by decide +kernel)
theorem mf_X4_87 : Cond.fieldLink RX4 87 "RoomWarden$Room" "owner" "[I" ∈ TT := tt_of 86 (by decide +kernel) (by decide +kernel)
theorem mf_X3_15 : Cond.fieldLink RX3 15 "RoomWarden$Room" "numbers" "[J" ∈ TT := tt_of 87 (by decide +kernel) (by decide +kernel)
theorem mf_X3_19 : Cond.fieldLink RX3 19 "RoomWarden$Room" "piece" "[I" ∈ TT := tt_of 88 (by decide +kernel) (by decide +kernel)
theorem mf_X3_22 : Cond.fieldLink RX3 22 "RoomWarden$Room" "zoneKind" "[I" ∈ TT := tt_of 89 (by decide +kernel) (by decide +kernel)
theorem mf_X6_190 : Cond.fieldLink RX6 190 "RoomWarden$Room" "zoneKind" "[I" ∈ TT := tt_of 90 (by decide +kernel) (by decide +kernel)
theorem mf_X3_25 : Cond.fieldLink RX3 25 "RoomWarden$Room" "zoneBy" "[J" ∈ TT := tt_of 91 (by decide +kernel) (by decide +kernel)
theorem mf_X3_28 : Cond.fieldLink RX3 28 "RoomWarden$Room" "given" "[I" ∈ TT := tt_of 92 (by decide +kernel) (by decide +kernel)
theorem mf_X6_100 : Cond.fieldLink RX6 100 "RoomWarden$Room" "given" "[I" ∈ TT := tt_of 93 (by decide +kernel) (by decide +kernel)
theorem mf_X3_31 : Cond.fieldLink RX3 31 "RoomWarden$Room" "blockZone" "[I" ∈ TT := tt_of 94 (by decide +kernel) (by decide +kernel)
theorem mf_X6_119 : Cond.fieldLink RX6 119 "RoomWarden$Room" "blockZone" "[I" ∈ TT := tt_of 95 (by decide +kernel) (by decide +kernel)
theorem mf_X4_67 : Cond.fieldLink RX4 67 "RoomWarden$Room" "blockZone" "[I" ∈ TT := tt_of 96 (by decide +kernel) (by decide +kernel)
theorem mf_X3_34 : Cond.fieldLink RX3 34 "RoomWarden$Room" "blockPlace" "[I" ∈ TT := tt_of 97 (by decide +kernel) (by decide +kernel)
theorem mf_X4_61 : Cond.fieldLink RX4 61 "RoomWarden$Room" "blockPlace" "[I" ∈ TT := tt_of 98 (by decide +kernel) (by decide +kernel)
theorem mf_X0_55 : Cond.fieldLink RX0 55 "RoomWarden$Room" "blockPlace" "[I" ∈ TT := tt_of 99 (by decide +kernel) (by decide +kernel)
theorem mf_X6_122 : Cond.fieldLink RX6 122 "RoomWarden$Room" "blockPlace" "[I" ∈ TT := tt_of 100 (by decide +kernel) (by decide +kernel)
theorem mf_X3_37 : Cond.fieldLink RX3 37 "RoomWarden$Room" "blockLength" "[I" ∈ TT := tt_of 101 (by decide +kernel) (by decide +kernel)
theorem mf_X0_52 : Cond.fieldLink RX0 52 "RoomWarden$Room" "blockLength" "[I" ∈ TT := tt_of 102 (by decide +kernel) (by decide +kernel)
theorem mf_X4_64 : Cond.fieldLink RX4 64 "RoomWarden$Room" "blockLength" "[I" ∈ TT := tt_of 103 (by decide +kernel) (by decide +kernel)
theorem mf_X6_125 : Cond.fieldLink RX6 125 "RoomWarden$Room" "blockLength" "[I" ∈ TT := tt_of 104 (by decide +kernel) (by decide +kernel)
theorem mf_X3_40 : Cond.fieldLink RX3 40 "RoomWarden$Room" "blockSize" "[I" ∈ TT := tt_of 105 (by decide +kernel) (by decide +kernel)
theorem mf_X4_54 : Cond.fieldLink RX4 54 "RoomWarden$Room" "blockSize" "[I" ∈ TT := tt_of 106 (by decide +kernel) (by decide +kernel)
theorem mf_X6_132 : Cond.fieldLink RX6 132 "RoomWarden$Room" "blockSize" "[I" ∈ TT := tt_of 107 (by decide +kernel) (by decide +kernel)
theorem mf_X1_90 : Cond.fieldLink RX1 90 "RoomWarden$Room" "blockSize" "[I" ∈ TT := tt_of 108 (by decide +kernel) (by decide +kernel)
theorem mf_X3_43 : Cond.fieldLink RX3 43 "RoomWarden$Room" "held" "[I" ∈ TT := tt_of 109 (by decide +kernel) (by decide +kernel)
theorem mf_X6_229 : Cond.fieldLink RX6 229 "RoomWarden$Room" "held" "[I" ∈ TT := tt_of 110 (by decide +kernel) (by decide +kernel)
theorem mf_X3_46 : Cond.fieldLink RX3 46 "RoomWarden$Room" "pages" "I" ∈ TT := tt_of 111 (by decide +kernel) (by decide +kernel)
theorem mf_X6_63 : Cond.fieldLink RX6 63 "RoomWarden$Room" "pages" "I" ∈ TT := tt_of 112 (by decide +kernel) (by decide +kernel)
theorem mf_X0_58 : Cond.fieldLink RX0 58 "RoomWarden$Room" "pages" "I" ∈ TT := tt_of 113 (by decide +kernel) (by decide +kernel)
theorem mf_X5_35 : Cond.fieldLink RX5 35 "RoomWarden$Room" "pages" "I" ∈ TT := tt_of 114 (by decide +kernel) (by decide +kernel)
theorem mf_X4_90 : Cond.fieldLink RX4 90 "RoomWarden$Room" "pages" "I" ∈ TT := tt_of 115 (by decide +kernel) (by decide +kernel)
theorem mf_X3_50 : Cond.fieldLink RX3 50 "RoomWarden$Room" "zones" "I" ∈ TT := tt_of 116 (by decide +kernel) (by decide +kernel)
theorem mf_X6_72 : Cond.fieldLink RX6 72 "RoomWarden$Room" "zones" "I" ∈ TT := tt_of 117 (by decide +kernel) (by decide +kernel)
theorem ml_X6_18 : Cond.methodLink RX6 18 yX1_init ∈ TT := tt_of 149 (by decide +kernel) (by decide +kernel)
theorem ml_X1_3 : Cond.methodLink RX1 3 objectInit ∈ TT := tt_of 152 (by decide +kernel) (by decide +kernel)
theorem mf_X1_18 : Cond.fieldLink RX1 18 "RoomWarden$Chart" "room" "LRoomWarden$Room;" ∈ TT := tt_of 153 (by decide +kernel) (by decide +kernel)
theorem mf_X1_9 : Cond.fieldLink RX1 9 "RoomWarden$Chart" "partKind" "[I" ∈ TT := tt_of 154 (by decide +kernel) (by decide +kernel)
theorem mf_X1_15 : Cond.fieldLink RX1 15 "RoomWarden$Chart" "partLength" "[I" ∈ TT := tt_of 155 (by decide +kernel) (by decide +kernel)
theorem mf_X1_22 : Cond.fieldLink RX1 22 "RoomWarden$Chart" "parts" "I" ∈ TT := tt_of 156 (by decide +kernel) (by decide +kernel)
theorem mf_X1_26 : Cond.fieldLink RX1 26 "RoomWarden$Chart" "start" "I" ∈ TT := tt_of 157 (by decide +kernel) (by decide +kernel)
theorem mf_X1_29 : Cond.fieldLink RX1 29 "RoomWarden$Chart" "place" "I" ∈ TT := tt_of 158 (by decide +kernel) (by decide +kernel)
theorem mf_X6_205 : Cond.fieldLink RX6 205 "RoomWarden$Chart" "place" "I" ∈ TT := tt_of 159 (by decide +kernel) (by decide +kernel)
theorem mf_X1_32 : Cond.fieldLink RX1 32 "RoomWarden$Chart" "length" "I" ∈ TT := tt_of 160 (by decide +kernel) (by decide +kernel)
theorem mf_X6_208 : Cond.fieldLink RX6 208 "RoomWarden$Chart" "length" "I" ∈ TT := tt_of 161 (by decide +kernel) (by decide +kernel)
theorem mf_X1_35 : Cond.fieldLink RX1 35 "RoomWarden$Chart" "kind" "I" ∈ TT := tt_of 162 (by decide +kernel) (by decide +kernel)
theorem mf_X6_211 : Cond.fieldLink RX6 211 "RoomWarden$Chart" "kind" "I" ∈ TT := tt_of 163 (by decide +kernel) (by decide +kernel)
theorem ml_X6_27 : Cond.methodLink RX6 27 yX5_init ∈ TT := tt_of 183 (by decide +kernel) (by decide +kernel)
theorem ml_X5_3 : Cond.methodLink RX5 3 yX2_init ∈ TT := tt_of 186 (by decide +kernel) (by decide +kernel)
theorem ml_X2_1 : Cond.methodLink RX2 1 objectInit ∈ TT := tt_of 189 (by decide +kernel) (by decide +kernel)
theorem mf_X2_7 : Cond.fieldLink RX2 7 "RoomWarden$Keeper" "room" "LRoomWarden$Room;" ∈ TT := tt_of 190 (by decide +kernel) (by decide +kernel)
theorem mf_X5_9 : Cond.fieldLink RX5 9 "RoomWarden$SlabKeeper" "room" "LRoomWarden$Room;" ∈ TT := tt_of 191 (by decide +kernel) (by decide +kernel)
theorem msf_X5 : Cond.sameField "RoomWarden$SlabKeeper" "RoomWarden$Keeper" "room" "LRoomWarden$Room;" ∈ TT := tt_of 192 (by decide +kernel) (by decide +kernel)
theorem mf_X0_9 : Cond.fieldLink RX0 9 "RoomWarden$BuddyKeeper" "room" "LRoomWarden$Room;" ∈ TT := tt_of 193 (by decide +kernel) (by decide +kernel)
theorem msf_X0 : Cond.sameField "RoomWarden$BuddyKeeper" "RoomWarden$Keeper" "room" "LRoomWarden$Room;" ∈ TT := tt_of 194 (by decide +kernel) (by decide +kernel)
theorem mf_X4_9 : Cond.fieldLink RX4 9 "RoomWarden$RowKeeper" "room" "LRoomWarden$Room;" ∈ TT := tt_of 195 (by decide +kernel) (by decide +kernel)
theorem msf_X4 : Cond.sameField "RoomWarden$RowKeeper" "RoomWarden$Keeper" "room" "LRoomWarden$Room;" ∈ TT := tt_of 196 (by decide +kernel) (by decide +kernel)
theorem ml_X6_34 : Cond.methodLink RX6 34 yX0_init ∈ TT := tt_of 202 (by decide +kernel) (by decide +kernel)
theorem ml_X0_3 : Cond.methodLink RX0 3 yX2_init ∈ TT := tt_of 205 (by decide +kernel) (by decide +kernel)
theorem ml_X6_40 : Cond.methodLink RX6 40 yX4_init ∈ TT := tt_of 210 (by decide +kernel) (by decide +kernel)
theorem ml_X4_3 : Cond.methodLink RX4 3 yX2_init ∈ TT := tt_of 213 (by decide +kernel) (by decide +kernel)
theorem mf_X6_12 : Cond.fieldLink RX6 12 "RoomWarden" "room" "LRoomWarden$Room;" ∈ TT := tt_of 216 (by decide +kernel) (by decide +kernel)
theorem mf_X6_21 : Cond.fieldLink RX6 21 "RoomWarden" "chart" "LRoomWarden$Chart;" ∈ TT := tt_of 217 (by decide +kernel) (by decide +kernel)
theorem mf_X6_28 : Cond.fieldLink RX6 28 "RoomWarden" "slabs" "LRoomWarden$Keeper;" ∈ TT := tt_of 218 (by decide +kernel) (by decide +kernel)
theorem mf_X6_35 : Cond.fieldLink RX6 35 "RoomWarden" "buddies" "LRoomWarden$Keeper;" ∈ TT := tt_of 219 (by decide +kernel) (by decide +kernel)
theorem mf_X6_41 : Cond.fieldLink RX6 41 "RoomWarden" "rows" "LRoomWarden$Keeper;" ∈ TT := tt_of 220 (by decide +kernel) (by decide +kernel)
theorem mf_X6_44 : Cond.fieldLink RX6 44 "RoomWarden" "answered" "[I" ∈ TT := tt_of 221 (by decide +kernel) (by decide +kernel)
theorem mf_X6_48 : Cond.fieldLink RX6 48 "RoomWarden" "kept" "LRoomWarden$Room;" ∈ TT := tt_of 222 (by decide +kernel) (by decide +kernel)
theorem mf_X6_51 : Cond.fieldLink RX6 51 "RoomWarden" "theValue" "J" ∈ TT := tt_of 223 (by decide +kernel) (by decide +kernel)
theorem ml_L_13 : Cond.methodLink "RoomWardenLaw" 13 yX6_open ∈ TT := tt_of 241 (by decide +kernel) (by decide +kernel)
theorem ml_X6_55 : Cond.methodLink RX6 55 yX6_tell ∈ TT := tt_of 245 (by decide +kernel) (by decide +kernel)
theorem ml_X6_59 : Cond.methodLink RX6 59 yX3_beginAnew ∈ TT := tt_of 249 (by decide +kernel) (by decide +kernel)
theorem ml_X3_59 : Cond.methodLink RX3 59 yJ7_fill_d0a16 ∈ TT := tt_of 253 (by decide +kernel) (by decide +kernel)
theorem ml_L_18 : Cond.methodLink "RoomWardenLaw" 18 yX6_page ∈ TT := tt_of 256 (by decide +kernel) (by decide +kernel)
theorem ml_L_25 : Cond.methodLink "RoomWardenLaw" 25 yX6_zone ∈ TT := tt_of 260 (by decide +kernel) (by decide +kernel)
theorem mk_X6_70 : Cond.constantLong RX6 70 (32) ∈ TT := tt_of 264 (by decide +kernel) (by decide +kernel)
theorem ml_X6_75 : Cond.methodLink RX6 75 yX3_addZone ∈ TT := tt_of 265 (by decide +kernel) (by decide +kernel)
theorem ml_L_30 : Cond.methodLink "RoomWardenLaw" 30 yX6_want ∈ TT := tt_of 269 (by decide +kernel) (by decide +kernel)
theorem ml_X6_79 : Cond.methodLink RX6 79 yX3_hasZone ∈ TT := tt_of 273 (by decide +kernel) (by decide +kernel)
theorem ml_X6_83 : Cond.methodLink RX6 83 yX6_keeperOf ∈ TT := tt_of 277 (by decide +kernel) (by decide +kernel)
theorem ml_X6_232 : Cond.methodLink RX6 232 yX3_kindOf ∈ TT := tt_of 281 (by decide +kernel) (by decide +kernel)
theorem ml_X3_106 : Cond.methodLink RX3 106 yX3_hasZone ∈ TT := tt_of 285 (by decide +kernel) (by decide +kernel)
theorem ml_X6_87 : Cond.methodLink RX6 87 ⟨"RoomWarden$Keeper", "mostOf", "(I)I"⟩ ∈ TT := tt_of 286 (by decide +kernel) (by decide +kernel)
theorem msm_mostOf : Cond.sameMethod "RoomWarden$Keeper" "RoomWarden$Keeper" "mostOf" "(I)I" ∈ TT := tt_of 288 (by decide +kernel) (by decide +kernel)
theorem ml_X5_15 : Cond.methodLink RX5 15 yX3_classOf ∈ TT := tt_of 298 (by decide +kernel) (by decide +kernel)
theorem mk_X3_110 : Cond.constantLong RX3 110 (32) ∈ TT := tt_of 302 (by decide +kernel) (by decide +kernel)
theorem ml_X3_112 : Cond.methodLink RX3 112 Lib.MathLoose.min_long.x ∈ TT := tt_of 303 (by decide +kernel) (by decide +kernel)
theorem ml_X3_116 : Cond.methodLink RX3 116 Lib.MathLoose.max_long.x ∈ TT := tt_of 306 (by decide +kernel) (by decide +kernel)
theorem ml_X6_92 : Cond.methodLink RX6 92 yX3_lowestUnused ∈ TT := tt_of 309 (by decide +kernel) (by decide +kernel)
theorem ml_X6_96 : Cond.methodLink RX6 96 ⟨"RoomWarden$Keeper", "takePiece", "(II)I"⟩ ∈ TT := tt_of 313 (by decide +kernel) (by decide +kernel)
theorem msm_takePiece : Cond.sameMethod "RoomWarden$Keeper" "RoomWarden$Keeper" "takePiece" "(II)I" ∈ TT := tt_of 315 (by decide +kernel) (by decide +kernel)
theorem ml_X0_37 : Cond.methodLink RX0 37 yX0_leastFree ∈ TT := tt_of 319 (by decide +kernel) (by decide +kernel)
theorem ml_X0_21 : Cond.methodLink RX0 21 yX3_places ∈ TT := tt_of 323 (by decide +kernel) (by decide +kernel)
theorem ml_X0_25 : Cond.methodLink RX0 25 yX3_freeAt ∈ TT := tt_of 327 (by decide +kernel) (by decide +kernel)
theorem ml_X3_86 : Cond.methodLink RX3 86 yX3_ownerAt ∈ TT := tt_of 331 (by decide +kernel) (by decide +kernel)
theorem ml_X3_68 : Cond.methodLink RX3 68 yX3_places ∈ TT := tt_of 335 (by decide +kernel) (by decide +kernel)
theorem ml_X3_82 : Cond.methodLink RX3 82 yX3_pieceAt ∈ TT := tt_of 336 (by decide +kernel) (by decide +kernel)
theorem ml_X3_72 : Cond.methodLink RX3 72 Lib.Math.max.name ∈ TT := tt_of 340 (by decide +kernel) (by decide +kernel)
theorem ml_X0_34 : Cond.methodLink RX0 34 yX3_endOf ∈ TT := tt_of 343 (by decide +kernel) (by decide +kernel)
theorem ml_X3_89 : Cond.methodLink RX3 89 yX3_blockAt ∈ TT := tt_of 347 (by decide +kernel) (by decide +kernel)
theorem ml_X0_29 : Cond.methodLink RX0 29 Lib.Math.max.name ∈ TT := tt_of 351 (by decide +kernel) (by decide +kernel)
theorem ml_X0_15 : Cond.methodLink RX0 15 yX3_freeRun ∈ TT := tt_of 352 (by decide +kernel) (by decide +kernel)
theorem ml_X0_44 : Cond.methodLink RX0 44 yX3_mark ∈ TT := tt_of 356 (by decide +kernel) (by decide +kernel)
theorem ml_X0_48 : Cond.methodLink RX0 48 yX0_partOff ∈ TT := tt_of 360 (by decide +kernel) (by decide +kernel)
theorem ml_X4_37 : Cond.methodLink RX4 37 yX4_aside ∈ TT := tt_of 367 (by decide +kernel) (by decide +kernel)
theorem ml_X4_77 : Cond.methodLink RX4 77 yX3_kindOf ∈ TT := tt_of 371 (by decide +kernel) (by decide +kernel)
theorem ml_X4_43 : Cond.methodLink RX4 43 yX4_choose ∈ TT := tt_of 372 (by decide +kernel) (by decide +kernel)
theorem ml_X4_21 : Cond.methodLink RX4 21 yX3_places ∈ TT := tt_of 376 (by decide +kernel) (by decide +kernel)
theorem ml_X4_24 : Cond.methodLink RX4 24 yX3_freeAt ∈ TT := tt_of 377 (by decide +kernel) (by decide +kernel)
theorem ml_X4_80 : Cond.methodLink RX4 80 yX4_isBetter ∈ TT := tt_of 378 (by decide +kernel) (by decide +kernel)
theorem ml_X4_33 : Cond.methodLink RX4 33 yX3_endOf ∈ TT := tt_of 382 (by decide +kernel) (by decide +kernel)
theorem ml_X4_28 : Cond.methodLink RX4 28 Lib.Math.max.name ∈ TT := tt_of 383 (by decide +kernel) (by decide +kernel)
theorem ml_X4_46 : Cond.methodLink RX4 46 yX4_bringPages ∈ TT := tt_of 384 (by decide +kernel) (by decide +kernel)
theorem ml_X4_84 : Cond.methodLink RX4 84 yX3_freeRun ∈ TT := tt_of 388 (by decide +kernel) (by decide +kernel)
theorem ml_X4_50 : Cond.methodLink RX4 50 yX3_mark ∈ TT := tt_of 389 (by decide +kernel) (by decide +kernel)
theorem ml_X4_70 : Cond.methodLink RX4 70 yX4_joinTouching ∈ TT := tt_of 390 (by decide +kernel) (by decide +kernel)
theorem ml_X5_21 : Cond.methodLink RX5 21 yX5_lowestFree ∈ TT := tt_of 397 (by decide +kernel) (by decide +kernel)
theorem ml_X5_43 : Cond.methodLink RX5 43 yX3_places ∈ TT := tt_of 401 (by decide +kernel) (by decide +kernel)
theorem ml_X5_47 : Cond.methodLink RX5 47 yX3_freeAt ∈ TT := tt_of 402 (by decide +kernel) (by decide +kernel)
theorem ml_X5_51 : Cond.methodLink RX5 51 yX3_endOf ∈ TT := tt_of 403 (by decide +kernel) (by decide +kernel)
theorem ml_X5_54 : Cond.methodLink RX5 54 Lib.Math.max.name ∈ TT := tt_of 404 (by decide +kernel) (by decide +kernel)
theorem ml_X5_24 : Cond.methodLink RX5 24 yX3_freeRun ∈ TT := tt_of 405 (by decide +kernel) (by decide +kernel)
theorem ml_X5_31 : Cond.methodLink RX5 31 yX5_markSlots ∈ TT := tt_of 406 (by decide +kernel) (by decide +kernel)
theorem ml_X5_59 : Cond.methodLink RX5 59 yX3_mark ∈ TT := tt_of 410 (by decide +kernel) (by decide +kernel)
theorem ml_X6_103 : Cond.methodLink RX6 103 yX3_putBlock ∈ TT := tt_of 411 (by decide +kernel) (by decide +kernel)
theorem ml_X3_102 : Cond.methodLink RX3 102 yX3_mark ∈ TT := tt_of 415 (by decide +kernel) (by decide +kernel)
theorem ml_X3_121 : Cond.methodLink RX3 121 yX3_wordOf ∈ TT := tt_of 416 (by decide +kernel) (by decide +kernel)
theorem ml_X3_125 : Cond.methodLink RX3 125 yX3_setWords ∈ TT := tt_of 420 (by decide +kernel) (by decide +kernel)
theorem ml_X3_143 : Cond.methodLink RX3 143 yX3_isGuarded ∈ TT := tt_of 424 (by decide +kernel) (by decide +kernel)
theorem ml_X3_118 : Cond.methodLink RX3 118 yX3_kindOf ∈ TT := tt_of 428 (by decide +kernel) (by decide +kernel)
theorem ml_X3_149 : Cond.methodLink RX3 149 yX3_firstWord ∈ TT := tt_of 429 (by decide +kernel) (by decide +kernel)
theorem ml_X3_152 : Cond.methodLink RX3 152 yX3_setNumber ∈ TT := tt_of 433 (by decide +kernel) (by decide +kernel)
theorem ml_X3_155 : Cond.methodLink RX3 155 yX3_lastWord ∈ TT := tt_of 437 (by decide +kernel) (by decide +kernel)
theorem ml_X6_107 : Cond.methodLink RX6 107 ⟨"RoomWarden$Keeper", "tidy", "(I)V"⟩ ∈ TT := tt_of 441 (by decide +kernel) (by decide +kernel)
theorem msm_tidy : Cond.sameMethod "RoomWarden$Keeper" "RoomWarden$Keeper" "tidy" "(I)V" ∈ TT := tt_of 443 (by decide +kernel) (by decide +kernel)
theorem ml_X0_62 : Cond.methodLink RX0 62 yX0_joinPairs ∈ TT := tt_of 447 (by decide +kernel) (by decide +kernel)
theorem ml_X0_66 : Cond.methodLink RX0 66 yX3_pieceAt ∈ TT := tt_of 451 (by decide +kernel) (by decide +kernel)
theorem ml_X4_74 : Cond.methodLink RX4 74 yX4_letGoPages ∈ TT := tt_of 455 (by decide +kernel) (by decide +kernel)
theorem ml_X5_39 : Cond.methodLink RX5 39 yX5_isWhollyFree ∈ TT := tt_of 462 (by decide +kernel) (by decide +kernel)
theorem ml_X5_63 : Cond.methodLink RX5 63 yX3_blockAt ∈ TT := tt_of 466 (by decide +kernel) (by decide +kernel)
theorem ml_X6_110 : Cond.methodLink RX6 110 yX3_handleOf ∈ TT := tt_of 467 (by decide +kernel) (by decide +kernel)
theorem ml_L_35 : Cond.methodLink "RoomWardenLaw" 35 yX6_give ∈ TT := tt_of 471 (by decide +kernel) (by decide +kernel)
theorem ml_X6_113 : Cond.methodLink RX6 113 yX3_find ∈ TT := tt_of 475 (by decide +kernel) (by decide +kernel)
theorem ml_X6_116 : Cond.methodLink RX6 116 yX3_spoiledWords ∈ TT := tt_of 479 (by decide +kernel) (by decide +kernel)
theorem ml_X3_158 : Cond.methodLink RX3 158 yX3_numberAt ∈ TT := tt_of 483 (by decide +kernel) (by decide +kernel)
theorem ml_X6_128 : Cond.methodLink RX6 128 yX3_vacate ∈ TT := tt_of 487 (by decide +kernel) (by decide +kernel)
theorem ml_X3_98 : Cond.methodLink RX3 98 yX3_setNumbers ∈ TT := tt_of 491 (by decide +kernel) (by decide +kernel)
theorem ml_X3_78 : Cond.methodLink RX3 78 yX3_areThere ∈ TT := tt_of 495 (by decide +kernel) (by decide +kernel)
theorem ml_L_39 : Cond.methodLink "RoomWardenLaw" 39 yX6_grow ∈ TT := tt_of 499 (by decide +kernel) (by decide +kernel)
theorem ml_X6_135 : Cond.methodLink RX6 135 ⟨"RoomWarden$Keeper", "fits", "(II)Z"⟩ ∈ TT := tt_of 503 (by decide +kernel) (by decide +kernel)
theorem msm_fits : Cond.sameMethod "RoomWarden$Keeper" "RoomWarden$Keeper" "fits" "(II)Z" ∈ TT := tt_of 505 (by decide +kernel) (by decide +kernel)
theorem ml_X4_58 : Cond.methodLink RX4 58 yX4_freeBehind ∈ TT := tt_of 512 (by decide +kernel) (by decide +kernel)
theorem ml_X6_139 : Cond.methodLink RX6 139 yX6_resize ∈ TT := tt_of 519 (by decide +kernel) (by decide +kernel)
theorem ml_X6_235 : Cond.methodLink RX6 235 yX3_setWords ∈ TT := tt_of 523 (by decide +kernel) (by decide +kernel)
theorem ml_X6_147 : Cond.methodLink RX6 147 yX3_firstNumber ∈ TT := tt_of 524 (by decide +kernel) (by decide +kernel)
theorem ml_X3_146 : Cond.methodLink RX3 146 yX3_isRowZone ∈ TT := tt_of 528 (by decide +kernel) (by decide +kernel)
theorem ml_X6_165 : Cond.methodLink RX6 165 yX3_setNumbers ∈ TT := tt_of 532 (by decide +kernel) (by decide +kernel)
theorem ml_X6_238 : Cond.methodLink RX6 238 ⟨"RoomWarden$Keeper", "reshape", "(II)V"⟩ ∈ TT := tt_of 533 (by decide +kernel) (by decide +kernel)
theorem msm_reshape : Cond.sameMethod "RoomWarden$Keeper" "RoomWarden$Keeper" "reshape" "(II)V" ∈ TT := tt_of 535 (by decide +kernel) (by decide +kernel)
theorem ml_X6_241 : Cond.methodLink RX6 241 yX3_wordOf ∈ TT := tt_of 545 (by decide +kernel) (by decide +kernel)
theorem ml_X6_143 : Cond.methodLink RX6 143 yX3_moveBlock ∈ TT := tt_of 546 (by decide +kernel) (by decide +kernel)
theorem ml_X3_129 : Cond.methodLink RX3 129 yX3_firstNumber ∈ TT := tt_of 550 (by decide +kernel) (by decide +kernel)
theorem ml_X3_132 : Cond.methodLink RX3 132 yX3_putBlock ∈ TT := tt_of 551 (by decide +kernel) (by decide +kernel)
theorem ml_X3_136 : Cond.methodLink RX3 136 yX3_copyNumbers ∈ TT := tt_of 552 (by decide +kernel) (by decide +kernel)
theorem ml_X3_62 : Cond.methodLink RX3 62 arraycopyName ∈ TT := tt_of 556 (by decide +kernel) (by decide +kernel)
theorem ml_X3_140 : Cond.methodLink RX3 140 yX3_vacate ∈ TT := tt_of 559 (by decide +kernel) (by decide +kernel)
theorem ml_L_43 : Cond.methodLink "RoomWardenLaw" 43 yX6_shrink ∈ TT := tt_of 560 (by decide +kernel) (by decide +kernel)
theorem ml_L_47 : Cond.methodLink "RoomWardenLaw" 47 yX6_write ∈ TT := tt_of 564 (by decide +kernel) (by decide +kernel)
theorem ml_X6_150 : Cond.methodLink RX6 150 yX3_setNumber ∈ TT := tt_of 568 (by decide +kernel) (by decide +kernel)
theorem ml_L_52 : Cond.methodLink "RoomWardenLaw" 52 yX6_read ∈ TT := tt_of 569 (by decide +kernel) (by decide +kernel)
theorem ml_X6_154 : Cond.methodLink RX6 154 yX3_numberAt ∈ TT := tt_of 573 (by decide +kernel) (by decide +kernel)
theorem ml_L_56 : Cond.methodLink "RoomWardenLaw" 56 yX6_value ∈ TT := tt_of 574 (by decide +kernel) (by decide +kernel)
theorem ml_L_61 : Cond.methodLink "RoomWardenLaw" 61 yX6_copy ∈ TT := tt_of 578 (by decide +kernel) (by decide +kernel)
theorem ml_X6_158 : Cond.methodLink RX6 158 yX3_hasNumbers ∈ TT := tt_of 582 (by decide +kernel) (by decide +kernel)
theorem ml_X6_162 : Cond.methodLink RX6 162 yX3_copyNumbers ∈ TT := tt_of 586 (by decide +kernel) (by decide +kernel)
theorem ml_L_66 : Cond.methodLink "RoomWardenLaw" 66 yX6_fill ∈ TT := tt_of 587 (by decide +kernel) (by decide +kernel)
theorem ml_L_70 : Cond.methodLink "RoomWardenLaw" 70 yX6_block ∈ TT := tt_of 591 (by decide +kernel) (by decide +kernel)
theorem ml_L_74 : Cond.methodLink "RoomWardenLaw" 74 yX6_spoil ∈ TT := tt_of 595 (by decide +kernel) (by decide +kernel)
theorem ml_X6_169 : Cond.methodLink RX6 169 yX3_isGuarded ∈ TT := tt_of 599 (by decide +kernel) (by decide +kernel)
theorem ml_X6_172 : Cond.methodLink RX6 172 yX3_lastWord ∈ TT := tt_of 600 (by decide +kernel) (by decide +kernel)
theorem ml_X6_175 : Cond.methodLink RX6 175 yX3_firstWord ∈ TT := tt_of 601 (by decide +kernel) (by decide +kernel)
theorem ml_L_79 : Cond.methodLink "RoomWardenLaw" 79 yX6_peek ∈ TT := tt_of 602 (by decide +kernel) (by decide +kernel)
theorem ml_X6_178 : Cond.methodLink RX6 178 yX3_places ∈ TT := tt_of 606 (by decide +kernel) (by decide +kernel)
theorem ml_X6_181 : Cond.methodLink RX6 181 yX3_ownerAt ∈ TT := tt_of 607 (by decide +kernel) (by decide +kernel)
theorem ml_X6_184 : Cond.methodLink RX6 184 yX1_kindAt ∈ TT := tt_of 608 (by decide +kernel) (by decide +kernel)
theorem ml_X1_38 : Cond.methodLink RX1 38 yX3_places ∈ TT := tt_of 612 (by decide +kernel) (by decide +kernel)
theorem ml_X1_48 : Cond.methodLink RX1 48 yX3_endOf ∈ TT := tt_of 613 (by decide +kernel) (by decide +kernel)
theorem ml_X1_44 : Cond.methodLink RX1 44 yX1_lookAt ∈ TT := tt_of 614 (by decide +kernel) (by decide +kernel)
theorem ml_X1_70 : Cond.methodLink RX1 70 yX3_ownerAt ∈ TT := tt_of 618 (by decide +kernel) (by decide +kernel)
theorem ml_X1_73 : Cond.methodLink RX1 73 yX1_addPart ∈ TT := tt_of 619 (by decide +kernel) (by decide +kernel)
theorem ml_X1_77 : Cond.methodLink RX1 77 yX3_pieceAt ∈ TT := tt_of 623 (by decide +kernel) (by decide +kernel)
theorem ml_X1_80 : Cond.methodLink RX1 80 yX3_isRowZone ∈ TT := tt_of 624 (by decide +kernel) (by decide +kernel)
theorem ml_X1_64 : Cond.methodLink RX1 64 yX3_blockAt ∈ TT := tt_of 625 (by decide +kernel) (by decide +kernel)
theorem ml_X1_84 : Cond.methodLink RX1 84 yX1_addRowParts ∈ TT := tt_of 626 (by decide +kernel) (by decide +kernel)
theorem ml_X1_87 : Cond.methodLink RX1 87 yX3_isGuarded ∈ TT := tt_of 630 (by decide +kernel) (by decide +kernel)
theorem ml_X1_61 : Cond.methodLink RX1 61 yX1_partWith ∈ TT := tt_of 631 (by decide +kernel) (by decide +kernel)
theorem ml_X1_58 : Cond.methodLink RX1 58 yX1_goToPart ∈ TT := tt_of 635 (by decide +kernel) (by decide +kernel)
theorem ml_X1_52 : Cond.methodLink RX1 52 Lib.Math.max.name ∈ TT := tt_of 639 (by decide +kernel) (by decide +kernel)
theorem ml_L_83 : Cond.methodLink "RoomWardenLaw" 83 yX6_largest ∈ TT := tt_of 640 (by decide +kernel) (by decide +kernel)
theorem ml_X6_187 : Cond.methodLink RX6 187 ⟨"RoomWarden$Keeper", "greatest", "(I)I"⟩ ∈ TT := tt_of 644 (by decide +kernel) (by decide +kernel)
theorem msm_greatest : Cond.sameMethod "RoomWarden$Keeper" "RoomWarden$Keeper" "greatest" "(I)I" ∈ TT := tt_of 646 (by decide +kernel) (by decide +kernel)
theorem ml_X4_15 : Cond.methodLink RX4 15 yX3_longestFreeRun ∈ TT := tt_of 653 (by decide +kernel) (by decide +kernel)
theorem ml_X4_40 : Cond.methodLink RX4 40 Lib.Math.min.name ∈ TT := tt_of 657 (by decide +kernel) (by decide +kernel)
theorem ml_L_87 : Cond.methodLink "RoomWardenLaw" 87 yX6_told ∈ TT := tt_of 663 (by decide +kernel) (by decide +kernel)
theorem ml_X6_193 : Cond.methodLink RX6 193 yX3_pagesOf ∈ TT := tt_of 667 (by decide +kernel) (by decide +kernel)
theorem ml_X6_196 : Cond.methodLink RX6 196 yX3_blocksOf ∈ TT := tt_of 671 (by decide +kernel) (by decide +kernel)
theorem ml_X6_199 : Cond.methodLink RX6 199 yX3_freePiecesOf ∈ TT := tt_of 675 (by decide +kernel) (by decide +kernel)
theorem ml_X3_92 : Cond.methodLink RX3 92 yX3_freeAt ∈ TT := tt_of 679 (by decide +kernel) (by decide +kernel)
theorem ml_X3_95 : Cond.methodLink RX3 95 yX3_endOf ∈ TT := tt_of 680 (by decide +kernel) (by decide +kernel)
theorem ml_L_91 : Cond.methodLink "RoomWardenLaw" 91 yX6_map ∈ TT := tt_of 681 (by decide +kernel) (by decide +kernel)
theorem ml_X6_202 : Cond.methodLink RX6 202 yX1_seek ∈ TT := tt_of 685 (by decide +kernel) (by decide +kernel)
theorem ml_X6_214 : Cond.methodLink RX6 214 yX1_handle ∈ TT := tt_of 689 (by decide +kernel) (by decide +kernel)
theorem ml_X1_67 : Cond.methodLink RX1 67 yX3_handleOf ∈ TT := tt_of 693 (by decide +kernel) (by decide +kernel)
theorem ml_X6_217 : Cond.methodLink RX6 217 yX1_zoneNumber ∈ TT := tt_of 694 (by decide +kernel) (by decide +kernel)
theorem ml_L_95 : Cond.methodLink "RoomWardenLaw" 95 yX6_count ∈ TT := tt_of 698 (by decide +kernel) (by decide +kernel)
theorem ml_X6_220 : Cond.methodLink RX6 220 yX3_blocks ∈ TT := tt_of 702 (by decide +kernel) (by decide +kernel)
theorem ml_X6_223 : Cond.methodLink RX6 223 yX1_entries ∈ TT := tt_of 706 (by decide +kernel) (by decide +kernel)
theorem ml_L_99 : Cond.methodLink "RoomWardenLaw" 99 yX6_save ∈ TT := tt_of 710 (by decide +kernel) (by decide +kernel)
theorem ml_X6_226 : Cond.methodLink RX6 226 yX3_become ∈ TT := tt_of 714 (by decide +kernel) (by decide +kernel)
theorem ml_L_104 : Cond.methodLink "RoomWardenLaw" 104 yX6_back ∈ TT := tt_of 718 (by decide +kernel) (by decide +kernel)
theorem ml_L_108 : Cond.methodLink "RoomWardenLaw" 108 yX6_hold ∈ TT := tt_of 722 (by decide +kernel) (by decide +kernel)
theorem ml_L_112 : Cond.methodLink "RoomWardenLaw" 112 yX6_throwIt ∈ TT := tt_of 726 (by decide +kernel) (by decide +kernel)
theorem ml_L_116 : Cond.methodLink "RoomWardenLaw" 116 yX6_found ∈ TT := tt_of 730 (by decide +kernel) (by decide +kernel)
theorem ml_L_12 : Cond.methodLink "RoomWardenLaw" 12 yX7_init ∈ TT := tt_of 736 (by decide +kernel) (by decide +kernel)
theorem ml_X7_1 : Cond.methodLink RX7 1 objectInit ∈ TT := tt_of 739 (by decide +kernel) (by decide +kernel)
theorem mf_X7_94 : Cond.fieldLink RX7 94 "RoomWardenModel" "pages" "I" ∈ TT := tt_of 740 (by decide +kernel) (by decide +kernel)
theorem mf_X7_9 : Cond.fieldLink RX7 9 "RoomWardenModel" "owner" "[I" ∈ TT := tt_of 741 (by decide +kernel) (by decide +kernel)
theorem mf_X7_13 : Cond.fieldLink RX7 13 "RoomWardenModel" "numbers" "[J" ∈ TT := tt_of 742 (by decide +kernel) (by decide +kernel)
theorem mf_X7_17 : Cond.fieldLink RX7 17 "RoomWardenModel" "length" "[I" ∈ TT := tt_of 743 (by decide +kernel) (by decide +kernel)
theorem mf_X7_20 : Cond.fieldLink RX7 20 "RoomWardenModel" "holder" "[I" ∈ TT := tt_of 744 (by decide +kernel) (by decide +kernel)
theorem mf_X7_98 : Cond.fieldLink RX7 98 "RoomWardenModel" "zones" "I" ∈ TT := tt_of 745 (by decide +kernel) (by decide +kernel)
theorem mf_X7_23 : Cond.fieldLink RX7 23 "RoomWardenModel" "kindOf" "[I" ∈ TT := tt_of 746 (by decide +kernel) (by decide +kernel)
theorem mf_X7_26 : Cond.fieldLink RX7 26 "RoomWardenModel" "by" "[J" ∈ TT := tt_of 747 (by decide +kernel) (by decide +kernel)
theorem mf_X7_29 : Cond.fieldLink RX7 29 "RoomWardenModel" "given" "[I" ∈ TT := tt_of 748 (by decide +kernel) (by decide +kernel)
theorem mf_X7_32 : Cond.fieldLink RX7 32 "RoomWardenModel" "there" "[Z" ∈ TT := tt_of 749 (by decide +kernel) (by decide +kernel)
theorem mf_X7_36 : Cond.fieldLink RX7 36 "RoomWardenModel" "size" "[I" ∈ TT := tt_of 750 (by decide +kernel) (by decide +kernel)
theorem mf_X7_39 : Cond.fieldLink RX7 39 "RoomWardenModel" "zoneOf" "[I" ∈ TT := tt_of 751 (by decide +kernel) (by decide +kernel)
theorem mf_X7_42 : Cond.fieldLink RX7 42 "RoomWardenModel" "placeOf" "[I" ∈ TT := tt_of 752 (by decide +kernel) (by decide +kernel)
theorem mf_X7_101 : Cond.fieldLink RX7 101 "RoomWardenModel" "blocks" "I" ∈ TT := tt_of 753 (by decide +kernel) (by decide +kernel)
theorem mf_X7_45 : Cond.fieldLink RX7 45 "RoomWardenModel" "codes" "[I" ∈ TT := tt_of 754 (by decide +kernel) (by decide +kernel)
theorem mf_X7_104 : Cond.fieldLink RX7 104 "RoomWardenModel" "value" "J" ∈ TT := tt_of 755 (by decide +kernel) (by decide +kernel)
theorem mf_X7_48 : Cond.fieldLink RX7 48 "RoomWardenModel" "founds" "[I" ∈ TT := tt_of 756 (by decide +kernel) (by decide +kernel)
theorem mf_X7_244 : Cond.fieldLink RX7 244 "RoomWardenModel" "isKept" "Z" ∈ TT := tt_of 757 (by decide +kernel) (by decide +kernel)
theorem mf_X7_247 : Cond.fieldLink RX7 247 "RoomWardenModel" "keptPages" "I" ∈ TT := tt_of 758 (by decide +kernel) (by decide +kernel)
theorem mf_X7_51 : Cond.fieldLink RX7 51 "RoomWardenModel" "keptOwner" "[I" ∈ TT := tt_of 759 (by decide +kernel) (by decide +kernel)
theorem mf_X7_54 : Cond.fieldLink RX7 54 "RoomWardenModel" "keptNumbers" "[J" ∈ TT := tt_of 760 (by decide +kernel) (by decide +kernel)
theorem mf_X7_57 : Cond.fieldLink RX7 57 "RoomWardenModel" "keptLength" "[I" ∈ TT := tt_of 761 (by decide +kernel) (by decide +kernel)
theorem mf_X7_60 : Cond.fieldLink RX7 60 "RoomWardenModel" "keptHolder" "[I" ∈ TT := tt_of 762 (by decide +kernel) (by decide +kernel)
theorem mf_X7_250 : Cond.fieldLink RX7 250 "RoomWardenModel" "keptZones" "I" ∈ TT := tt_of 763 (by decide +kernel) (by decide +kernel)
theorem mf_X7_63 : Cond.fieldLink RX7 63 "RoomWardenModel" "keptKind" "[I" ∈ TT := tt_of 764 (by decide +kernel) (by decide +kernel)
theorem mf_X7_66 : Cond.fieldLink RX7 66 "RoomWardenModel" "keptBy" "[J" ∈ TT := tt_of 765 (by decide +kernel) (by decide +kernel)
theorem mf_X7_69 : Cond.fieldLink RX7 69 "RoomWardenModel" "keptGiven" "[I" ∈ TT := tt_of 766 (by decide +kernel) (by decide +kernel)
theorem mf_X7_72 : Cond.fieldLink RX7 72 "RoomWardenModel" "keptThere" "[Z" ∈ TT := tt_of 767 (by decide +kernel) (by decide +kernel)
theorem mf_X7_75 : Cond.fieldLink RX7 75 "RoomWardenModel" "keptSize" "[I" ∈ TT := tt_of 768 (by decide +kernel) (by decide +kernel)
theorem mf_X7_78 : Cond.fieldLink RX7 78 "RoomWardenModel" "keptZone" "[I" ∈ TT := tt_of 769 (by decide +kernel) (by decide +kernel)
theorem mf_X7_81 : Cond.fieldLink RX7 81 "RoomWardenModel" "keptPlace" "[I" ∈ TT := tt_of 770 (by decide +kernel) (by decide +kernel)
theorem mf_X7_253 : Cond.fieldLink RX7 253 "RoomWardenModel" "keptBlocks" "I" ∈ TT := tt_of 771 (by decide +kernel) (by decide +kernel)
theorem mf_X7_84 : Cond.fieldLink RX7 84 "RoomWardenModel" "keptCodes" "[I" ∈ TT := tt_of 772 (by decide +kernel) (by decide +kernel)
theorem mf_X7_87 : Cond.fieldLink RX7 87 "RoomWardenModel" "some" "[J" ∈ TT := tt_of 773 (by decide +kernel) (by decide +kernel)
theorem mf_X7_216 : Cond.fieldLink RX7 216 "RoomWardenModel" "at" "I" ∈ TT := tt_of 774 (by decide +kernel) (by decide +kernel)
theorem mf_X7_219 : Cond.fieldLink RX7 219 "RoomWardenModel" "long1" "I" ∈ TT := tt_of 775 (by decide +kernel) (by decide +kernel)
theorem mf_X7_222 : Cond.fieldLink RX7 222 "RoomWardenModel" "kind" "I" ∈ TT := tt_of 776 (by decide +kernel) (by decide +kernel)
theorem mf_X7_225 : Cond.fieldLink RX7 225 "RoomWardenModel" "whose" "I" ∈ TT := tt_of 777 (by decide +kernel) (by decide +kernel)
theorem mf_X7_228 : Cond.fieldLink RX7 228 "RoomWardenModel" "where" "I" ∈ TT := tt_of 778 (by decide +kernel) (by decide +kernel)
theorem mf_X7_207 : Cond.fieldLink RX7 207 "RoomWardenModel" "gone" "I" ∈ TT := tt_of 779 (by decide +kernel) (by decide +kernel)
theorem mf_X7_210 : Cond.fieldLink RX7 210 "RoomWardenModel" "sought" "I" ∈ TT := tt_of 780 (by decide +kernel) (by decide +kernel)
theorem mf_X7_213 : Cond.fieldLink RX7 213 "RoomWardenModel" "soughtPlace" "I" ∈ TT := tt_of 781 (by decide +kernel) (by decide +kernel)
theorem mf_X7_203 : Cond.fieldLink RX7 203 "RoomWardenModel" "isFound" "Z" ∈ TT := tt_of 782 (by decide +kernel) (by decide +kernel)
theorem ml_L_17 : Cond.methodLink "RoomWardenLaw" 17 yX7_open ∈ TT := tt_of 871 (by decide +kernel) (by decide +kernel)
theorem ml_X7_90 : Cond.methodLink RX7 90 yX7_answer ∈ TT := tt_of 875 (by decide +kernel) (by decide +kernel)
theorem ml_L_22 : Cond.methodLink "RoomWardenLaw" 22 yX7_page ∈ TT := tt_of 879 (by decide +kernel) (by decide +kernel)
theorem ml_L_29 : Cond.methodLink "RoomWardenLaw" 29 yX7_zone ∈ TT := tt_of 883 (by decide +kernel) (by decide +kernel)
theorem mk_X7_108 : Cond.constantLong RX7 108 (32) ∈ TT := tt_of 887 (by decide +kernel) (by decide +kernel)
theorem ml_L_34 : Cond.methodLink "RoomWardenLaw" 34 yX7_want ∈ TT := tt_of 888 (by decide +kernel) (by decide +kernel)
theorem ml_X7_166 : Cond.methodLink RX7 166 yX7_isZone ∈ TT := tt_of 892 (by decide +kernel) (by decide +kernel)
theorem ml_X7_169 : Cond.methodLink RX7 169 yX7_most ∈ TT := tt_of 896 (by decide +kernel) (by decide +kernel)
theorem ml_X7_172 : Cond.methodLink RX7 172 yX7_taken ∈ TT := tt_of 900 (by decide +kernel) (by decide +kernel)
theorem ml_X7_131 : Cond.methodLink RX7 131 yX7_named ∈ TT := tt_of 904 (by decide +kernel) (by decide +kernel)
theorem ml_X7_114 : Cond.methodLink RX7 114 yX7_power ∈ TT := tt_of 908 (by decide +kernel) (by decide +kernel)
theorem ml_X7_117 : Cond.methodLink RX7 117 yX7_need ∈ TT := tt_of 911 (by decide +kernel) (by decide +kernel)
theorem ml_X7_121 : Cond.methodLink RX7 121 yX7_isFreeAt ∈ TT := tt_of 915 (by decide +kernel) (by decide +kernel)
theorem ml_X7_110 : Cond.methodLink RX7 110 yX7_isOf ∈ TT := tt_of 919 (by decide +kernel) (by decide +kernel)
theorem ml_X7_134 : Cond.methodLink RX7 134 yX7_freePages ∈ TT := tt_of 923 (by decide +kernel) (by decide +kernel)
theorem ml_X7_137 : Cond.methodLink RX7 137 yX7_comePages ∈ TT := tt_of 927 (by decide +kernel) (by decide +kernel)
theorem ml_X7_124 : Cond.methodLink RX7 124 yX7_join ∈ TT := tt_of 931 (by decide +kernel) (by decide +kernel)
theorem ml_X7_128 : Cond.methodLink RX7 128 yX7_ahead ∈ TT := tt_of 935 (by decide +kernel) (by decide +kernel)
theorem ml_X7_141 : Cond.methodLink RX7 141 yX7_cut ∈ TT := tt_of 939 (by decide +kernel) (by decide +kernel)
theorem ml_X7_175 : Cond.methodLink RX7 175 yX7_have ∈ TT := tt_of 943 (by decide +kernel) (by decide +kernel)
theorem ml_X7_144 : Cond.methodLink RX7 144 yX7_guard ∈ TT := tt_of 947 (by decide +kernel) (by decide +kernel)
theorem ml_X7_179 : Cond.methodLink RX7 179 yX7_settle ∈ TT := tt_of 951 (by decide +kernel) (by decide +kernel)
theorem ml_X7_156 : Cond.methodLink RX7 156 yX7_isWhollyFree ∈ TT := tt_of 955 (by decide +kernel) (by decide +kernel)
theorem ml_X7_163 : Cond.methodLink RX7 163 yX7_pieceAt ∈ TT := tt_of 959 (by decide +kernel) (by decide +kernel)
theorem ml_X7_160 : Cond.methodLink RX7 160 yX7_goBack ∈ TT := tt_of 963 (by decide +kernel) (by decide +kernel)
theorem ml_L_38 : Cond.methodLink "RoomWardenLaw" 38 yX7_give ∈ TT := tt_of 967 (by decide +kernel) (by decide +kernel)
theorem ml_X7_182 : Cond.methodLink RX7 182 yX7_look ∈ TT := tt_of 971 (by decide +kernel) (by decide +kernel)
theorem ml_X7_185 : Cond.methodLink RX7 185 yX7_spoilt ∈ TT := tt_of 975 (by decide +kernel) (by decide +kernel)
theorem ml_X7_188 : Cond.methodLink RX7 188 yX7_release ∈ TT := tt_of 979 (by decide +kernel) (by decide +kernel)
theorem ml_X7_148 : Cond.methodLink RX7 148 yX7_joinPairs ∈ TT := tt_of 983 (by decide +kernel) (by decide +kernel)
theorem ml_X7_151 : Cond.methodLink RX7 151 Lib.Math.min.name ∈ TT := tt_of 987 (by decide +kernel) (by decide +kernel)
theorem ml_L_42 : Cond.methodLink "RoomWardenLaw" 42 yX7_grow ∈ TT := tt_of 988 (by decide +kernel) (by decide +kernel)
theorem ml_X7_191 : Cond.methodLink RX7 191 yX7_grows ∈ TT := tt_of 992 (by decide +kernel) (by decide +kernel)
theorem ml_X7_194 : Cond.methodLink RX7 194 yX7_firstOf ∈ TT := tt_of 996 (by decide +kernel) (by decide +kernel)
theorem ml_L_46 : Cond.methodLink "RoomWardenLaw" 46 yX7_shrink ∈ TT := tt_of 1000 (by decide +kernel) (by decide +kernel)
theorem ml_L_51 : Cond.methodLink "RoomWardenLaw" 51 yX7_write ∈ TT := tt_of 1004 (by decide +kernel) (by decide +kernel)
theorem ml_X7_197 : Cond.methodLink RX7 197 yX7_lookAt ∈ TT := tt_of 1008 (by decide +kernel) (by decide +kernel)
theorem ml_X7_200 : Cond.methodLink RX7 200 yX7_firstNumber ∈ TT := tt_of 1012 (by decide +kernel) (by decide +kernel)
theorem ml_L_55 : Cond.methodLink "RoomWardenLaw" 55 yX7_read ∈ TT := tt_of 1016 (by decide +kernel) (by decide +kernel)
theorem ml_L_60 : Cond.methodLink "RoomWardenLaw" 60 yX7_value ∈ TT := tt_of 1020 (by decide +kernel) (by decide +kernel)
theorem ml_L_65 : Cond.methodLink "RoomWardenLaw" 65 yX7_copy ∈ TT := tt_of 1024 (by decide +kernel) (by decide +kernel)
theorem ml_L_69 : Cond.methodLink "RoomWardenLaw" 69 yX7_fill ∈ TT := tt_of 1028 (by decide +kernel) (by decide +kernel)
theorem ml_L_73 : Cond.methodLink "RoomWardenLaw" 73 yX7_block ∈ TT := tt_of 1032 (by decide +kernel) (by decide +kernel)
theorem ml_L_78 : Cond.methodLink "RoomWardenLaw" 78 yX7_spoil ∈ TT := tt_of 1036 (by decide +kernel) (by decide +kernel)
theorem ml_L_82 : Cond.methodLink "RoomWardenLaw" 82 yX7_peek ∈ TT := tt_of 1040 (by decide +kernel) (by decide +kernel)
theorem ml_X7_241 : Cond.methodLink RX7 241 yX7_go ∈ TT := tt_of 1044 (by decide +kernel) (by decide +kernel)
theorem ml_X7_231 : Cond.methodLink RX7 231 yX7_entry ∈ TT := tt_of 1048 (by decide +kernel) (by decide +kernel)
theorem ml_X7_235 : Cond.methodLink RX7 235 yX7_slabEntries ∈ TT := tt_of 1052 (by decide +kernel) (by decide +kernel)
theorem ml_X7_238 : Cond.methodLink RX7 238 yX7_pieceEntries ∈ TT := tt_of 1056 (by decide +kernel) (by decide +kernel)
theorem ml_L_94 : Cond.methodLink "RoomWardenLaw" 94 yX7_map ∈ TT := tt_of 1060 (by decide +kernel) (by decide +kernel)
theorem ml_L_86 : Cond.methodLink "RoomWardenLaw" 86 yX7_largest ∈ TT := tt_of 1064 (by decide +kernel) (by decide +kernel)
theorem ml_L_90 : Cond.methodLink "RoomWardenLaw" 90 yX7_told ∈ TT := tt_of 1068 (by decide +kernel) (by decide +kernel)
theorem ml_L_98 : Cond.methodLink "RoomWardenLaw" 98 yX7_count ∈ TT := tt_of 1072 (by decide +kernel) (by decide +kernel)
theorem ml_L_103 : Cond.methodLink "RoomWardenLaw" 103 yX7_save ∈ TT := tt_of 1076 (by decide +kernel) (by decide +kernel)
theorem ml_X7_256 : Cond.methodLink RX7 256 yX7_put ∈ TT := tt_of 1080 (by decide +kernel) (by decide +kernel)
theorem ml_X7_260 : Cond.methodLink RX7 260 yX7_put_ ∈ TT := tt_of 1083 (by decide +kernel) (by decide +kernel)
theorem ml_X7_263 : Cond.methodLink RX7 263 yX7_put__ ∈ TT := tt_of 1086 (by decide +kernel) (by decide +kernel)
theorem ml_L_107 : Cond.methodLink "RoomWardenLaw" 107 yX7_back ∈ TT := tt_of 1089 (by decide +kernel) (by decide +kernel)
theorem ml_L_111 : Cond.methodLink "RoomWardenLaw" 111 yX7_hold ∈ TT := tt_of 1093 (by decide +kernel) (by decide +kernel)
theorem ml_L_115 : Cond.methodLink "RoomWardenLaw" 115 yX7_throwIt ∈ TT := tt_of 1097 (by decide +kernel) (by decide +kernel)
theorem ml_L_119 : Cond.methodLink "RoomWardenLaw" 119 yX7_found ∈ TT := tt_of 1101 (by decide +kernel) (by decide +kernel)
theorem mk_L_23 : Cond.constantLong "RoomWardenLaw" 23 (4294967295) ∈ TT := tt_of 1105 (by decide +kernel) (by decide +kernel)
theorem mn_copy : Cond.native arraycopyName ∈ TT := tt_of 558 (by decide +kernel) (by decide +kernel)
theorem mst_copy : Cond.static arraycopyName ∈ TT := tt_of 557 (by decide +kernel) (by decide +kernel)
theorem mst_max : Cond.static Lib.Math.max.name ∈ TT := tt_of 341 (by decide +kernel) (by decide +kernel)
theorem mc_max : Cond.code Lib.Math.max.name Lib.Math.max.code 2 (some .int) ∈ TT := tt_of 342 (by decide +kernel) (by decide +kernel)
theorem mst_min : Cond.static Lib.Math.min.name ∈ TT := tt_of 658 (by decide +kernel) (by decide +kernel)
theorem mc_min : Cond.code Lib.Math.min.name Lib.Math.min.code 2 (some .int) ∈ TT := tt_of 659 (by decide +kernel) (by decide +kernel)
theorem mst_maxl : Cond.static Lib.MathLoose.max_long.x ∈ TT := tt_of 307 (by decide +kernel) (by decide +kernel)
theorem mc_maxl : Cond.code Lib.MathLoose.max_long.x Lib.MathLoose.max_long.code 4 (some .long) ∈ TT := tt_of 308 (by decide +kernel) (by decide +kernel)
theorem mst_minl : Cond.static Lib.MathLoose.min_long.x ∈ TT := tt_of 304 (by decide +kernel) (by decide +kernel)
theorem mc_minl : Cond.code Lib.MathLoose.min_long.x Lib.MathLoose.min_long.code 4 (some .long) ∈ TT := tt_of 305 (by decide +kernel) (by decide +kernel)
theorem mc_X0_init : Cond.code yX0_init cX0_init 2 none ∈ TT := tt_of 204 (by decide +kernel) (by decide +kernel)
theorem mm_X0_init : Cond.instanceMethod yX0_init ∈ TT := tt_of 203 (by decide +kernel) (by decide +kernel)
theorem ok_X0_init : okY yX0_init 1 := by unfold okY; decide +kernel
theorem mc_X0_mostOf : Cond.code yX0_mostOf cX0_mostOf 2 (some .int) ∈ TT := tt_of 291 (by decide +kernel) (by decide +kernel)
theorem mm_X0_mostOf : Cond.instanceMethod yX0_mostOf ∈ TT := tt_of 290 (by decide +kernel) (by decide +kernel)
theorem msu_X0_mostOf : Cond.selects RX0 ⟨"RoomWarden$Keeper", "mostOf", "(I)I"⟩ yX0_mostOf ∈ TT := tt_of 289 (by decide +kernel) (by decide +kernel)
theorem ok_X0_mostOf : okY yX0_mostOf 1 := by unfold okY; decide +kernel
theorem mc_X0_greatest : Cond.code yX0_greatest cX0_greatest 4 (some .int) ∈ TT := tt_of 649 (by decide +kernel) (by decide +kernel)
theorem mm_X0_greatest : Cond.instanceMethod yX0_greatest ∈ TT := tt_of 648 (by decide +kernel) (by decide +kernel)
theorem msu_X0_greatest : Cond.selects RX0 ⟨"RoomWarden$Keeper", "greatest", "(I)I"⟩ yX0_greatest ∈ TT := tt_of 647 (by decide +kernel) (by decide +kernel)
theorem ok_X0_greatest : okY yX0_greatest 1 := by unfold okY; decide +kernel
theorem mc_X0_takePiece : Cond.code yX0_takePiece cX0_takePiece 5 (some .int) ∈ TT := tt_of 318 (by decide +kernel) (by decide +kernel)
theorem mm_X0_takePiece : Cond.instanceMethod yX0_takePiece ∈ TT := tt_of 317 (by decide +kernel) (by decide +kernel)
theorem msu_X0_takePiece : Cond.selects RX0 ⟨"RoomWarden$Keeper", "takePiece", "(II)I"⟩ yX0_takePiece ∈ TT := tt_of 316 (by decide +kernel) (by decide +kernel)
theorem ok_X0_takePiece : okY yX0_takePiece 2 := by unfold okY; decide +kernel
theorem mc_X0_fits : Cond.code yX0_fits cX0_fits 3 (some .boolean) ∈ TT := tt_of 508 (by decide +kernel) (by decide +kernel)
theorem mm_X0_fits : Cond.instanceMethod yX0_fits ∈ TT := tt_of 507 (by decide +kernel) (by decide +kernel)
theorem msu_X0_fits : Cond.selects RX0 ⟨"RoomWarden$Keeper", "fits", "(II)Z"⟩ yX0_fits ∈ TT := tt_of 506 (by decide +kernel) (by decide +kernel)
theorem ok_X0_fits : okY yX0_fits 2 := by unfold okY; decide +kernel
theorem mc_X0_reshape : Cond.code yX0_reshape cX0_reshape 3 none ∈ TT := tt_of 538 (by decide +kernel) (by decide +kernel)
theorem mm_X0_reshape : Cond.instanceMethod yX0_reshape ∈ TT := tt_of 537 (by decide +kernel) (by decide +kernel)
theorem msu_X0_reshape : Cond.selects RX0 ⟨"RoomWarden$Keeper", "reshape", "(II)V"⟩ yX0_reshape ∈ TT := tt_of 536 (by decide +kernel) (by decide +kernel)
theorem ok_X0_reshape : okY yX0_reshape 2 := by unfold okY; decide +kernel
theorem mc_X0_tidy : Cond.code yX0_tidy cX0_tidy 3 none ∈ TT := tt_of 446 (by decide +kernel) (by decide +kernel)
theorem mm_X0_tidy : Cond.instanceMethod yX0_tidy ∈ TT := tt_of 445 (by decide +kernel) (by decide +kernel)
theorem msu_X0_tidy : Cond.selects RX0 ⟨"RoomWarden$Keeper", "tidy", "(I)V"⟩ yX0_tidy ∈ TT := tt_of 444 (by decide +kernel) (by decide +kernel)
theorem ok_X0_tidy : okY yX0_tidy 1 := by unfold okY; decide +kernel
theorem mc_X0_leastFree : Cond.code yX0_leastFree cX0_leastFree 7 (some .int) ∈ TT := tt_of 322 (by decide +kernel) (by decide +kernel)
theorem mm_X0_leastFree : Cond.instanceMethod yX0_leastFree ∈ TT := tt_of 321 (by decide +kernel) (by decide +kernel)
theorem msl_X0_leastFree : Cond.selects RX0 yX0_leastFree yX0_leastFree ∈ TT := tt_of 2 (by decide +kernel) (by decide +kernel)
theorem mV_X0_leastFree : Cond.instanceMethod yX0_leastFree ∈ TT ∧ Cond.selects yX0_leastFree.cls yX0_leastFree yX0_leastFree ∈ TT ∧ Cond.initialized yX0_leastFree.cls ∈ TT ∧ Cond.code yX0_leastFree cX0_leastFree 7 (some .int) ∈ TT := ⟨mm_X0_leastFree, msl_X0_leastFree, mi_X0, mc_X0_leastFree⟩
theorem ok_X0_leastFree : okY yX0_leastFree 2 := by unfold okY; decide +kernel
theorem mc_X0_partOff : Cond.code yX0_partOff cX0_partOff 6 (some .int) ∈ TT := tt_of 363 (by decide +kernel) (by decide +kernel)
theorem mm_X0_partOff : Cond.instanceMethod yX0_partOff ∈ TT := tt_of 362 (by decide +kernel) (by decide +kernel)
theorem msl_X0_partOff : Cond.selects RX0 yX0_partOff yX0_partOff ∈ TT := tt_of 3 (by decide +kernel) (by decide +kernel)
theorem mV_X0_partOff : Cond.instanceMethod yX0_partOff ∈ TT ∧ Cond.selects yX0_partOff.cls yX0_partOff yX0_partOff ∈ TT ∧ Cond.initialized yX0_partOff.cls ∈ TT ∧ Cond.code yX0_partOff cX0_partOff 6 (some .int) ∈ TT := ⟨mm_X0_partOff, msl_X0_partOff, mi_X0, mc_X0_partOff⟩
theorem ok_X0_partOff : okY yX0_partOff 3 := by unfold okY; decide +kernel
theorem mc_X0_joinPairs : Cond.code yX0_joinPairs cX0_joinPairs 4 none ∈ TT := tt_of 450 (by decide +kernel) (by decide +kernel)
theorem mm_X0_joinPairs : Cond.instanceMethod yX0_joinPairs ∈ TT := tt_of 449 (by decide +kernel) (by decide +kernel)
theorem msl_X0_joinPairs : Cond.selects RX0 yX0_joinPairs yX0_joinPairs ∈ TT := tt_of 11 (by decide +kernel) (by decide +kernel)
theorem mV_X0_joinPairs : Cond.instanceMethod yX0_joinPairs ∈ TT ∧ Cond.selects yX0_joinPairs.cls yX0_joinPairs yX0_joinPairs ∈ TT ∧ Cond.initialized yX0_joinPairs.cls ∈ TT ∧ Cond.code yX0_joinPairs cX0_joinPairs 4 none ∈ TT := ⟨mm_X0_joinPairs, msl_X0_joinPairs, mi_X0, mc_X0_joinPairs⟩
theorem ok_X0_joinPairs : okY yX0_joinPairs 1 := by unfold okY; decide +kernel
theorem mc_X1_init : Cond.code yX1_init cX1_init 2 none ∈ TT := tt_of 151 (by decide +kernel) (by decide +kernel)
theorem mm_X1_init : Cond.instanceMethod yX1_init ∈ TT := tt_of 150 (by decide +kernel) (by decide +kernel)
theorem ok_X1_init : okY yX1_init 1 := by unfold okY; decide +kernel
theorem mc_X1_entries : Cond.code yX1_entries cX1_entries 3 (some .int) ∈ TT := tt_of 709 (by decide +kernel) (by decide +kernel)
theorem mm_X1_entries : Cond.instanceMethod yX1_entries ∈ TT := tt_of 707 (by decide +kernel) (by decide +kernel)
theorem msl_X1_entries : Cond.selects RX1 yX1_entries yX1_entries ∈ TT := tt_of 708 (by decide +kernel) (by decide +kernel)
theorem mV_X1_entries : Cond.instanceMethod yX1_entries ∈ TT ∧ Cond.selects yX1_entries.cls yX1_entries yX1_entries ∈ TT ∧ Cond.initialized yX1_entries.cls ∈ TT ∧ Cond.code yX1_entries cX1_entries 3 (some .int) ∈ TT := ⟨mm_X1_entries, msl_X1_entries, mi_X1, mc_X1_entries⟩
theorem ok_X1_entries : okY yX1_entries 0 := by unfold okY; decide +kernel
theorem mc_X1_seek : Cond.code yX1_seek cX1_seek 4 (some .boolean) ∈ TT := tt_of 688 (by decide +kernel) (by decide +kernel)
theorem mm_X1_seek : Cond.instanceMethod yX1_seek ∈ TT := tt_of 686 (by decide +kernel) (by decide +kernel)
theorem msl_X1_seek : Cond.selects RX1 yX1_seek yX1_seek ∈ TT := tt_of 687 (by decide +kernel) (by decide +kernel)
theorem mV_X1_seek : Cond.instanceMethod yX1_seek ∈ TT ∧ Cond.selects yX1_seek.cls yX1_seek yX1_seek ∈ TT ∧ Cond.initialized yX1_seek.cls ∈ TT ∧ Cond.code yX1_seek cX1_seek 4 (some .boolean) ∈ TT := ⟨mm_X1_seek, msl_X1_seek, mi_X1, mc_X1_seek⟩
theorem ok_X1_seek : okY yX1_seek 1 := by unfold okY; decide +kernel
theorem mc_X1_kindAt : Cond.code yX1_kindAt cX1_kindAt 3 (some .int) ∈ TT := tt_of 611 (by decide +kernel) (by decide +kernel)
theorem mm_X1_kindAt : Cond.instanceMethod yX1_kindAt ∈ TT := tt_of 609 (by decide +kernel) (by decide +kernel)
theorem msl_X1_kindAt : Cond.selects RX1 yX1_kindAt yX1_kindAt ∈ TT := tt_of 610 (by decide +kernel) (by decide +kernel)
theorem mV_X1_kindAt : Cond.instanceMethod yX1_kindAt ∈ TT ∧ Cond.selects yX1_kindAt.cls yX1_kindAt yX1_kindAt ∈ TT ∧ Cond.initialized yX1_kindAt.cls ∈ TT ∧ Cond.code yX1_kindAt cX1_kindAt 3 (some .int) ∈ TT := ⟨mm_X1_kindAt, msl_X1_kindAt, mi_X1, mc_X1_kindAt⟩
theorem ok_X1_kindAt : okY yX1_kindAt 1 := by unfold okY; decide +kernel
theorem mc_X1_handle : Cond.code yX1_handle cX1_handle 3 (some .int) ∈ TT := tt_of 692 (by decide +kernel) (by decide +kernel)
theorem mm_X1_handle : Cond.instanceMethod yX1_handle ∈ TT := tt_of 690 (by decide +kernel) (by decide +kernel)
theorem msl_X1_handle : Cond.selects RX1 yX1_handle yX1_handle ∈ TT := tt_of 691 (by decide +kernel) (by decide +kernel)
theorem mV_X1_handle : Cond.instanceMethod yX1_handle ∈ TT ∧ Cond.selects yX1_handle.cls yX1_handle yX1_handle ∈ TT ∧ Cond.initialized yX1_handle.cls ∈ TT ∧ Cond.code yX1_handle cX1_handle 3 (some .int) ∈ TT := ⟨mm_X1_handle, msl_X1_handle, mi_X1, mc_X1_handle⟩
theorem ok_X1_handle : okY yX1_handle 0 := by unfold okY; decide +kernel
theorem mc_X1_zoneNumber : Cond.code yX1_zoneNumber cX1_zoneNumber 1 (some .int) ∈ TT := tt_of 697 (by decide +kernel) (by decide +kernel)
theorem mm_X1_zoneNumber : Cond.instanceMethod yX1_zoneNumber ∈ TT := tt_of 695 (by decide +kernel) (by decide +kernel)
theorem msl_X1_zoneNumber : Cond.selects RX1 yX1_zoneNumber yX1_zoneNumber ∈ TT := tt_of 696 (by decide +kernel) (by decide +kernel)
theorem mV_X1_zoneNumber : Cond.instanceMethod yX1_zoneNumber ∈ TT ∧ Cond.selects yX1_zoneNumber.cls yX1_zoneNumber yX1_zoneNumber ∈ TT ∧ Cond.initialized yX1_zoneNumber.cls ∈ TT ∧ Cond.code yX1_zoneNumber cX1_zoneNumber 1 (some .int) ∈ TT := ⟨mm_X1_zoneNumber, msl_X1_zoneNumber, mi_X1, mc_X1_zoneNumber⟩
theorem ok_X1_zoneNumber : okY yX1_zoneNumber 0 := by unfold okY; decide +kernel
theorem mc_X1_goToPart : Cond.code yX1_goToPart cX1_goToPart 3 none ∈ TT := tt_of 638 (by decide +kernel) (by decide +kernel)
theorem mm_X1_goToPart : Cond.instanceMethod yX1_goToPart ∈ TT := tt_of 637 (by decide +kernel) (by decide +kernel)
theorem msl_X1_goToPart : Cond.selects RX1 yX1_goToPart yX1_goToPart ∈ TT := tt_of 21 (by decide +kernel) (by decide +kernel)
theorem mV_X1_goToPart : Cond.instanceMethod yX1_goToPart ∈ TT ∧ Cond.selects yX1_goToPart.cls yX1_goToPart yX1_goToPart ∈ TT ∧ Cond.initialized yX1_goToPart.cls ∈ TT ∧ Cond.code yX1_goToPart cX1_goToPart 3 none ∈ TT := ⟨mm_X1_goToPart, msl_X1_goToPart, mi_X1, mc_X1_goToPart⟩
theorem ok_X1_goToPart : okY yX1_goToPart 1 := by unfold okY; decide +kernel
theorem mc_X1_partWith : Cond.code yX1_partWith cX1_partWith 4 (some .int) ∈ TT := tt_of 634 (by decide +kernel) (by decide +kernel)
theorem mm_X1_partWith : Cond.instanceMethod yX1_partWith ∈ TT := tt_of 633 (by decide +kernel) (by decide +kernel)
theorem msl_X1_partWith : Cond.selects RX1 yX1_partWith yX1_partWith ∈ TT := tt_of 20 (by decide +kernel) (by decide +kernel)
theorem mV_X1_partWith : Cond.instanceMethod yX1_partWith ∈ TT ∧ Cond.selects yX1_partWith.cls yX1_partWith yX1_partWith ∈ TT ∧ Cond.initialized yX1_partWith.cls ∈ TT ∧ Cond.code yX1_partWith cX1_partWith 4 (some .int) ∈ TT := ⟨mm_X1_partWith, msl_X1_partWith, mi_X1, mc_X1_partWith⟩
theorem ok_X1_partWith : okY yX1_partWith 1 := by unfold okY; decide +kernel
theorem mc_X1_addPart : Cond.code yX1_addPart cX1_addPart 3 none ∈ TT := tt_of 622 (by decide +kernel) (by decide +kernel)
theorem mm_X1_addPart : Cond.instanceMethod yX1_addPart ∈ TT := tt_of 621 (by decide +kernel) (by decide +kernel)
theorem msl_X1_addPart : Cond.selects RX1 yX1_addPart yX1_addPart ∈ TT := tt_of 18 (by decide +kernel) (by decide +kernel)
theorem mV_X1_addPart : Cond.instanceMethod yX1_addPart ∈ TT ∧ Cond.selects yX1_addPart.cls yX1_addPart yX1_addPart ∈ TT ∧ Cond.initialized yX1_addPart.cls ∈ TT ∧ Cond.code yX1_addPart cX1_addPart 3 none ∈ TT := ⟨mm_X1_addPart, msl_X1_addPart, mi_X1, mc_X1_addPart⟩
theorem ok_X1_addPart : okY yX1_addPart 2 := by unfold okY; decide +kernel
theorem mc_X1_lookAt : Cond.code yX1_lookAt cX1_lookAt 4 none ∈ TT := tt_of 617 (by decide +kernel) (by decide +kernel)
theorem mm_X1_lookAt : Cond.instanceMethod yX1_lookAt ∈ TT := tt_of 616 (by decide +kernel) (by decide +kernel)
theorem msl_X1_lookAt : Cond.selects RX1 yX1_lookAt yX1_lookAt ∈ TT := tt_of 17 (by decide +kernel) (by decide +kernel)
theorem mV_X1_lookAt : Cond.instanceMethod yX1_lookAt ∈ TT ∧ Cond.selects yX1_lookAt.cls yX1_lookAt yX1_lookAt ∈ TT ∧ Cond.initialized yX1_lookAt.cls ∈ TT ∧ Cond.code yX1_lookAt cX1_lookAt 4 none ∈ TT := ⟨mm_X1_lookAt, msl_X1_lookAt, mi_X1, mc_X1_lookAt⟩
theorem ok_X1_lookAt : okY yX1_lookAt 1 := by unfold okY; decide +kernel
theorem mc_X1_addRowParts : Cond.code yX1_addRowParts cX1_addRowParts 3 none ∈ TT := tt_of 629 (by decide +kernel) (by decide +kernel)
theorem mm_X1_addRowParts : Cond.instanceMethod yX1_addRowParts ∈ TT := tt_of 628 (by decide +kernel) (by decide +kernel)
theorem msl_X1_addRowParts : Cond.selects RX1 yX1_addRowParts yX1_addRowParts ∈ TT := tt_of 19 (by decide +kernel) (by decide +kernel)
theorem mV_X1_addRowParts : Cond.instanceMethod yX1_addRowParts ∈ TT ∧ Cond.selects yX1_addRowParts.cls yX1_addRowParts yX1_addRowParts ∈ TT ∧ Cond.initialized yX1_addRowParts.cls ∈ TT ∧ Cond.code yX1_addRowParts cX1_addRowParts 3 none ∈ TT := ⟨mm_X1_addRowParts, msl_X1_addRowParts, mi_X1, mc_X1_addRowParts⟩
theorem ok_X1_addRowParts : okY yX1_addRowParts 2 := by unfold okY; decide +kernel
theorem mc_X2_init : Cond.code yX2_init cX2_init 2 none ∈ TT := tt_of 188 (by decide +kernel) (by decide +kernel)
theorem mm_X2_init : Cond.instanceMethod yX2_init ∈ TT := tt_of 187 (by decide +kernel) (by decide +kernel)
theorem ok_X2_init : okY yX2_init 1 := by unfold okY; decide +kernel
theorem mc_X3_init : Cond.code yX3_init cX3_init 1 none ∈ TT := tt_of 77 (by decide +kernel) (by decide +kernel)
theorem mm_X3_init : Cond.instanceMethod yX3_init ∈ TT := tt_of 76 (by decide +kernel) (by decide +kernel)
theorem ok_X3_init : okY yX3_init 0 := by unfold okY; decide +kernel
theorem mc_X3_beginAnew : Cond.code yX3_beginAnew cX3_beginAnew 2 none ∈ TT := tt_of 252 (by decide +kernel) (by decide +kernel)
theorem mm_X3_beginAnew : Cond.instanceMethod yX3_beginAnew ∈ TT := tt_of 250 (by decide +kernel) (by decide +kernel)
theorem msl_X3_beginAnew : Cond.selects RX3 yX3_beginAnew yX3_beginAnew ∈ TT := tt_of 251 (by decide +kernel) (by decide +kernel)
theorem mV_X3_beginAnew : Cond.instanceMethod yX3_beginAnew ∈ TT ∧ Cond.selects yX3_beginAnew.cls yX3_beginAnew yX3_beginAnew ∈ TT ∧ Cond.initialized yX3_beginAnew.cls ∈ TT ∧ Cond.code yX3_beginAnew cX3_beginAnew 2 none ∈ TT := ⟨mm_X3_beginAnew, msl_X3_beginAnew, mi_X3, mc_X3_beginAnew⟩
theorem ok_X3_beginAnew : okY yX3_beginAnew 1 := by unfold okY; decide +kernel
theorem mc_X3_become : Cond.code yX3_become cX3_become 2 none ∈ TT := tt_of 717 (by decide +kernel) (by decide +kernel)
theorem mm_X3_become : Cond.instanceMethod yX3_become ∈ TT := tt_of 715 (by decide +kernel) (by decide +kernel)
theorem msl_X3_become : Cond.selects RX3 yX3_become yX3_become ∈ TT := tt_of 716 (by decide +kernel) (by decide +kernel)
theorem mV_X3_become : Cond.instanceMethod yX3_become ∈ TT ∧ Cond.selects yX3_become.cls yX3_become yX3_become ∈ TT ∧ Cond.initialized yX3_become.cls ∈ TT ∧ Cond.code yX3_become cX3_become 2 none ∈ TT := ⟨mm_X3_become, msl_X3_become, mi_X3, mc_X3_become⟩
theorem ok_X3_become : okY yX3_become 1 := by unfold okY; decide +kernel
theorem mc_X3_places : Cond.code yX3_places cX3_places 1 (some .int) ∈ TT := tt_of 326 (by decide +kernel) (by decide +kernel)
theorem mm_X3_places : Cond.instanceMethod yX3_places ∈ TT := tt_of 324 (by decide +kernel) (by decide +kernel)
theorem msl_X3_places : Cond.selects RX3 yX3_places yX3_places ∈ TT := tt_of 325 (by decide +kernel) (by decide +kernel)
theorem mV_X3_places : Cond.instanceMethod yX3_places ∈ TT ∧ Cond.selects yX3_places.cls yX3_places yX3_places ∈ TT ∧ Cond.initialized yX3_places.cls ∈ TT ∧ Cond.code yX3_places cX3_places 1 (some .int) ∈ TT := ⟨mm_X3_places, msl_X3_places, mi_X3, mc_X3_places⟩
theorem ok_X3_places : okY yX3_places 0 := by unfold okY; decide +kernel
theorem mc_X3_ownerAt : Cond.code yX3_ownerAt cX3_ownerAt 2 (some .int) ∈ TT := tt_of 334 (by decide +kernel) (by decide +kernel)
theorem mm_X3_ownerAt : Cond.instanceMethod yX3_ownerAt ∈ TT := tt_of 332 (by decide +kernel) (by decide +kernel)
theorem msl_X3_ownerAt : Cond.selects RX3 yX3_ownerAt yX3_ownerAt ∈ TT := tt_of 333 (by decide +kernel) (by decide +kernel)
theorem mV_X3_ownerAt : Cond.instanceMethod yX3_ownerAt ∈ TT ∧ Cond.selects yX3_ownerAt.cls yX3_ownerAt yX3_ownerAt ∈ TT ∧ Cond.initialized yX3_ownerAt.cls ∈ TT ∧ Cond.code yX3_ownerAt cX3_ownerAt 2 (some .int) ∈ TT := ⟨mm_X3_ownerAt, msl_X3_ownerAt, mi_X3, mc_X3_ownerAt⟩
theorem ok_X3_ownerAt : okY yX3_ownerAt 1 := by unfold okY; decide +kernel
theorem mc_X3_pagesOf : Cond.code yX3_pagesOf cX3_pagesOf 4 (some .int) ∈ TT := tt_of 670 (by decide +kernel) (by decide +kernel)
theorem mm_X3_pagesOf : Cond.instanceMethod yX3_pagesOf ∈ TT := tt_of 668 (by decide +kernel) (by decide +kernel)
theorem msl_X3_pagesOf : Cond.selects RX3 yX3_pagesOf yX3_pagesOf ∈ TT := tt_of 669 (by decide +kernel) (by decide +kernel)
theorem mV_X3_pagesOf : Cond.instanceMethod yX3_pagesOf ∈ TT ∧ Cond.selects yX3_pagesOf.cls yX3_pagesOf yX3_pagesOf ∈ TT ∧ Cond.initialized yX3_pagesOf.cls ∈ TT ∧ Cond.code yX3_pagesOf cX3_pagesOf 4 (some .int) ∈ TT := ⟨mm_X3_pagesOf, msl_X3_pagesOf, mi_X3, mc_X3_pagesOf⟩
theorem ok_X3_pagesOf : okY yX3_pagesOf 1 := by unfold okY; decide +kernel
theorem mc_X3_freeRun : Cond.code yX3_freeRun cX3_freeRun 4 (some .int) ∈ TT := tt_of 355 (by decide +kernel) (by decide +kernel)
theorem mm_X3_freeRun : Cond.instanceMethod yX3_freeRun ∈ TT := tt_of 353 (by decide +kernel) (by decide +kernel)
theorem msl_X3_freeRun : Cond.selects RX3 yX3_freeRun yX3_freeRun ∈ TT := tt_of 354 (by decide +kernel) (by decide +kernel)
theorem mV_X3_freeRun : Cond.instanceMethod yX3_freeRun ∈ TT ∧ Cond.selects yX3_freeRun.cls yX3_freeRun yX3_freeRun ∈ TT ∧ Cond.initialized yX3_freeRun.cls ∈ TT ∧ Cond.code yX3_freeRun cX3_freeRun 4 (some .int) ∈ TT := ⟨mm_X3_freeRun, msl_X3_freeRun, mi_X3, mc_X3_freeRun⟩
theorem ok_X3_freeRun : okY yX3_freeRun 1 := by unfold okY; decide +kernel
theorem mc_X3_longestFreeRun : Cond.code yX3_longestFreeRun cX3_longestFreeRun 4 (some .int) ∈ TT := tt_of 656 (by decide +kernel) (by decide +kernel)
theorem mm_X3_longestFreeRun : Cond.instanceMethod yX3_longestFreeRun ∈ TT := tt_of 654 (by decide +kernel) (by decide +kernel)
theorem msl_X3_longestFreeRun : Cond.selects RX3 yX3_longestFreeRun yX3_longestFreeRun ∈ TT := tt_of 655 (by decide +kernel) (by decide +kernel)
theorem mV_X3_longestFreeRun : Cond.instanceMethod yX3_longestFreeRun ∈ TT ∧ Cond.selects yX3_longestFreeRun.cls yX3_longestFreeRun yX3_longestFreeRun ∈ TT ∧ Cond.initialized yX3_longestFreeRun.cls ∈ TT ∧ Cond.code yX3_longestFreeRun cX3_longestFreeRun 4 (some .int) ∈ TT := ⟨mm_X3_longestFreeRun, msl_X3_longestFreeRun, mi_X3, mc_X3_longestFreeRun⟩
theorem ok_X3_longestFreeRun : okY yX3_longestFreeRun 0 := by unfold okY; decide +kernel
theorem mc_X3_areThere : Cond.code yX3_areThere cX3_areThere 3 (some .boolean) ∈ TT := tt_of 498 (by decide +kernel) (by decide +kernel)
theorem mm_X3_areThere : Cond.instanceMethod yX3_areThere ∈ TT := tt_of 497 (by decide +kernel) (by decide +kernel)
theorem msl_X3_areThere : Cond.selects RX3 yX3_areThere yX3_areThere ∈ TT := tt_of 14 (by decide +kernel) (by decide +kernel)
theorem mV_X3_areThere : Cond.instanceMethod yX3_areThere ∈ TT ∧ Cond.selects yX3_areThere.cls yX3_areThere yX3_areThere ∈ TT ∧ Cond.initialized yX3_areThere.cls ∈ TT ∧ Cond.code yX3_areThere cX3_areThere 3 (some .boolean) ∈ TT := ⟨mm_X3_areThere, msl_X3_areThere, mi_X3, mc_X3_areThere⟩
theorem ok_X3_areThere : okY yX3_areThere 2 := by unfold okY; decide +kernel
theorem mc_X3_numberAt : Cond.code yX3_numberAt cX3_numberAt 2 (some .long) ∈ TT := tt_of 486 (by decide +kernel) (by decide +kernel)
theorem mm_X3_numberAt : Cond.instanceMethod yX3_numberAt ∈ TT := tt_of 484 (by decide +kernel) (by decide +kernel)
theorem msl_X3_numberAt : Cond.selects RX3 yX3_numberAt yX3_numberAt ∈ TT := tt_of 485 (by decide +kernel) (by decide +kernel)
theorem mV_X3_numberAt : Cond.instanceMethod yX3_numberAt ∈ TT ∧ Cond.selects yX3_numberAt.cls yX3_numberAt yX3_numberAt ∈ TT ∧ Cond.initialized yX3_numberAt.cls ∈ TT ∧ Cond.code yX3_numberAt cX3_numberAt 2 (some .long) ∈ TT := ⟨mm_X3_numberAt, msl_X3_numberAt, mi_X3, mc_X3_numberAt⟩
theorem ok_X3_numberAt : okY yX3_numberAt 1 := by unfold okY; decide +kernel
theorem mc_X3_setNumber : Cond.code yX3_setNumber cX3_setNumber 4 none ∈ TT := tt_of 436 (by decide +kernel) (by decide +kernel)
theorem mm_X3_setNumber : Cond.instanceMethod yX3_setNumber ∈ TT := tt_of 434 (by decide +kernel) (by decide +kernel)
theorem msl_X3_setNumber : Cond.selects RX3 yX3_setNumber yX3_setNumber ∈ TT := tt_of 435 (by decide +kernel) (by decide +kernel)
theorem mV_X3_setNumber : Cond.instanceMethod yX3_setNumber ∈ TT ∧ Cond.selects yX3_setNumber.cls yX3_setNumber yX3_setNumber ∈ TT ∧ Cond.initialized yX3_setNumber.cls ∈ TT ∧ Cond.code yX3_setNumber cX3_setNumber 4 none ∈ TT := ⟨mm_X3_setNumber, msl_X3_setNumber, mi_X3, mc_X3_setNumber⟩
theorem ok_X3_setNumber : okY yX3_setNumber 2 := by unfold okY; decide +kernel
theorem mc_X3_setNumbers : Cond.code yX3_setNumbers cX3_setNumbers 6 none ∈ TT := tt_of 494 (by decide +kernel) (by decide +kernel)
theorem mm_X3_setNumbers : Cond.instanceMethod yX3_setNumbers ∈ TT := tt_of 492 (by decide +kernel) (by decide +kernel)
theorem msl_X3_setNumbers : Cond.selects RX3 yX3_setNumbers yX3_setNumbers ∈ TT := tt_of 493 (by decide +kernel) (by decide +kernel)
theorem mV_X3_setNumbers : Cond.instanceMethod yX3_setNumbers ∈ TT ∧ Cond.selects yX3_setNumbers.cls yX3_setNumbers yX3_setNumbers ∈ TT ∧ Cond.initialized yX3_setNumbers.cls ∈ TT ∧ Cond.code yX3_setNumbers cX3_setNumbers 6 none ∈ TT := ⟨mm_X3_setNumbers, msl_X3_setNumbers, mi_X3, mc_X3_setNumbers⟩
theorem ok_X3_setNumbers : okY yX3_setNumbers 3 := by unfold okY; decide +kernel
theorem mc_X3_copyNumbers : Cond.code yX3_copyNumbers cX3_copyNumbers 4 none ∈ TT := tt_of 555 (by decide +kernel) (by decide +kernel)
theorem mm_X3_copyNumbers : Cond.instanceMethod yX3_copyNumbers ∈ TT := tt_of 553 (by decide +kernel) (by decide +kernel)
theorem msl_X3_copyNumbers : Cond.selects RX3 yX3_copyNumbers yX3_copyNumbers ∈ TT := tt_of 554 (by decide +kernel) (by decide +kernel)
theorem mV_X3_copyNumbers : Cond.instanceMethod yX3_copyNumbers ∈ TT ∧ Cond.selects yX3_copyNumbers.cls yX3_copyNumbers yX3_copyNumbers ∈ TT ∧ Cond.initialized yX3_copyNumbers.cls ∈ TT ∧ Cond.code yX3_copyNumbers cX3_copyNumbers 4 none ∈ TT := ⟨mm_X3_copyNumbers, msl_X3_copyNumbers, mi_X3, mc_X3_copyNumbers⟩
theorem ok_X3_copyNumbers : okY yX3_copyNumbers 3 := by unfold okY; decide +kernel
theorem mc_X3_pieceAt : Cond.code yX3_pieceAt cX3_pieceAt 2 (some .int) ∈ TT := tt_of 339 (by decide +kernel) (by decide +kernel)
theorem mm_X3_pieceAt : Cond.instanceMethod yX3_pieceAt ∈ TT := tt_of 337 (by decide +kernel) (by decide +kernel)
theorem msl_X3_pieceAt : Cond.selects RX3 yX3_pieceAt yX3_pieceAt ∈ TT := tt_of 338 (by decide +kernel) (by decide +kernel)
theorem mV_X3_pieceAt : Cond.instanceMethod yX3_pieceAt ∈ TT ∧ Cond.selects yX3_pieceAt.cls yX3_pieceAt yX3_pieceAt ∈ TT ∧ Cond.initialized yX3_pieceAt.cls ∈ TT ∧ Cond.code yX3_pieceAt cX3_pieceAt 2 (some .int) ∈ TT := ⟨mm_X3_pieceAt, msl_X3_pieceAt, mi_X3, mc_X3_pieceAt⟩
theorem ok_X3_pieceAt : okY yX3_pieceAt 1 := by unfold okY; decide +kernel
theorem mc_X3_mark : Cond.code yX3_mark cX3_mark 3 none ∈ TT := tt_of 359 (by decide +kernel) (by decide +kernel)
theorem mm_X3_mark : Cond.instanceMethod yX3_mark ∈ TT := tt_of 357 (by decide +kernel) (by decide +kernel)
theorem msl_X3_mark : Cond.selects RX3 yX3_mark yX3_mark ∈ TT := tt_of 358 (by decide +kernel) (by decide +kernel)
theorem mV_X3_mark : Cond.instanceMethod yX3_mark ∈ TT ∧ Cond.selects yX3_mark.cls yX3_mark yX3_mark ∈ TT ∧ Cond.initialized yX3_mark.cls ∈ TT ∧ Cond.code yX3_mark cX3_mark 3 none ∈ TT := ⟨mm_X3_mark, msl_X3_mark, mi_X3, mc_X3_mark⟩
theorem ok_X3_mark : okY yX3_mark 2 := by unfold okY; decide +kernel
theorem mc_X3_blockAt : Cond.code yX3_blockAt cX3_blockAt 3 (some .int) ∈ TT := tt_of 350 (by decide +kernel) (by decide +kernel)
theorem mm_X3_blockAt : Cond.instanceMethod yX3_blockAt ∈ TT := tt_of 348 (by decide +kernel) (by decide +kernel)
theorem msl_X3_blockAt : Cond.selects RX3 yX3_blockAt yX3_blockAt ∈ TT := tt_of 349 (by decide +kernel) (by decide +kernel)
theorem mV_X3_blockAt : Cond.instanceMethod yX3_blockAt ∈ TT ∧ Cond.selects yX3_blockAt.cls yX3_blockAt yX3_blockAt ∈ TT ∧ Cond.initialized yX3_blockAt.cls ∈ TT ∧ Cond.code yX3_blockAt cX3_blockAt 3 (some .int) ∈ TT := ⟨mm_X3_blockAt, msl_X3_blockAt, mi_X3, mc_X3_blockAt⟩
theorem ok_X3_blockAt : okY yX3_blockAt 1 := by unfold okY; decide +kernel
theorem mc_X3_freeAt : Cond.code yX3_freeAt cX3_freeAt 3 (some .int) ∈ TT := tt_of 330 (by decide +kernel) (by decide +kernel)
theorem mm_X3_freeAt : Cond.instanceMethod yX3_freeAt ∈ TT := tt_of 328 (by decide +kernel) (by decide +kernel)
theorem msl_X3_freeAt : Cond.selects RX3 yX3_freeAt yX3_freeAt ∈ TT := tt_of 329 (by decide +kernel) (by decide +kernel)
theorem mV_X3_freeAt : Cond.instanceMethod yX3_freeAt ∈ TT ∧ Cond.selects yX3_freeAt.cls yX3_freeAt yX3_freeAt ∈ TT ∧ Cond.initialized yX3_freeAt.cls ∈ TT ∧ Cond.code yX3_freeAt cX3_freeAt 3 (some .int) ∈ TT := ⟨mm_X3_freeAt, msl_X3_freeAt, mi_X3, mc_X3_freeAt⟩
theorem ok_X3_freeAt : okY yX3_freeAt 2 := by unfold okY; decide +kernel
theorem mc_X3_endOf : Cond.code yX3_endOf cX3_endOf 5 (some .int) ∈ TT := tt_of 346 (by decide +kernel) (by decide +kernel)
theorem mm_X3_endOf : Cond.instanceMethod yX3_endOf ∈ TT := tt_of 344 (by decide +kernel) (by decide +kernel)
theorem msl_X3_endOf : Cond.selects RX3 yX3_endOf yX3_endOf ∈ TT := tt_of 345 (by decide +kernel) (by decide +kernel)
theorem mV_X3_endOf : Cond.instanceMethod yX3_endOf ∈ TT ∧ Cond.selects yX3_endOf.cls yX3_endOf yX3_endOf ∈ TT ∧ Cond.initialized yX3_endOf.cls ∈ TT ∧ Cond.code yX3_endOf cX3_endOf 5 (some .int) ∈ TT := ⟨mm_X3_endOf, msl_X3_endOf, mi_X3, mc_X3_endOf⟩
theorem ok_X3_endOf : okY yX3_endOf 1 := by unfold okY; decide +kernel
theorem mc_X3_freePiecesOf : Cond.code yX3_freePiecesOf cX3_freePiecesOf 4 (some .int) ∈ TT := tt_of 678 (by decide +kernel) (by decide +kernel)
theorem mm_X3_freePiecesOf : Cond.instanceMethod yX3_freePiecesOf ∈ TT := tt_of 676 (by decide +kernel) (by decide +kernel)
theorem msl_X3_freePiecesOf : Cond.selects RX3 yX3_freePiecesOf yX3_freePiecesOf ∈ TT := tt_of 677 (by decide +kernel) (by decide +kernel)
theorem mV_X3_freePiecesOf : Cond.instanceMethod yX3_freePiecesOf ∈ TT ∧ Cond.selects yX3_freePiecesOf.cls yX3_freePiecesOf yX3_freePiecesOf ∈ TT ∧ Cond.initialized yX3_freePiecesOf.cls ∈ TT ∧ Cond.code yX3_freePiecesOf cX3_freePiecesOf 4 (some .int) ∈ TT := ⟨mm_X3_freePiecesOf, msl_X3_freePiecesOf, mi_X3, mc_X3_freePiecesOf⟩
theorem ok_X3_freePiecesOf : okY yX3_freePiecesOf 1 := by unfold okY; decide +kernel
theorem mc_X3_vacate : Cond.code yX3_vacate cX3_vacate 3 none ∈ TT := tt_of 490 (by decide +kernel) (by decide +kernel)
theorem mm_X3_vacate : Cond.instanceMethod yX3_vacate ∈ TT := tt_of 488 (by decide +kernel) (by decide +kernel)
theorem msl_X3_vacate : Cond.selects RX3 yX3_vacate yX3_vacate ∈ TT := tt_of 489 (by decide +kernel) (by decide +kernel)
theorem mV_X3_vacate : Cond.instanceMethod yX3_vacate ∈ TT ∧ Cond.selects yX3_vacate.cls yX3_vacate yX3_vacate ∈ TT ∧ Cond.initialized yX3_vacate.cls ∈ TT ∧ Cond.code yX3_vacate cX3_vacate 3 none ∈ TT := ⟨mm_X3_vacate, msl_X3_vacate, mi_X3, mc_X3_vacate⟩
theorem ok_X3_vacate : okY yX3_vacate 2 := by unfold okY; decide +kernel
theorem mc_X3_hasZone : Cond.code yX3_hasZone cX3_hasZone 2 (some .boolean) ∈ TT := tt_of 276 (by decide +kernel) (by decide +kernel)
theorem mm_X3_hasZone : Cond.instanceMethod yX3_hasZone ∈ TT := tt_of 274 (by decide +kernel) (by decide +kernel)
theorem msl_X3_hasZone : Cond.selects RX3 yX3_hasZone yX3_hasZone ∈ TT := tt_of 275 (by decide +kernel) (by decide +kernel)
theorem mV_X3_hasZone : Cond.instanceMethod yX3_hasZone ∈ TT ∧ Cond.selects yX3_hasZone.cls yX3_hasZone yX3_hasZone ∈ TT ∧ Cond.initialized yX3_hasZone.cls ∈ TT ∧ Cond.code yX3_hasZone cX3_hasZone 2 (some .boolean) ∈ TT := ⟨mm_X3_hasZone, msl_X3_hasZone, mi_X3, mc_X3_hasZone⟩
theorem ok_X3_hasZone : okY yX3_hasZone 1 := by unfold okY; decide +kernel
theorem mc_X3_addZone : Cond.code yX3_addZone cX3_addZone 5 (some .int) ∈ TT := tt_of 268 (by decide +kernel) (by decide +kernel)
theorem mm_X3_addZone : Cond.instanceMethod yX3_addZone ∈ TT := tt_of 266 (by decide +kernel) (by decide +kernel)
theorem msl_X3_addZone : Cond.selects RX3 yX3_addZone yX3_addZone ∈ TT := tt_of 267 (by decide +kernel) (by decide +kernel)
theorem mV_X3_addZone : Cond.instanceMethod yX3_addZone ∈ TT ∧ Cond.selects yX3_addZone.cls yX3_addZone yX3_addZone ∈ TT ∧ Cond.initialized yX3_addZone.cls ∈ TT ∧ Cond.code yX3_addZone cX3_addZone 5 (some .int) ∈ TT := ⟨mm_X3_addZone, msl_X3_addZone, mi_X3, mc_X3_addZone⟩
theorem ok_X3_addZone : okY yX3_addZone 2 := by unfold okY; decide +kernel
theorem mc_X3_kindOf : Cond.code yX3_kindOf cX3_kindOf 2 (some .int) ∈ TT := tt_of 284 (by decide +kernel) (by decide +kernel)
theorem mm_X3_kindOf : Cond.instanceMethod yX3_kindOf ∈ TT := tt_of 282 (by decide +kernel) (by decide +kernel)
theorem msl_X3_kindOf : Cond.selects RX3 yX3_kindOf yX3_kindOf ∈ TT := tt_of 283 (by decide +kernel) (by decide +kernel)
theorem mV_X3_kindOf : Cond.instanceMethod yX3_kindOf ∈ TT ∧ Cond.selects yX3_kindOf.cls yX3_kindOf yX3_kindOf ∈ TT ∧ Cond.initialized yX3_kindOf.cls ∈ TT ∧ Cond.code yX3_kindOf cX3_kindOf 2 (some .int) ∈ TT := ⟨mm_X3_kindOf, msl_X3_kindOf, mi_X3, mc_X3_kindOf⟩
theorem ok_X3_kindOf : okY yX3_kindOf 1 := by unfold okY; decide +kernel
theorem mc_X3_classOf : Cond.code yX3_classOf cX3_classOf 2 (some .int) ∈ TT := tt_of 301 (by decide +kernel) (by decide +kernel)
theorem mm_X3_classOf : Cond.instanceMethod yX3_classOf ∈ TT := tt_of 299 (by decide +kernel) (by decide +kernel)
theorem msl_X3_classOf : Cond.selects RX3 yX3_classOf yX3_classOf ∈ TT := tt_of 300 (by decide +kernel) (by decide +kernel)
theorem mV_X3_classOf : Cond.instanceMethod yX3_classOf ∈ TT ∧ Cond.selects yX3_classOf.cls yX3_classOf yX3_classOf ∈ TT ∧ Cond.initialized yX3_classOf.cls ∈ TT ∧ Cond.code yX3_classOf cX3_classOf 2 (some .int) ∈ TT := ⟨mm_X3_classOf, msl_X3_classOf, mi_X3, mc_X3_classOf⟩
theorem ok_X3_classOf : okY yX3_classOf 1 := by unfold okY; decide +kernel
theorem mc_X3_isRowZone : Cond.code yX3_isRowZone cX3_isRowZone 2 (some .boolean) ∈ TT := tt_of 531 (by decide +kernel) (by decide +kernel)
theorem mm_X3_isRowZone : Cond.instanceMethod yX3_isRowZone ∈ TT := tt_of 529 (by decide +kernel) (by decide +kernel)
theorem msl_X3_isRowZone : Cond.selects RX3 yX3_isRowZone yX3_isRowZone ∈ TT := tt_of 530 (by decide +kernel) (by decide +kernel)
theorem mV_X3_isRowZone : Cond.instanceMethod yX3_isRowZone ∈ TT ∧ Cond.selects yX3_isRowZone.cls yX3_isRowZone yX3_isRowZone ∈ TT ∧ Cond.initialized yX3_isRowZone.cls ∈ TT ∧ Cond.code yX3_isRowZone cX3_isRowZone 2 (some .boolean) ∈ TT := ⟨mm_X3_isRowZone, msl_X3_isRowZone, mi_X3, mc_X3_isRowZone⟩
theorem ok_X3_isRowZone : okY yX3_isRowZone 1 := by unfold okY; decide +kernel
theorem mc_X3_find : Cond.code yX3_find cX3_find 4 (some .int) ∈ TT := tt_of 478 (by decide +kernel) (by decide +kernel)
theorem mm_X3_find : Cond.instanceMethod yX3_find ∈ TT := tt_of 476 (by decide +kernel) (by decide +kernel)
theorem msl_X3_find : Cond.selects RX3 yX3_find yX3_find ∈ TT := tt_of 477 (by decide +kernel) (by decide +kernel)
theorem mV_X3_find : Cond.instanceMethod yX3_find ∈ TT ∧ Cond.selects yX3_find.cls yX3_find yX3_find ∈ TT ∧ Cond.initialized yX3_find.cls ∈ TT ∧ Cond.code yX3_find cX3_find 4 (some .int) ∈ TT := ⟨mm_X3_find, msl_X3_find, mi_X3, mc_X3_find⟩
theorem ok_X3_find : okY yX3_find 1 := by unfold okY; decide +kernel
theorem mc_X3_handleOf : Cond.code yX3_handleOf cX3_handleOf 2 (some .int) ∈ TT := tt_of 470 (by decide +kernel) (by decide +kernel)
theorem mm_X3_handleOf : Cond.instanceMethod yX3_handleOf ∈ TT := tt_of 468 (by decide +kernel) (by decide +kernel)
theorem msl_X3_handleOf : Cond.selects RX3 yX3_handleOf yX3_handleOf ∈ TT := tt_of 469 (by decide +kernel) (by decide +kernel)
theorem mV_X3_handleOf : Cond.instanceMethod yX3_handleOf ∈ TT ∧ Cond.selects yX3_handleOf.cls yX3_handleOf yX3_handleOf ∈ TT ∧ Cond.initialized yX3_handleOf.cls ∈ TT ∧ Cond.code yX3_handleOf cX3_handleOf 2 (some .int) ∈ TT := ⟨mm_X3_handleOf, msl_X3_handleOf, mi_X3, mc_X3_handleOf⟩
theorem ok_X3_handleOf : okY yX3_handleOf 1 := by unfold okY; decide +kernel
theorem mc_X3_lowestUnused : Cond.code yX3_lowestUnused cX3_lowestUnused 2 (some .int) ∈ TT := tt_of 312 (by decide +kernel) (by decide +kernel)
theorem mm_X3_lowestUnused : Cond.instanceMethod yX3_lowestUnused ∈ TT := tt_of 310 (by decide +kernel) (by decide +kernel)
theorem msl_X3_lowestUnused : Cond.selects RX3 yX3_lowestUnused yX3_lowestUnused ∈ TT := tt_of 311 (by decide +kernel) (by decide +kernel)
theorem mV_X3_lowestUnused : Cond.instanceMethod yX3_lowestUnused ∈ TT ∧ Cond.selects yX3_lowestUnused.cls yX3_lowestUnused yX3_lowestUnused ∈ TT ∧ Cond.initialized yX3_lowestUnused.cls ∈ TT ∧ Cond.code yX3_lowestUnused cX3_lowestUnused 2 (some .int) ∈ TT := ⟨mm_X3_lowestUnused, msl_X3_lowestUnused, mi_X3, mc_X3_lowestUnused⟩
theorem ok_X3_lowestUnused : okY yX3_lowestUnused 0 := by unfold okY; decide +kernel
theorem mc_X3_blocks : Cond.code yX3_blocks cX3_blocks 3 (some .int) ∈ TT := tt_of 705 (by decide +kernel) (by decide +kernel)
theorem mm_X3_blocks : Cond.instanceMethod yX3_blocks ∈ TT := tt_of 703 (by decide +kernel) (by decide +kernel)
theorem msl_X3_blocks : Cond.selects RX3 yX3_blocks yX3_blocks ∈ TT := tt_of 704 (by decide +kernel) (by decide +kernel)
theorem mV_X3_blocks : Cond.instanceMethod yX3_blocks ∈ TT ∧ Cond.selects yX3_blocks.cls yX3_blocks yX3_blocks ∈ TT ∧ Cond.initialized yX3_blocks.cls ∈ TT ∧ Cond.code yX3_blocks cX3_blocks 3 (some .int) ∈ TT := ⟨mm_X3_blocks, msl_X3_blocks, mi_X3, mc_X3_blocks⟩
theorem ok_X3_blocks : okY yX3_blocks 0 := by unfold okY; decide +kernel
theorem mc_X3_blocksOf : Cond.code yX3_blocksOf cX3_blocksOf 4 (some .int) ∈ TT := tt_of 674 (by decide +kernel) (by decide +kernel)
theorem mm_X3_blocksOf : Cond.instanceMethod yX3_blocksOf ∈ TT := tt_of 672 (by decide +kernel) (by decide +kernel)
theorem msl_X3_blocksOf : Cond.selects RX3 yX3_blocksOf yX3_blocksOf ∈ TT := tt_of 673 (by decide +kernel) (by decide +kernel)
theorem mV_X3_blocksOf : Cond.instanceMethod yX3_blocksOf ∈ TT ∧ Cond.selects yX3_blocksOf.cls yX3_blocksOf yX3_blocksOf ∈ TT ∧ Cond.initialized yX3_blocksOf.cls ∈ TT ∧ Cond.code yX3_blocksOf cX3_blocksOf 4 (some .int) ∈ TT := ⟨mm_X3_blocksOf, msl_X3_blocksOf, mi_X3, mc_X3_blocksOf⟩
theorem ok_X3_blocksOf : okY yX3_blocksOf 1 := by unfold okY; decide +kernel
theorem mc_X3_putBlock : Cond.code yX3_putBlock cX3_putBlock 5 none ∈ TT := tt_of 414 (by decide +kernel) (by decide +kernel)
theorem mm_X3_putBlock : Cond.instanceMethod yX3_putBlock ∈ TT := tt_of 412 (by decide +kernel) (by decide +kernel)
theorem msl_X3_putBlock : Cond.selects RX3 yX3_putBlock yX3_putBlock ∈ TT := tt_of 413 (by decide +kernel) (by decide +kernel)
theorem mV_X3_putBlock : Cond.instanceMethod yX3_putBlock ∈ TT ∧ Cond.selects yX3_putBlock.cls yX3_putBlock yX3_putBlock ∈ TT ∧ Cond.initialized yX3_putBlock.cls ∈ TT ∧ Cond.code yX3_putBlock cX3_putBlock 5 none ∈ TT := ⟨mm_X3_putBlock, msl_X3_putBlock, mi_X3, mc_X3_putBlock⟩
theorem ok_X3_putBlock : okY yX3_putBlock 4 := by unfold okY; decide +kernel
theorem mc_X3_moveBlock : Cond.code yX3_moveBlock cX3_moveBlock 8 none ∈ TT := tt_of 549 (by decide +kernel) (by decide +kernel)
theorem mm_X3_moveBlock : Cond.instanceMethod yX3_moveBlock ∈ TT := tt_of 547 (by decide +kernel) (by decide +kernel)
theorem msl_X3_moveBlock : Cond.selects RX3 yX3_moveBlock yX3_moveBlock ∈ TT := tt_of 548 (by decide +kernel) (by decide +kernel)
theorem mV_X3_moveBlock : Cond.instanceMethod yX3_moveBlock ∈ TT ∧ Cond.selects yX3_moveBlock.cls yX3_moveBlock yX3_moveBlock ∈ TT ∧ Cond.initialized yX3_moveBlock.cls ∈ TT ∧ Cond.code yX3_moveBlock cX3_moveBlock 8 none ∈ TT := ⟨mm_X3_moveBlock, msl_X3_moveBlock, mi_X3, mc_X3_moveBlock⟩
theorem ok_X3_moveBlock : okY yX3_moveBlock 3 := by unfold okY; decide +kernel
theorem mc_X3_firstNumber : Cond.code yX3_firstNumber cX3_firstNumber 3 (some .int) ∈ TT := tt_of 527 (by decide +kernel) (by decide +kernel)
theorem mm_X3_firstNumber : Cond.instanceMethod yX3_firstNumber ∈ TT := tt_of 525 (by decide +kernel) (by decide +kernel)
theorem msl_X3_firstNumber : Cond.selects RX3 yX3_firstNumber yX3_firstNumber ∈ TT := tt_of 526 (by decide +kernel) (by decide +kernel)
theorem mV_X3_firstNumber : Cond.instanceMethod yX3_firstNumber ∈ TT ∧ Cond.selects yX3_firstNumber.cls yX3_firstNumber yX3_firstNumber ∈ TT ∧ Cond.initialized yX3_firstNumber.cls ∈ TT ∧ Cond.code yX3_firstNumber cX3_firstNumber 3 (some .int) ∈ TT := ⟨mm_X3_firstNumber, msl_X3_firstNumber, mi_X3, mc_X3_firstNumber⟩
theorem ok_X3_firstNumber : okY yX3_firstNumber 1 := by unfold okY; decide +kernel
theorem mc_X3_hasNumbers : Cond.code yX3_hasNumbers cX3_hasNumbers 4 (some .boolean) ∈ TT := tt_of 585 (by decide +kernel) (by decide +kernel)
theorem mm_X3_hasNumbers : Cond.instanceMethod yX3_hasNumbers ∈ TT := tt_of 583 (by decide +kernel) (by decide +kernel)
theorem msl_X3_hasNumbers : Cond.selects RX3 yX3_hasNumbers yX3_hasNumbers ∈ TT := tt_of 584 (by decide +kernel) (by decide +kernel)
theorem mV_X3_hasNumbers : Cond.instanceMethod yX3_hasNumbers ∈ TT ∧ Cond.selects yX3_hasNumbers.cls yX3_hasNumbers yX3_hasNumbers ∈ TT ∧ Cond.initialized yX3_hasNumbers.cls ∈ TT ∧ Cond.code yX3_hasNumbers cX3_hasNumbers 4 (some .boolean) ∈ TT := ⟨mm_X3_hasNumbers, msl_X3_hasNumbers, mi_X3, mc_X3_hasNumbers⟩
theorem ok_X3_hasNumbers : okY yX3_hasNumbers 3 := by unfold okY; decide +kernel
theorem mc_X3_isGuarded : Cond.code yX3_isGuarded cX3_isGuarded 2 (some .boolean) ∈ TT := tt_of 427 (by decide +kernel) (by decide +kernel)
theorem mm_X3_isGuarded : Cond.instanceMethod yX3_isGuarded ∈ TT := tt_of 425 (by decide +kernel) (by decide +kernel)
theorem msl_X3_isGuarded : Cond.selects RX3 yX3_isGuarded yX3_isGuarded ∈ TT := tt_of 426 (by decide +kernel) (by decide +kernel)
theorem mV_X3_isGuarded : Cond.instanceMethod yX3_isGuarded ∈ TT ∧ Cond.selects yX3_isGuarded.cls yX3_isGuarded yX3_isGuarded ∈ TT ∧ Cond.initialized yX3_isGuarded.cls ∈ TT ∧ Cond.code yX3_isGuarded cX3_isGuarded 2 (some .boolean) ∈ TT := ⟨mm_X3_isGuarded, msl_X3_isGuarded, mi_X3, mc_X3_isGuarded⟩
theorem ok_X3_isGuarded : okY yX3_isGuarded 1 := by unfold okY; decide +kernel
theorem mc_X3_wordOf : Cond.code yX3_wordOf cX3_wordOf 2 (some .long) ∈ TT := tt_of 419 (by decide +kernel) (by decide +kernel)
theorem mm_X3_wordOf : Cond.instanceMethod yX3_wordOf ∈ TT := tt_of 417 (by decide +kernel) (by decide +kernel)
theorem msl_X3_wordOf : Cond.selects RX3 yX3_wordOf yX3_wordOf ∈ TT := tt_of 418 (by decide +kernel) (by decide +kernel)
theorem mV_X3_wordOf : Cond.instanceMethod yX3_wordOf ∈ TT ∧ Cond.selects yX3_wordOf.cls yX3_wordOf yX3_wordOf ∈ TT ∧ Cond.initialized yX3_wordOf.cls ∈ TT ∧ Cond.code yX3_wordOf cX3_wordOf 2 (some .long) ∈ TT := ⟨mm_X3_wordOf, msl_X3_wordOf, mi_X3, mc_X3_wordOf⟩
theorem ok_X3_wordOf : okY yX3_wordOf 1 := by unfold okY; decide +kernel
theorem mc_X3_firstWord : Cond.code yX3_firstWord cX3_firstWord 2 (some .int) ∈ TT := tt_of 432 (by decide +kernel) (by decide +kernel)
theorem mm_X3_firstWord : Cond.instanceMethod yX3_firstWord ∈ TT := tt_of 430 (by decide +kernel) (by decide +kernel)
theorem msl_X3_firstWord : Cond.selects RX3 yX3_firstWord yX3_firstWord ∈ TT := tt_of 431 (by decide +kernel) (by decide +kernel)
theorem mV_X3_firstWord : Cond.instanceMethod yX3_firstWord ∈ TT ∧ Cond.selects yX3_firstWord.cls yX3_firstWord yX3_firstWord ∈ TT ∧ Cond.initialized yX3_firstWord.cls ∈ TT ∧ Cond.code yX3_firstWord cX3_firstWord 2 (some .int) ∈ TT := ⟨mm_X3_firstWord, msl_X3_firstWord, mi_X3, mc_X3_firstWord⟩
theorem ok_X3_firstWord : okY yX3_firstWord 1 := by unfold okY; decide +kernel
theorem mc_X3_lastWord : Cond.code yX3_lastWord cX3_lastWord 2 (some .int) ∈ TT := tt_of 440 (by decide +kernel) (by decide +kernel)
theorem mm_X3_lastWord : Cond.instanceMethod yX3_lastWord ∈ TT := tt_of 438 (by decide +kernel) (by decide +kernel)
theorem msl_X3_lastWord : Cond.selects RX3 yX3_lastWord yX3_lastWord ∈ TT := tt_of 439 (by decide +kernel) (by decide +kernel)
theorem mV_X3_lastWord : Cond.instanceMethod yX3_lastWord ∈ TT ∧ Cond.selects yX3_lastWord.cls yX3_lastWord yX3_lastWord ∈ TT ∧ Cond.initialized yX3_lastWord.cls ∈ TT ∧ Cond.code yX3_lastWord cX3_lastWord 2 (some .int) ∈ TT := ⟨mm_X3_lastWord, msl_X3_lastWord, mi_X3, mc_X3_lastWord⟩
theorem ok_X3_lastWord : okY yX3_lastWord 1 := by unfold okY; decide +kernel
theorem mc_X3_setWords : Cond.code yX3_setWords cX3_setWords 4 none ∈ TT := tt_of 423 (by decide +kernel) (by decide +kernel)
theorem mm_X3_setWords : Cond.instanceMethod yX3_setWords ∈ TT := tt_of 421 (by decide +kernel) (by decide +kernel)
theorem msl_X3_setWords : Cond.selects RX3 yX3_setWords yX3_setWords ∈ TT := tt_of 422 (by decide +kernel) (by decide +kernel)
theorem mV_X3_setWords : Cond.instanceMethod yX3_setWords ∈ TT ∧ Cond.selects yX3_setWords.cls yX3_setWords yX3_setWords ∈ TT ∧ Cond.initialized yX3_setWords.cls ∈ TT ∧ Cond.code yX3_setWords cX3_setWords 4 none ∈ TT := ⟨mm_X3_setWords, msl_X3_setWords, mi_X3, mc_X3_setWords⟩
theorem ok_X3_setWords : okY yX3_setWords 2 := by unfold okY; decide +kernel
theorem mc_X3_spoiledWords : Cond.code yX3_spoiledWords cX3_spoiledWords 4 (some .int) ∈ TT := tt_of 482 (by decide +kernel) (by decide +kernel)
theorem mm_X3_spoiledWords : Cond.instanceMethod yX3_spoiledWords ∈ TT := tt_of 480 (by decide +kernel) (by decide +kernel)
theorem msl_X3_spoiledWords : Cond.selects RX3 yX3_spoiledWords yX3_spoiledWords ∈ TT := tt_of 481 (by decide +kernel) (by decide +kernel)
theorem mV_X3_spoiledWords : Cond.instanceMethod yX3_spoiledWords ∈ TT ∧ Cond.selects yX3_spoiledWords.cls yX3_spoiledWords yX3_spoiledWords ∈ TT ∧ Cond.initialized yX3_spoiledWords.cls ∈ TT ∧ Cond.code yX3_spoiledWords cX3_spoiledWords 4 (some .int) ∈ TT := ⟨mm_X3_spoiledWords, msl_X3_spoiledWords, mi_X3, mc_X3_spoiledWords⟩
theorem ok_X3_spoiledWords : okY yX3_spoiledWords 1 := by unfold okY; decide +kernel
theorem mc_X4_init : Cond.code yX4_init cX4_init 2 none ∈ TT := tt_of 212 (by decide +kernel) (by decide +kernel)
theorem mm_X4_init : Cond.instanceMethod yX4_init ∈ TT := tt_of 211 (by decide +kernel) (by decide +kernel)
theorem ok_X4_init : okY yX4_init 1 := by unfold okY; decide +kernel
theorem mc_X4_mostOf : Cond.code yX4_mostOf cX4_mostOf 2 (some .int) ∈ TT := tt_of 294 (by decide +kernel) (by decide +kernel)
theorem mm_X4_mostOf : Cond.instanceMethod yX4_mostOf ∈ TT := tt_of 293 (by decide +kernel) (by decide +kernel)
theorem msu_X4_mostOf : Cond.selects RX4 ⟨"RoomWarden$Keeper", "mostOf", "(I)I"⟩ yX4_mostOf ∈ TT := tt_of 292 (by decide +kernel) (by decide +kernel)
theorem ok_X4_mostOf : okY yX4_mostOf 1 := by unfold okY; decide +kernel
theorem mc_X4_greatest : Cond.code yX4_greatest cX4_greatest 4 (some .int) ∈ TT := tt_of 652 (by decide +kernel) (by decide +kernel)
theorem mm_X4_greatest : Cond.instanceMethod yX4_greatest ∈ TT := tt_of 651 (by decide +kernel) (by decide +kernel)
theorem msu_X4_greatest : Cond.selects RX4 ⟨"RoomWarden$Keeper", "greatest", "(I)I"⟩ yX4_greatest ∈ TT := tt_of 650 (by decide +kernel) (by decide +kernel)
theorem ok_X4_greatest : okY yX4_greatest 1 := by unfold okY; decide +kernel
theorem mc_X4_takePiece : Cond.code yX4_takePiece cX4_takePiece 6 (some .int) ∈ TT := tt_of 366 (by decide +kernel) (by decide +kernel)
theorem mm_X4_takePiece : Cond.instanceMethod yX4_takePiece ∈ TT := tt_of 365 (by decide +kernel) (by decide +kernel)
theorem msu_X4_takePiece : Cond.selects RX4 ⟨"RoomWarden$Keeper", "takePiece", "(II)I"⟩ yX4_takePiece ∈ TT := tt_of 364 (by decide +kernel) (by decide +kernel)
theorem ok_X4_takePiece : okY yX4_takePiece 2 := by unfold okY; decide +kernel
theorem mc_X4_fits : Cond.code yX4_fits cX4_fits 4 (some .boolean) ∈ TT := tt_of 511 (by decide +kernel) (by decide +kernel)
theorem mm_X4_fits : Cond.instanceMethod yX4_fits ∈ TT := tt_of 510 (by decide +kernel) (by decide +kernel)
theorem msu_X4_fits : Cond.selects RX4 ⟨"RoomWarden$Keeper", "fits", "(II)Z"⟩ yX4_fits ∈ TT := tt_of 509 (by decide +kernel) (by decide +kernel)
theorem ok_X4_fits : okY yX4_fits 2 := by unfold okY; decide +kernel
theorem mc_X4_reshape : Cond.code yX4_reshape cX4_reshape 6 none ∈ TT := tt_of 541 (by decide +kernel) (by decide +kernel)
theorem mm_X4_reshape : Cond.instanceMethod yX4_reshape ∈ TT := tt_of 540 (by decide +kernel) (by decide +kernel)
theorem msu_X4_reshape : Cond.selects RX4 ⟨"RoomWarden$Keeper", "reshape", "(II)V"⟩ yX4_reshape ∈ TT := tt_of 539 (by decide +kernel) (by decide +kernel)
theorem ok_X4_reshape : okY yX4_reshape 2 := by unfold okY; decide +kernel
theorem mc_X4_tidy : Cond.code yX4_tidy cX4_tidy 4 none ∈ TT := tt_of 454 (by decide +kernel) (by decide +kernel)
theorem mm_X4_tidy : Cond.instanceMethod yX4_tidy ∈ TT := tt_of 453 (by decide +kernel) (by decide +kernel)
theorem msu_X4_tidy : Cond.selects RX4 ⟨"RoomWarden$Keeper", "tidy", "(I)V"⟩ yX4_tidy ∈ TT := tt_of 452 (by decide +kernel) (by decide +kernel)
theorem ok_X4_tidy : okY yX4_tidy 1 := by unfold okY; decide +kernel
theorem mc_X4_aside : Cond.code yX4_aside cX4_aside 2 (some .int) ∈ TT := tt_of 370 (by decide +kernel) (by decide +kernel)
theorem mm_X4_aside : Cond.instanceMethod yX4_aside ∈ TT := tt_of 369 (by decide +kernel) (by decide +kernel)
theorem msl_X4_aside : Cond.selects RX4 yX4_aside yX4_aside ∈ TT := tt_of 4 (by decide +kernel) (by decide +kernel)
theorem mV_X4_aside : Cond.instanceMethod yX4_aside ∈ TT ∧ Cond.selects yX4_aside.cls yX4_aside yX4_aside ∈ TT ∧ Cond.initialized yX4_aside.cls ∈ TT ∧ Cond.code yX4_aside cX4_aside 2 (some .int) ∈ TT := ⟨mm_X4_aside, msl_X4_aside, mi_X4, mc_X4_aside⟩
theorem ok_X4_aside : okY yX4_aside 1 := by unfold okY; decide +kernel
theorem mc_X4_choose : Cond.code yX4_choose cX4_choose 8 (some .int) ∈ TT := tt_of 375 (by decide +kernel) (by decide +kernel)
theorem mm_X4_choose : Cond.instanceMethod yX4_choose ∈ TT := tt_of 374 (by decide +kernel) (by decide +kernel)
theorem msl_X4_choose : Cond.selects RX4 yX4_choose yX4_choose ∈ TT := tt_of 5 (by decide +kernel) (by decide +kernel)
theorem mV_X4_choose : Cond.instanceMethod yX4_choose ∈ TT ∧ Cond.selects yX4_choose.cls yX4_choose yX4_choose ∈ TT ∧ Cond.initialized yX4_choose.cls ∈ TT ∧ Cond.code yX4_choose cX4_choose 8 (some .int) ∈ TT := ⟨mm_X4_choose, msl_X4_choose, mi_X4, mc_X4_choose⟩
theorem ok_X4_choose : okY yX4_choose 2 := by unfold okY; decide +kernel
theorem mc_X4_isBetter : Cond.code yX4_isBetter cX4_isBetter 4 (some .boolean) ∈ TT := tt_of 381 (by decide +kernel) (by decide +kernel)
theorem mm_X4_isBetter : Cond.instanceMethod yX4_isBetter ∈ TT := tt_of 380 (by decide +kernel) (by decide +kernel)
theorem msl_X4_isBetter : Cond.selects RX4 yX4_isBetter yX4_isBetter ∈ TT := tt_of 6 (by decide +kernel) (by decide +kernel)
theorem mV_X4_isBetter : Cond.instanceMethod yX4_isBetter ∈ TT ∧ Cond.selects yX4_isBetter.cls yX4_isBetter yX4_isBetter ∈ TT ∧ Cond.initialized yX4_isBetter.cls ∈ TT ∧ Cond.code yX4_isBetter cX4_isBetter 4 (some .boolean) ∈ TT := ⟨mm_X4_isBetter, msl_X4_isBetter, mi_X4, mc_X4_isBetter⟩
theorem ok_X4_isBetter : okY yX4_isBetter 3 := by unfold okY; decide +kernel
theorem mc_X4_bringPages : Cond.code yX4_bringPages cX4_bringPages 5 (some .boolean) ∈ TT := tt_of 387 (by decide +kernel) (by decide +kernel)
theorem mm_X4_bringPages : Cond.instanceMethod yX4_bringPages ∈ TT := tt_of 386 (by decide +kernel) (by decide +kernel)
theorem msl_X4_bringPages : Cond.selects RX4 yX4_bringPages yX4_bringPages ∈ TT := tt_of 7 (by decide +kernel) (by decide +kernel)
theorem mV_X4_bringPages : Cond.instanceMethod yX4_bringPages ∈ TT ∧ Cond.selects yX4_bringPages.cls yX4_bringPages yX4_bringPages ∈ TT ∧ Cond.initialized yX4_bringPages.cls ∈ TT ∧ Cond.code yX4_bringPages cX4_bringPages 5 (some .boolean) ∈ TT := ⟨mm_X4_bringPages, msl_X4_bringPages, mi_X4, mc_X4_bringPages⟩
theorem ok_X4_bringPages : okY yX4_bringPages 2 := by unfold okY; decide +kernel
theorem mc_X4_freeBehind : Cond.code yX4_freeBehind cX4_freeBehind 2 (some .int) ∈ TT := tt_of 515 (by decide +kernel) (by decide +kernel)
theorem mm_X4_freeBehind : Cond.instanceMethod yX4_freeBehind ∈ TT := tt_of 514 (by decide +kernel) (by decide +kernel)
theorem msl_X4_freeBehind : Cond.selects RX4 yX4_freeBehind yX4_freeBehind ∈ TT := tt_of 15 (by decide +kernel) (by decide +kernel)
theorem mV_X4_freeBehind : Cond.instanceMethod yX4_freeBehind ∈ TT ∧ Cond.selects yX4_freeBehind.cls yX4_freeBehind yX4_freeBehind ∈ TT ∧ Cond.initialized yX4_freeBehind.cls ∈ TT ∧ Cond.code yX4_freeBehind cX4_freeBehind 2 (some .int) ∈ TT := ⟨mm_X4_freeBehind, msl_X4_freeBehind, mi_X4, mc_X4_freeBehind⟩
theorem ok_X4_freeBehind : okY yX4_freeBehind 1 := by unfold okY; decide +kernel
theorem mc_X4_joinTouching : Cond.code yX4_joinTouching cX4_joinTouching 5 none ∈ TT := tt_of 393 (by decide +kernel) (by decide +kernel)
theorem mm_X4_joinTouching : Cond.instanceMethod yX4_joinTouching ∈ TT := tt_of 392 (by decide +kernel) (by decide +kernel)
theorem msl_X4_joinTouching : Cond.selects RX4 yX4_joinTouching yX4_joinTouching ∈ TT := tt_of 8 (by decide +kernel) (by decide +kernel)
theorem mV_X4_joinTouching : Cond.instanceMethod yX4_joinTouching ∈ TT ∧ Cond.selects yX4_joinTouching.cls yX4_joinTouching yX4_joinTouching ∈ TT ∧ Cond.initialized yX4_joinTouching.cls ∈ TT ∧ Cond.code yX4_joinTouching cX4_joinTouching 5 none ∈ TT := ⟨mm_X4_joinTouching, msl_X4_joinTouching, mi_X4, mc_X4_joinTouching⟩
theorem ok_X4_joinTouching : okY yX4_joinTouching 1 := by unfold okY; decide +kernel
theorem mc_X4_letGoPages : Cond.code yX4_letGoPages cX4_letGoPages 6 none ∈ TT := tt_of 458 (by decide +kernel) (by decide +kernel)
theorem mm_X4_letGoPages : Cond.instanceMethod yX4_letGoPages ∈ TT := tt_of 457 (by decide +kernel) (by decide +kernel)
theorem msl_X4_letGoPages : Cond.selects RX4 yX4_letGoPages yX4_letGoPages ∈ TT := tt_of 12 (by decide +kernel) (by decide +kernel)
theorem mV_X4_letGoPages : Cond.instanceMethod yX4_letGoPages ∈ TT ∧ Cond.selects yX4_letGoPages.cls yX4_letGoPages yX4_letGoPages ∈ TT ∧ Cond.initialized yX4_letGoPages.cls ∈ TT ∧ Cond.code yX4_letGoPages cX4_letGoPages 6 none ∈ TT := ⟨mm_X4_letGoPages, msl_X4_letGoPages, mi_X4, mc_X4_letGoPages⟩
theorem ok_X4_letGoPages : okY yX4_letGoPages 2 := by unfold okY; decide +kernel
theorem mc_X5_init : Cond.code yX5_init cX5_init 2 none ∈ TT := tt_of 185 (by decide +kernel) (by decide +kernel)
theorem mm_X5_init : Cond.instanceMethod yX5_init ∈ TT := tt_of 184 (by decide +kernel) (by decide +kernel)
theorem ok_X5_init : okY yX5_init 1 := by unfold okY; decide +kernel
theorem mc_X5_mostOf : Cond.code yX5_mostOf cX5_mostOf 2 (some .int) ∈ TT := tt_of 297 (by decide +kernel) (by decide +kernel)
theorem mm_X5_mostOf : Cond.instanceMethod yX5_mostOf ∈ TT := tt_of 296 (by decide +kernel) (by decide +kernel)
theorem msu_X5_mostOf : Cond.selects RX5 ⟨"RoomWarden$Keeper", "mostOf", "(I)I"⟩ yX5_mostOf ∈ TT := tt_of 295 (by decide +kernel) (by decide +kernel)
theorem ok_X5_mostOf : okY yX5_mostOf 1 := by unfold okY; decide +kernel
theorem mc_X5_greatest : Cond.code yX5_greatest cX5_greatest 2 (some .int) ∈ TT := tt_of 662 (by decide +kernel) (by decide +kernel)
theorem mm_X5_greatest : Cond.instanceMethod yX5_greatest ∈ TT := tt_of 661 (by decide +kernel) (by decide +kernel)
theorem msu_X5_greatest : Cond.selects RX5 ⟨"RoomWarden$Keeper", "greatest", "(I)I"⟩ yX5_greatest ∈ TT := tt_of 660 (by decide +kernel) (by decide +kernel)
theorem ok_X5_greatest : okY yX5_greatest 1 := by unfold okY; decide +kernel
theorem mc_X5_takePiece : Cond.code yX5_takePiece cX5_takePiece 5 (some .int) ∈ TT := tt_of 396 (by decide +kernel) (by decide +kernel)
theorem mm_X5_takePiece : Cond.instanceMethod yX5_takePiece ∈ TT := tt_of 395 (by decide +kernel) (by decide +kernel)
theorem msu_X5_takePiece : Cond.selects RX5 ⟨"RoomWarden$Keeper", "takePiece", "(II)I"⟩ yX5_takePiece ∈ TT := tt_of 394 (by decide +kernel) (by decide +kernel)
theorem ok_X5_takePiece : okY yX5_takePiece 2 := by unfold okY; decide +kernel
theorem mc_X5_fits : Cond.code yX5_fits cX5_fits 3 (some .boolean) ∈ TT := tt_of 518 (by decide +kernel) (by decide +kernel)
theorem mm_X5_fits : Cond.instanceMethod yX5_fits ∈ TT := tt_of 517 (by decide +kernel) (by decide +kernel)
theorem msu_X5_fits : Cond.selects RX5 ⟨"RoomWarden$Keeper", "fits", "(II)Z"⟩ yX5_fits ∈ TT := tt_of 516 (by decide +kernel) (by decide +kernel)
theorem ok_X5_fits : okY yX5_fits 2 := by unfold okY; decide +kernel
theorem mc_X5_reshape : Cond.code yX5_reshape cX5_reshape 3 none ∈ TT := tt_of 544 (by decide +kernel) (by decide +kernel)
theorem mm_X5_reshape : Cond.instanceMethod yX5_reshape ∈ TT := tt_of 543 (by decide +kernel) (by decide +kernel)
theorem msu_X5_reshape : Cond.selects RX5 ⟨"RoomWarden$Keeper", "reshape", "(II)V"⟩ yX5_reshape ∈ TT := tt_of 542 (by decide +kernel) (by decide +kernel)
theorem ok_X5_reshape : okY yX5_reshape 2 := by unfold okY; decide +kernel
theorem mc_X5_tidy : Cond.code yX5_tidy cX5_tidy 3 none ∈ TT := tt_of 461 (by decide +kernel) (by decide +kernel)
theorem mm_X5_tidy : Cond.instanceMethod yX5_tidy ∈ TT := tt_of 460 (by decide +kernel) (by decide +kernel)
theorem msu_X5_tidy : Cond.selects RX5 ⟨"RoomWarden$Keeper", "tidy", "(I)V"⟩ yX5_tidy ∈ TT := tt_of 459 (by decide +kernel) (by decide +kernel)
theorem ok_X5_tidy : okY yX5_tidy 1 := by unfold okY; decide +kernel
theorem mc_X5_lowestFree : Cond.code yX5_lowestFree cX5_lowestFree 3 (some .int) ∈ TT := tt_of 400 (by decide +kernel) (by decide +kernel)
theorem mm_X5_lowestFree : Cond.instanceMethod yX5_lowestFree ∈ TT := tt_of 399 (by decide +kernel) (by decide +kernel)
theorem msl_X5_lowestFree : Cond.selects RX5 yX5_lowestFree yX5_lowestFree ∈ TT := tt_of 9 (by decide +kernel) (by decide +kernel)
theorem mV_X5_lowestFree : Cond.instanceMethod yX5_lowestFree ∈ TT ∧ Cond.selects yX5_lowestFree.cls yX5_lowestFree yX5_lowestFree ∈ TT ∧ Cond.initialized yX5_lowestFree.cls ∈ TT ∧ Cond.code yX5_lowestFree cX5_lowestFree 3 (some .int) ∈ TT := ⟨mm_X5_lowestFree, msl_X5_lowestFree, mi_X5, mc_X5_lowestFree⟩
theorem ok_X5_lowestFree : okY yX5_lowestFree 1 := by unfold okY; decide +kernel
theorem mc_X5_markSlots : Cond.code yX5_markSlots cX5_markSlots 7 none ∈ TT := tt_of 409 (by decide +kernel) (by decide +kernel)
theorem mm_X5_markSlots : Cond.instanceMethod yX5_markSlots ∈ TT := tt_of 408 (by decide +kernel) (by decide +kernel)
theorem msl_X5_markSlots : Cond.selects RX5 yX5_markSlots yX5_markSlots ∈ TT := tt_of 10 (by decide +kernel) (by decide +kernel)
theorem mV_X5_markSlots : Cond.instanceMethod yX5_markSlots ∈ TT ∧ Cond.selects yX5_markSlots.cls yX5_markSlots yX5_markSlots ∈ TT ∧ Cond.initialized yX5_markSlots.cls ∈ TT ∧ Cond.code yX5_markSlots cX5_markSlots 7 none ∈ TT := ⟨mm_X5_markSlots, msl_X5_markSlots, mi_X5, mc_X5_markSlots⟩
theorem ok_X5_markSlots : okY yX5_markSlots 3 := by unfold okY; decide +kernel
theorem mc_X5_isWhollyFree : Cond.code yX5_isWhollyFree cX5_isWhollyFree 6 (some .boolean) ∈ TT := tt_of 465 (by decide +kernel) (by decide +kernel)
theorem mm_X5_isWhollyFree : Cond.instanceMethod yX5_isWhollyFree ∈ TT := tt_of 464 (by decide +kernel) (by decide +kernel)
theorem msl_X5_isWhollyFree : Cond.selects RX5 yX5_isWhollyFree yX5_isWhollyFree ∈ TT := tt_of 13 (by decide +kernel) (by decide +kernel)
theorem mV_X5_isWhollyFree : Cond.instanceMethod yX5_isWhollyFree ∈ TT ∧ Cond.selects yX5_isWhollyFree.cls yX5_isWhollyFree yX5_isWhollyFree ∈ TT ∧ Cond.initialized yX5_isWhollyFree.cls ∈ TT ∧ Cond.code yX5_isWhollyFree cX5_isWhollyFree 6 (some .boolean) ∈ TT := ⟨mm_X5_isWhollyFree, msl_X5_isWhollyFree, mi_X5, mc_X5_isWhollyFree⟩
theorem ok_X5_isWhollyFree : okY yX5_isWhollyFree 2 := by unfold okY; decide +kernel
theorem mc_X6_init : Cond.code yX6_init cX6_init 1 none ∈ TT := tt_of 69 (by decide +kernel) (by decide +kernel)
theorem mm_X6_init : Cond.instanceMethod yX6_init ∈ TT := tt_of 68 (by decide +kernel) (by decide +kernel)
theorem ok_X6_init : okY yX6_init 0 := by unfold okY; decide +kernel
theorem mc_X6_open : Cond.code yX6_open cX6_open 2 (some .int) ∈ TT := tt_of 244 (by decide +kernel) (by decide +kernel)
theorem mm_X6_open : Cond.instanceMethod yX6_open ∈ TT := tt_of 242 (by decide +kernel) (by decide +kernel)
theorem msl_X6_open : Cond.selects RX6 yX6_open yX6_open ∈ TT := tt_of 243 (by decide +kernel) (by decide +kernel)
theorem mV_X6_open : Cond.instanceMethod yX6_open ∈ TT ∧ Cond.selects yX6_open.cls yX6_open yX6_open ∈ TT ∧ Cond.initialized yX6_open.cls ∈ TT ∧ Cond.code yX6_open cX6_open 2 (some .int) ∈ TT := ⟨mm_X6_open, msl_X6_open, mi_X6, mc_X6_open⟩
theorem ok_X6_open : okY yX6_open 1 := by unfold okY; decide +kernel
theorem mc_X6_page : Cond.code yX6_page cX6_page 4 (some .int) ∈ TT := tt_of 259 (by decide +kernel) (by decide +kernel)
theorem mm_X6_page : Cond.instanceMethod yX6_page ∈ TT := tt_of 257 (by decide +kernel) (by decide +kernel)
theorem msl_X6_page : Cond.selects RX6 yX6_page yX6_page ∈ TT := tt_of 258 (by decide +kernel) (by decide +kernel)
theorem mV_X6_page : Cond.instanceMethod yX6_page ∈ TT ∧ Cond.selects yX6_page.cls yX6_page yX6_page ∈ TT ∧ Cond.initialized yX6_page.cls ∈ TT ∧ Cond.code yX6_page cX6_page 4 (some .int) ∈ TT := ⟨mm_X6_page, msl_X6_page, mi_X6, mc_X6_page⟩
theorem ok_X6_page : okY yX6_page 2 := by unfold okY; decide +kernel
theorem mc_X6_zone : Cond.code yX6_zone cX6_zone 4 (some .int) ∈ TT := tt_of 263 (by decide +kernel) (by decide +kernel)
theorem mm_X6_zone : Cond.instanceMethod yX6_zone ∈ TT := tt_of 261 (by decide +kernel) (by decide +kernel)
theorem msl_X6_zone : Cond.selects RX6 yX6_zone yX6_zone ∈ TT := tt_of 262 (by decide +kernel) (by decide +kernel)
theorem mV_X6_zone : Cond.instanceMethod yX6_zone ∈ TT ∧ Cond.selects yX6_zone.cls yX6_zone yX6_zone ∈ TT ∧ Cond.initialized yX6_zone.cls ∈ TT ∧ Cond.code yX6_zone cX6_zone 4 (some .int) ∈ TT := ⟨mm_X6_zone, msl_X6_zone, mi_X6, mc_X6_zone⟩
theorem ok_X6_zone : okY yX6_zone 2 := by unfold okY; decide +kernel
theorem mc_X6_want : Cond.code yX6_want cX6_want 6 (some .int) ∈ TT := tt_of 272 (by decide +kernel) (by decide +kernel)
theorem mm_X6_want : Cond.instanceMethod yX6_want ∈ TT := tt_of 270 (by decide +kernel) (by decide +kernel)
theorem msl_X6_want : Cond.selects RX6 yX6_want yX6_want ∈ TT := tt_of 271 (by decide +kernel) (by decide +kernel)
theorem mV_X6_want : Cond.instanceMethod yX6_want ∈ TT ∧ Cond.selects yX6_want.cls yX6_want yX6_want ∈ TT ∧ Cond.initialized yX6_want.cls ∈ TT ∧ Cond.code yX6_want cX6_want 6 (some .int) ∈ TT := ⟨mm_X6_want, msl_X6_want, mi_X6, mc_X6_want⟩
theorem ok_X6_want : okY yX6_want 2 := by unfold okY; decide +kernel
theorem mc_X6_give : Cond.code yX6_give cX6_give 4 (some .int) ∈ TT := tt_of 474 (by decide +kernel) (by decide +kernel)
theorem mm_X6_give : Cond.instanceMethod yX6_give ∈ TT := tt_of 472 (by decide +kernel) (by decide +kernel)
theorem msl_X6_give : Cond.selects RX6 yX6_give yX6_give ∈ TT := tt_of 473 (by decide +kernel) (by decide +kernel)
theorem mV_X6_give : Cond.instanceMethod yX6_give ∈ TT ∧ Cond.selects yX6_give.cls yX6_give yX6_give ∈ TT ∧ Cond.initialized yX6_give.cls ∈ TT ∧ Cond.code yX6_give cX6_give 4 (some .int) ∈ TT := ⟨mm_X6_give, msl_X6_give, mi_X6, mc_X6_give⟩
theorem ok_X6_give : okY yX6_give 1 := by unfold okY; decide +kernel
theorem mc_X6_grow : Cond.code yX6_grow cX6_grow 7 (some .int) ∈ TT := tt_of 502 (by decide +kernel) (by decide +kernel)
theorem mm_X6_grow : Cond.instanceMethod yX6_grow ∈ TT := tt_of 500 (by decide +kernel) (by decide +kernel)
theorem msl_X6_grow : Cond.selects RX6 yX6_grow yX6_grow ∈ TT := tt_of 501 (by decide +kernel) (by decide +kernel)
theorem mV_X6_grow : Cond.instanceMethod yX6_grow ∈ TT ∧ Cond.selects yX6_grow.cls yX6_grow yX6_grow ∈ TT ∧ Cond.initialized yX6_grow.cls ∈ TT ∧ Cond.code yX6_grow cX6_grow 7 (some .int) ∈ TT := ⟨mm_X6_grow, msl_X6_grow, mi_X6, mc_X6_grow⟩
theorem ok_X6_grow : okY yX6_grow 2 := by unfold okY; decide +kernel
theorem mc_X6_shrink : Cond.code yX6_shrink cX6_shrink 5 (some .int) ∈ TT := tt_of 563 (by decide +kernel) (by decide +kernel)
theorem mm_X6_shrink : Cond.instanceMethod yX6_shrink ∈ TT := tt_of 561 (by decide +kernel) (by decide +kernel)
theorem msl_X6_shrink : Cond.selects RX6 yX6_shrink yX6_shrink ∈ TT := tt_of 562 (by decide +kernel) (by decide +kernel)
theorem mV_X6_shrink : Cond.instanceMethod yX6_shrink ∈ TT ∧ Cond.selects yX6_shrink.cls yX6_shrink yX6_shrink ∈ TT ∧ Cond.initialized yX6_shrink.cls ∈ TT ∧ Cond.code yX6_shrink cX6_shrink 5 (some .int) ∈ TT := ⟨mm_X6_shrink, msl_X6_shrink, mi_X6, mc_X6_shrink⟩
theorem ok_X6_shrink : okY yX6_shrink 2 := by unfold okY; decide +kernel
theorem mc_X6_write : Cond.code yX6_write cX6_write 6 (some .int) ∈ TT := tt_of 567 (by decide +kernel) (by decide +kernel)
theorem mm_X6_write : Cond.instanceMethod yX6_write ∈ TT := tt_of 565 (by decide +kernel) (by decide +kernel)
theorem msl_X6_write : Cond.selects RX6 yX6_write yX6_write ∈ TT := tt_of 566 (by decide +kernel) (by decide +kernel)
theorem mV_X6_write : Cond.instanceMethod yX6_write ∈ TT ∧ Cond.selects yX6_write.cls yX6_write yX6_write ∈ TT ∧ Cond.initialized yX6_write.cls ∈ TT ∧ Cond.code yX6_write cX6_write 6 (some .int) ∈ TT := ⟨mm_X6_write, msl_X6_write, mi_X6, mc_X6_write⟩
theorem ok_X6_write : okY yX6_write 3 := by unfold okY; decide +kernel
theorem mc_X6_read : Cond.code yX6_read cX6_read 4 (some .int) ∈ TT := tt_of 572 (by decide +kernel) (by decide +kernel)
theorem mm_X6_read : Cond.instanceMethod yX6_read ∈ TT := tt_of 570 (by decide +kernel) (by decide +kernel)
theorem msl_X6_read : Cond.selects RX6 yX6_read yX6_read ∈ TT := tt_of 571 (by decide +kernel) (by decide +kernel)
theorem mV_X6_read : Cond.instanceMethod yX6_read ∈ TT ∧ Cond.selects yX6_read.cls yX6_read yX6_read ∈ TT ∧ Cond.initialized yX6_read.cls ∈ TT ∧ Cond.code yX6_read cX6_read 4 (some .int) ∈ TT := ⟨mm_X6_read, msl_X6_read, mi_X6, mc_X6_read⟩
theorem ok_X6_read : okY yX6_read 2 := by unfold okY; decide +kernel
theorem mc_X6_value : Cond.code yX6_value cX6_value 1 (some .long) ∈ TT := tt_of 577 (by decide +kernel) (by decide +kernel)
theorem mm_X6_value : Cond.instanceMethod yX6_value ∈ TT := tt_of 575 (by decide +kernel) (by decide +kernel)
theorem msl_X6_value : Cond.selects RX6 yX6_value yX6_value ∈ TT := tt_of 576 (by decide +kernel) (by decide +kernel)
theorem mV_X6_value : Cond.instanceMethod yX6_value ∈ TT ∧ Cond.selects yX6_value.cls yX6_value yX6_value ∈ TT ∧ Cond.initialized yX6_value.cls ∈ TT ∧ Cond.code yX6_value cX6_value 1 (some .long) ∈ TT := ⟨mm_X6_value, msl_X6_value, mi_X6, mc_X6_value⟩
theorem ok_X6_value : okY yX6_value 0 := by unfold okY; decide +kernel
theorem mc_X6_copy : Cond.code yX6_copy cX6_copy 8 (some .int) ∈ TT := tt_of 581 (by decide +kernel) (by decide +kernel)
theorem mm_X6_copy : Cond.instanceMethod yX6_copy ∈ TT := tt_of 579 (by decide +kernel) (by decide +kernel)
theorem msl_X6_copy : Cond.selects RX6 yX6_copy yX6_copy ∈ TT := tt_of 580 (by decide +kernel) (by decide +kernel)
theorem mV_X6_copy : Cond.instanceMethod yX6_copy ∈ TT ∧ Cond.selects yX6_copy.cls yX6_copy yX6_copy ∈ TT ∧ Cond.initialized yX6_copy.cls ∈ TT ∧ Cond.code yX6_copy cX6_copy 8 (some .int) ∈ TT := ⟨mm_X6_copy, msl_X6_copy, mi_X6, mc_X6_copy⟩
theorem ok_X6_copy : okY yX6_copy 5 := by unfold okY; decide +kernel
theorem mc_X6_fill : Cond.code yX6_fill cX6_fill 5 (some .int) ∈ TT := tt_of 590 (by decide +kernel) (by decide +kernel)
theorem mm_X6_fill : Cond.instanceMethod yX6_fill ∈ TT := tt_of 588 (by decide +kernel) (by decide +kernel)
theorem msl_X6_fill : Cond.selects RX6 yX6_fill yX6_fill ∈ TT := tt_of 589 (by decide +kernel) (by decide +kernel)
theorem mV_X6_fill : Cond.instanceMethod yX6_fill ∈ TT ∧ Cond.selects yX6_fill.cls yX6_fill yX6_fill ∈ TT ∧ Cond.initialized yX6_fill.cls ∈ TT ∧ Cond.code yX6_fill cX6_fill 5 (some .int) ∈ TT := ⟨mm_X6_fill, msl_X6_fill, mi_X6, mc_X6_fill⟩
theorem ok_X6_fill : okY yX6_fill 2 := by unfold okY; decide +kernel
theorem mc_X6_block : Cond.code yX6_block cX6_block 4 (some .int) ∈ TT := tt_of 594 (by decide +kernel) (by decide +kernel)
theorem mm_X6_block : Cond.instanceMethod yX6_block ∈ TT := tt_of 592 (by decide +kernel) (by decide +kernel)
theorem msl_X6_block : Cond.selects RX6 yX6_block yX6_block ∈ TT := tt_of 593 (by decide +kernel) (by decide +kernel)
theorem mV_X6_block : Cond.instanceMethod yX6_block ∈ TT ∧ Cond.selects yX6_block.cls yX6_block yX6_block ∈ TT ∧ Cond.initialized yX6_block.cls ∈ TT ∧ Cond.code yX6_block cX6_block 4 (some .int) ∈ TT := ⟨mm_X6_block, msl_X6_block, mi_X6, mc_X6_block⟩
theorem ok_X6_block : okY yX6_block 2 := by unfold okY; decide +kernel
theorem mc_X6_spoil : Cond.code yX6_spoil cX6_spoil 6 (some .int) ∈ TT := tt_of 598 (by decide +kernel) (by decide +kernel)
theorem mm_X6_spoil : Cond.instanceMethod yX6_spoil ∈ TT := tt_of 596 (by decide +kernel) (by decide +kernel)
theorem msl_X6_spoil : Cond.selects RX6 yX6_spoil yX6_spoil ∈ TT := tt_of 597 (by decide +kernel) (by decide +kernel)
theorem mV_X6_spoil : Cond.instanceMethod yX6_spoil ∈ TT ∧ Cond.selects yX6_spoil.cls yX6_spoil yX6_spoil ∈ TT ∧ Cond.initialized yX6_spoil.cls ∈ TT ∧ Cond.code yX6_spoil cX6_spoil 6 (some .int) ∈ TT := ⟨mm_X6_spoil, msl_X6_spoil, mi_X6, mc_X6_spoil⟩
theorem ok_X6_spoil : okY yX6_spoil 3 := by unfold okY; decide +kernel
theorem mc_X6_peek : Cond.code yX6_peek cX6_peek 2 (some .int) ∈ TT := tt_of 605 (by decide +kernel) (by decide +kernel)
theorem mm_X6_peek : Cond.instanceMethod yX6_peek ∈ TT := tt_of 603 (by decide +kernel) (by decide +kernel)
theorem msl_X6_peek : Cond.selects RX6 yX6_peek yX6_peek ∈ TT := tt_of 604 (by decide +kernel) (by decide +kernel)
theorem mV_X6_peek : Cond.instanceMethod yX6_peek ∈ TT ∧ Cond.selects yX6_peek.cls yX6_peek yX6_peek ∈ TT ∧ Cond.initialized yX6_peek.cls ∈ TT ∧ Cond.code yX6_peek cX6_peek 2 (some .int) ∈ TT := ⟨mm_X6_peek, msl_X6_peek, mi_X6, mc_X6_peek⟩
theorem ok_X6_peek : okY yX6_peek 1 := by unfold okY; decide +kernel
theorem mc_X6_largest : Cond.code yX6_largest cX6_largest 3 (some .int) ∈ TT := tt_of 643 (by decide +kernel) (by decide +kernel)
theorem mm_X6_largest : Cond.instanceMethod yX6_largest ∈ TT := tt_of 641 (by decide +kernel) (by decide +kernel)
theorem msl_X6_largest : Cond.selects RX6 yX6_largest yX6_largest ∈ TT := tt_of 642 (by decide +kernel) (by decide +kernel)
theorem mV_X6_largest : Cond.instanceMethod yX6_largest ∈ TT ∧ Cond.selects yX6_largest.cls yX6_largest yX6_largest ∈ TT ∧ Cond.initialized yX6_largest.cls ∈ TT ∧ Cond.code yX6_largest cX6_largest 3 (some .int) ∈ TT := ⟨mm_X6_largest, msl_X6_largest, mi_X6, mc_X6_largest⟩
theorem ok_X6_largest : okY yX6_largest 1 := by unfold okY; decide +kernel
theorem mc_X6_told : Cond.code yX6_told cX6_told 3 (some .int) ∈ TT := tt_of 666 (by decide +kernel) (by decide +kernel)
theorem mm_X6_told : Cond.instanceMethod yX6_told ∈ TT := tt_of 664 (by decide +kernel) (by decide +kernel)
theorem msl_X6_told : Cond.selects RX6 yX6_told yX6_told ∈ TT := tt_of 665 (by decide +kernel) (by decide +kernel)
theorem mV_X6_told : Cond.instanceMethod yX6_told ∈ TT ∧ Cond.selects yX6_told.cls yX6_told yX6_told ∈ TT ∧ Cond.initialized yX6_told.cls ∈ TT ∧ Cond.code yX6_told cX6_told 3 (some .int) ∈ TT := ⟨mm_X6_told, msl_X6_told, mi_X6, mc_X6_told⟩
theorem ok_X6_told : okY yX6_told 2 := by unfold okY; decide +kernel
theorem mc_X6_map : Cond.code yX6_map cX6_map 3 (some .int) ∈ TT := tt_of 684 (by decide +kernel) (by decide +kernel)
theorem mm_X6_map : Cond.instanceMethod yX6_map ∈ TT := tt_of 682 (by decide +kernel) (by decide +kernel)
theorem msl_X6_map : Cond.selects RX6 yX6_map yX6_map ∈ TT := tt_of 683 (by decide +kernel) (by decide +kernel)
theorem mV_X6_map : Cond.instanceMethod yX6_map ∈ TT ∧ Cond.selects yX6_map.cls yX6_map yX6_map ∈ TT ∧ Cond.initialized yX6_map.cls ∈ TT ∧ Cond.code yX6_map cX6_map 3 (some .int) ∈ TT := ⟨mm_X6_map, msl_X6_map, mi_X6, mc_X6_map⟩
theorem ok_X6_map : okY yX6_map 2 := by unfold okY; decide +kernel
theorem mc_X6_count : Cond.code yX6_count cX6_count 2 (some .int) ∈ TT := tt_of 701 (by decide +kernel) (by decide +kernel)
theorem mm_X6_count : Cond.instanceMethod yX6_count ∈ TT := tt_of 699 (by decide +kernel) (by decide +kernel)
theorem msl_X6_count : Cond.selects RX6 yX6_count yX6_count ∈ TT := tt_of 700 (by decide +kernel) (by decide +kernel)
theorem mV_X6_count : Cond.instanceMethod yX6_count ∈ TT ∧ Cond.selects yX6_count.cls yX6_count yX6_count ∈ TT ∧ Cond.initialized yX6_count.cls ∈ TT ∧ Cond.code yX6_count cX6_count 2 (some .int) ∈ TT := ⟨mm_X6_count, msl_X6_count, mi_X6, mc_X6_count⟩
theorem ok_X6_count : okY yX6_count 1 := by unfold okY; decide +kernel
theorem mc_X6_save : Cond.code yX6_save cX6_save 1 (some .int) ∈ TT := tt_of 713 (by decide +kernel) (by decide +kernel)
theorem mm_X6_save : Cond.instanceMethod yX6_save ∈ TT := tt_of 711 (by decide +kernel) (by decide +kernel)
theorem msl_X6_save : Cond.selects RX6 yX6_save yX6_save ∈ TT := tt_of 712 (by decide +kernel) (by decide +kernel)
theorem mV_X6_save : Cond.instanceMethod yX6_save ∈ TT ∧ Cond.selects yX6_save.cls yX6_save yX6_save ∈ TT ∧ Cond.initialized yX6_save.cls ∈ TT ∧ Cond.code yX6_save cX6_save 1 (some .int) ∈ TT := ⟨mm_X6_save, msl_X6_save, mi_X6, mc_X6_save⟩
theorem ok_X6_save : okY yX6_save 0 := by unfold okY; decide +kernel
theorem mc_X6_back : Cond.code yX6_back cX6_back 1 (some .int) ∈ TT := tt_of 721 (by decide +kernel) (by decide +kernel)
theorem mm_X6_back : Cond.instanceMethod yX6_back ∈ TT := tt_of 719 (by decide +kernel) (by decide +kernel)
theorem msl_X6_back : Cond.selects RX6 yX6_back yX6_back ∈ TT := tt_of 720 (by decide +kernel) (by decide +kernel)
theorem mV_X6_back : Cond.instanceMethod yX6_back ∈ TT ∧ Cond.selects yX6_back.cls yX6_back yX6_back ∈ TT ∧ Cond.initialized yX6_back.cls ∈ TT ∧ Cond.code yX6_back cX6_back 1 (some .int) ∈ TT := ⟨mm_X6_back, msl_X6_back, mi_X6, mc_X6_back⟩
theorem ok_X6_back : okY yX6_back 0 := by unfold okY; decide +kernel
theorem mc_X6_hold : Cond.code yX6_hold cX6_hold 4 (some .int) ∈ TT := tt_of 725 (by decide +kernel) (by decide +kernel)
theorem mm_X6_hold : Cond.instanceMethod yX6_hold ∈ TT := tt_of 723 (by decide +kernel) (by decide +kernel)
theorem msl_X6_hold : Cond.selects RX6 yX6_hold yX6_hold ∈ TT := tt_of 724 (by decide +kernel) (by decide +kernel)
theorem mV_X6_hold : Cond.instanceMethod yX6_hold ∈ TT ∧ Cond.selects yX6_hold.cls yX6_hold yX6_hold ∈ TT ∧ Cond.initialized yX6_hold.cls ∈ TT ∧ Cond.code yX6_hold cX6_hold 4 (some .int) ∈ TT := ⟨mm_X6_hold, msl_X6_hold, mi_X6, mc_X6_hold⟩
theorem ok_X6_hold : okY yX6_hold 2 := by unfold okY; decide +kernel
theorem mc_X6_throwIt : Cond.code yX6_throwIt cX6_throwIt 2 (some .int) ∈ TT := tt_of 729 (by decide +kernel) (by decide +kernel)
theorem mm_X6_throwIt : Cond.instanceMethod yX6_throwIt ∈ TT := tt_of 727 (by decide +kernel) (by decide +kernel)
theorem msl_X6_throwIt : Cond.selects RX6 yX6_throwIt yX6_throwIt ∈ TT := tt_of 728 (by decide +kernel) (by decide +kernel)
theorem mV_X6_throwIt : Cond.instanceMethod yX6_throwIt ∈ TT ∧ Cond.selects yX6_throwIt.cls yX6_throwIt yX6_throwIt ∈ TT ∧ Cond.initialized yX6_throwIt.cls ∈ TT ∧ Cond.code yX6_throwIt cX6_throwIt 2 (some .int) ∈ TT := ⟨mm_X6_throwIt, msl_X6_throwIt, mi_X6, mc_X6_throwIt⟩
theorem ok_X6_throwIt : okY yX6_throwIt 1 := by unfold okY; decide +kernel
theorem mc_X6_found : Cond.code yX6_found cX6_found 2 (some .int) ∈ TT := tt_of 733 (by decide +kernel) (by decide +kernel)
theorem mm_X6_found : Cond.instanceMethod yX6_found ∈ TT := tt_of 731 (by decide +kernel) (by decide +kernel)
theorem msl_X6_found : Cond.selects RX6 yX6_found yX6_found ∈ TT := tt_of 732 (by decide +kernel) (by decide +kernel)
theorem mV_X6_found : Cond.instanceMethod yX6_found ∈ TT ∧ Cond.selects yX6_found.cls yX6_found yX6_found ∈ TT ∧ Cond.initialized yX6_found.cls ∈ TT ∧ Cond.code yX6_found cX6_found 2 (some .int) ∈ TT := ⟨mm_X6_found, msl_X6_found, mi_X6, mc_X6_found⟩
theorem ok_X6_found : okY yX6_found 1 := by unfold okY; decide +kernel
theorem mc_X6_tell : Cond.code yX6_tell cX6_tell 2 (some .int) ∈ TT := tt_of 248 (by decide +kernel) (by decide +kernel)
theorem mm_X6_tell : Cond.instanceMethod yX6_tell ∈ TT := tt_of 247 (by decide +kernel) (by decide +kernel)
theorem msl_X6_tell : Cond.selects RX6 yX6_tell yX6_tell ∈ TT := tt_of 0 (by decide +kernel) (by decide +kernel)
theorem mV_X6_tell : Cond.instanceMethod yX6_tell ∈ TT ∧ Cond.selects yX6_tell.cls yX6_tell yX6_tell ∈ TT ∧ Cond.initialized yX6_tell.cls ∈ TT ∧ Cond.code yX6_tell cX6_tell 2 (some .int) ∈ TT := ⟨mm_X6_tell, msl_X6_tell, mi_X6, mc_X6_tell⟩
theorem ok_X6_tell : okY yX6_tell 1 := by unfold okY; decide +kernel
theorem mc_X6_keeperOf : Cond.code yX6_keeperOf cX6_keeperOf 2 (some (.object "RoomWarden$Keeper")) ∈ TT := tt_of 280 (by decide +kernel) (by decide +kernel)
theorem mm_X6_keeperOf : Cond.instanceMethod yX6_keeperOf ∈ TT := tt_of 279 (by decide +kernel) (by decide +kernel)
theorem msl_X6_keeperOf : Cond.selects RX6 yX6_keeperOf yX6_keeperOf ∈ TT := tt_of 1 (by decide +kernel) (by decide +kernel)
theorem mV_X6_keeperOf : Cond.instanceMethod yX6_keeperOf ∈ TT ∧ Cond.selects yX6_keeperOf.cls yX6_keeperOf yX6_keeperOf ∈ TT ∧ Cond.initialized yX6_keeperOf.cls ∈ TT ∧ Cond.code yX6_keeperOf cX6_keeperOf 2 (some (.object "RoomWarden$Keeper")) ∈ TT := ⟨mm_X6_keeperOf, msl_X6_keeperOf, mi_X6, mc_X6_keeperOf⟩
theorem ok_X6_keeperOf : okY yX6_keeperOf 1 := by unfold okY; decide +kernel
theorem mc_X6_resize : Cond.code yX6_resize cX6_resize 4 none ∈ TT := tt_of 522 (by decide +kernel) (by decide +kernel)
theorem mm_X6_resize : Cond.instanceMethod yX6_resize ∈ TT := tt_of 521 (by decide +kernel) (by decide +kernel)
theorem msl_X6_resize : Cond.selects RX6 yX6_resize yX6_resize ∈ TT := tt_of 16 (by decide +kernel) (by decide +kernel)
theorem mV_X6_resize : Cond.instanceMethod yX6_resize ∈ TT ∧ Cond.selects yX6_resize.cls yX6_resize yX6_resize ∈ TT ∧ Cond.initialized yX6_resize.cls ∈ TT ∧ Cond.code yX6_resize cX6_resize 4 none ∈ TT := ⟨mm_X6_resize, msl_X6_resize, mi_X6, mc_X6_resize⟩
theorem ok_X6_resize : okY yX6_resize 3 := by unfold okY; decide +kernel
theorem mc_X7_init : Cond.code yX7_init cX7_init 1 none ∈ TT := tt_of 738 (by decide +kernel) (by decide +kernel)
theorem mm_X7_init : Cond.instanceMethod yX7_init ∈ TT := tt_of 737 (by decide +kernel) (by decide +kernel)
theorem ok_X7_init : okY yX7_init 0 := by unfold okY; decide +kernel
theorem mc_X7_answer : Cond.code yX7_answer cX7_answer 2 (some .int) ∈ TT := tt_of 878 (by decide +kernel) (by decide +kernel)
theorem mm_X7_answer : Cond.instanceMethod yX7_answer ∈ TT := tt_of 877 (by decide +kernel) (by decide +kernel)
theorem msl_X7_answer : Cond.selects RX7 yX7_answer yX7_answer ∈ TT := tt_of 22 (by decide +kernel) (by decide +kernel)
theorem mV_X7_answer : Cond.instanceMethod yX7_answer ∈ TT ∧ Cond.selects yX7_answer.cls yX7_answer yX7_answer ∈ TT ∧ Cond.initialized yX7_answer.cls ∈ TT ∧ Cond.code yX7_answer cX7_answer 2 (some .int) ∈ TT := ⟨mm_X7_answer, msl_X7_answer, mi_X7, mc_X7_answer⟩
theorem ok_X7_answer : okY yX7_answer 1 := by unfold okY; decide +kernel
theorem mc_X7_open : Cond.code yX7_open cX7_open 3 (some .int) ∈ TT := tt_of 874 (by decide +kernel) (by decide +kernel)
theorem mm_X7_open : Cond.instanceMethod yX7_open ∈ TT := tt_of 872 (by decide +kernel) (by decide +kernel)
theorem msl_X7_open : Cond.selects RX7 yX7_open yX7_open ∈ TT := tt_of 873 (by decide +kernel) (by decide +kernel)
theorem mV_X7_open : Cond.instanceMethod yX7_open ∈ TT ∧ Cond.selects yX7_open.cls yX7_open yX7_open ∈ TT ∧ Cond.initialized yX7_open.cls ∈ TT ∧ Cond.code yX7_open cX7_open 3 (some .int) ∈ TT := ⟨mm_X7_open, msl_X7_open, mi_X7, mc_X7_open⟩
theorem ok_X7_open : okY yX7_open 1 := by unfold okY; decide +kernel
theorem mc_X7_page : Cond.code yX7_page cX7_page 5 (some .int) ∈ TT := tt_of 882 (by decide +kernel) (by decide +kernel)
theorem mm_X7_page : Cond.instanceMethod yX7_page ∈ TT := tt_of 880 (by decide +kernel) (by decide +kernel)
theorem msl_X7_page : Cond.selects RX7 yX7_page yX7_page ∈ TT := tt_of 881 (by decide +kernel) (by decide +kernel)
theorem mV_X7_page : Cond.instanceMethod yX7_page ∈ TT ∧ Cond.selects yX7_page.cls yX7_page yX7_page ∈ TT ∧ Cond.initialized yX7_page.cls ∈ TT ∧ Cond.code yX7_page cX7_page 5 (some .int) ∈ TT := ⟨mm_X7_page, msl_X7_page, mi_X7, mc_X7_page⟩
theorem ok_X7_page : okY yX7_page 2 := by unfold okY; decide +kernel
theorem mc_X7_zone : Cond.code yX7_zone cX7_zone 4 (some .int) ∈ TT := tt_of 886 (by decide +kernel) (by decide +kernel)
theorem mm_X7_zone : Cond.instanceMethod yX7_zone ∈ TT := tt_of 884 (by decide +kernel) (by decide +kernel)
theorem msl_X7_zone : Cond.selects RX7 yX7_zone yX7_zone ∈ TT := tt_of 885 (by decide +kernel) (by decide +kernel)
theorem mV_X7_zone : Cond.instanceMethod yX7_zone ∈ TT ∧ Cond.selects yX7_zone.cls yX7_zone yX7_zone ∈ TT ∧ Cond.initialized yX7_zone.cls ∈ TT ∧ Cond.code yX7_zone cX7_zone 4 (some .int) ∈ TT := ⟨mm_X7_zone, msl_X7_zone, mi_X7, mc_X7_zone⟩
theorem ok_X7_zone : okY yX7_zone 2 := by unfold okY; decide +kernel
theorem mc_X7_isZone : Cond.code yX7_isZone cX7_isZone 2 (some .boolean) ∈ TT := tt_of 895 (by decide +kernel) (by decide +kernel)
theorem mm_X7_isZone : Cond.instanceMethod yX7_isZone ∈ TT := tt_of 894 (by decide +kernel) (by decide +kernel)
theorem msl_X7_isZone : Cond.selects RX7 yX7_isZone yX7_isZone ∈ TT := tt_of 23 (by decide +kernel) (by decide +kernel)
theorem mV_X7_isZone : Cond.instanceMethod yX7_isZone ∈ TT ∧ Cond.selects yX7_isZone.cls yX7_isZone yX7_isZone ∈ TT ∧ Cond.initialized yX7_isZone.cls ∈ TT ∧ Cond.code yX7_isZone cX7_isZone 2 (some .boolean) ∈ TT := ⟨mm_X7_isZone, msl_X7_isZone, mi_X7, mc_X7_isZone⟩
theorem ok_X7_isZone : okY yX7_isZone 1 := by unfold okY; decide +kernel
theorem mc_X7_isOf : Cond.code yX7_isOf cX7_isOf 3 (some .boolean) ∈ TT := tt_of 922 (by decide +kernel) (by decide +kernel)
theorem mm_X7_isOf : Cond.instanceMethod yX7_isOf ∈ TT := tt_of 921 (by decide +kernel) (by decide +kernel)
theorem msl_X7_isOf : Cond.selects RX7 yX7_isOf yX7_isOf ∈ TT := tt_of 29 (by decide +kernel) (by decide +kernel)
theorem mV_X7_isOf : Cond.instanceMethod yX7_isOf ∈ TT ∧ Cond.selects yX7_isOf.cls yX7_isOf yX7_isOf ∈ TT ∧ Cond.initialized yX7_isOf.cls ∈ TT ∧ Cond.code yX7_isOf cX7_isOf 3 (some .boolean) ∈ TT := ⟨mm_X7_isOf, msl_X7_isOf, mi_X7, mc_X7_isOf⟩
theorem ok_X7_isOf : okY yX7_isOf 2 := by unfold okY; decide +kernel
theorem mc_X7_most : Cond.code yX7_most cX7_most 2 (some .int) ∈ TT := tt_of 899 (by decide +kernel) (by decide +kernel)
theorem mm_X7_most : Cond.instanceMethod yX7_most ∈ TT := tt_of 898 (by decide +kernel) (by decide +kernel)
theorem msl_X7_most : Cond.selects RX7 yX7_most yX7_most ∈ TT := tt_of 24 (by decide +kernel) (by decide +kernel)
theorem mV_X7_most : Cond.instanceMethod yX7_most ∈ TT ∧ Cond.selects yX7_most.cls yX7_most yX7_most ∈ TT ∧ Cond.initialized yX7_most.cls ∈ TT ∧ Cond.code yX7_most cX7_most 2 (some .int) ∈ TT := ⟨mm_X7_most, msl_X7_most, mi_X7, mc_X7_most⟩
theorem ok_X7_most : okY yX7_most 1 := by unfold okY; decide +kernel
theorem mc_X7_need : Cond.code yX7_need cX7_need 3 (some .int) ∈ TT := tt_of 914 (by decide +kernel) (by decide +kernel)
theorem mm_X7_need : Cond.instanceMethod yX7_need ∈ TT := tt_of 913 (by decide +kernel) (by decide +kernel)
theorem msl_X7_need : Cond.selects RX7 yX7_need yX7_need ∈ TT := tt_of 27 (by decide +kernel) (by decide +kernel)
theorem mV_X7_need : Cond.instanceMethod yX7_need ∈ TT ∧ Cond.selects yX7_need.cls yX7_need yX7_need ∈ TT ∧ Cond.initialized yX7_need.cls ∈ TT ∧ Cond.code yX7_need cX7_need 3 (some .int) ∈ TT := ⟨mm_X7_need, msl_X7_need, mi_X7, mc_X7_need⟩
theorem ok_X7_need : okY yX7_need 2 := by unfold okY; decide +kernel
theorem mc_X7_power : Cond.code yX7_power cX7_power 2 (some .int) ∈ TT := tt_of 910 (by decide +kernel) (by decide +kernel)
theorem ms_X7_power : Cond.static yX7_power ∈ TT := tt_of 909 (by decide +kernel) (by decide +kernel)
theorem mS_X7_power : Cond.static yX7_power ∈ TT ∧ Cond.initialized yX7_power.cls ∈ TT ∧ Cond.code yX7_power cX7_power 2 (some .int) ∈ TT := ⟨ms_X7_power, mi_X7, mc_X7_power⟩
theorem ok_X7_power : okY yX7_power 1 := by unfold okY; decide +kernel
theorem mc_X7_isFreeAt : Cond.code yX7_isFreeAt cX7_isFreeAt 3 (some .boolean) ∈ TT := tt_of 918 (by decide +kernel) (by decide +kernel)
theorem mm_X7_isFreeAt : Cond.instanceMethod yX7_isFreeAt ∈ TT := tt_of 917 (by decide +kernel) (by decide +kernel)
theorem msl_X7_isFreeAt : Cond.selects RX7 yX7_isFreeAt yX7_isFreeAt ∈ TT := tt_of 28 (by decide +kernel) (by decide +kernel)
theorem mV_X7_isFreeAt : Cond.instanceMethod yX7_isFreeAt ∈ TT ∧ Cond.selects yX7_isFreeAt.cls yX7_isFreeAt yX7_isFreeAt ∈ TT ∧ Cond.initialized yX7_isFreeAt.cls ∈ TT ∧ Cond.code yX7_isFreeAt cX7_isFreeAt 3 (some .boolean) ∈ TT := ⟨mm_X7_isFreeAt, msl_X7_isFreeAt, mi_X7, mc_X7_isFreeAt⟩
theorem ok_X7_isFreeAt : okY yX7_isFreeAt 2 := by unfold okY; decide +kernel
theorem mc_X7_freePages : Cond.code yX7_freePages cX7_freePages 5 (some .int) ∈ TT := tt_of 926 (by decide +kernel) (by decide +kernel)
theorem mm_X7_freePages : Cond.instanceMethod yX7_freePages ∈ TT := tt_of 925 (by decide +kernel) (by decide +kernel)
theorem msl_X7_freePages : Cond.selects RX7 yX7_freePages yX7_freePages ∈ TT := tt_of 30 (by decide +kernel) (by decide +kernel)
theorem mV_X7_freePages : Cond.instanceMethod yX7_freePages ∈ TT ∧ Cond.selects yX7_freePages.cls yX7_freePages yX7_freePages ∈ TT ∧ Cond.initialized yX7_freePages.cls ∈ TT ∧ Cond.code yX7_freePages cX7_freePages 5 (some .int) ∈ TT := ⟨mm_X7_freePages, msl_X7_freePages, mi_X7, mc_X7_freePages⟩
theorem ok_X7_freePages : okY yX7_freePages 1 := by unfold okY; decide +kernel
theorem mc_X7_named : Cond.code yX7_named cX7_named 7 (some .int) ∈ TT := tt_of 907 (by decide +kernel) (by decide +kernel)
theorem mm_X7_named : Cond.instanceMethod yX7_named ∈ TT := tt_of 906 (by decide +kernel) (by decide +kernel)
theorem msl_X7_named : Cond.selects RX7 yX7_named yX7_named ∈ TT := tt_of 26 (by decide +kernel) (by decide +kernel)
theorem mV_X7_named : Cond.instanceMethod yX7_named ∈ TT ∧ Cond.selects yX7_named.cls yX7_named yX7_named ∈ TT ∧ Cond.initialized yX7_named.cls ∈ TT ∧ Cond.code yX7_named cX7_named 7 (some .int) ∈ TT := ⟨mm_X7_named, msl_X7_named, mi_X7, mc_X7_named⟩
theorem ok_X7_named : okY yX7_named 2 := by unfold okY; decide +kernel
theorem mc_X7_comePages : Cond.code yX7_comePages cX7_comePages 7 none ∈ TT := tt_of 930 (by decide +kernel) (by decide +kernel)
theorem mm_X7_comePages : Cond.instanceMethod yX7_comePages ∈ TT := tt_of 929 (by decide +kernel) (by decide +kernel)
theorem msl_X7_comePages : Cond.selects RX7 yX7_comePages yX7_comePages ∈ TT := tt_of 31 (by decide +kernel) (by decide +kernel)
theorem mV_X7_comePages : Cond.instanceMethod yX7_comePages ∈ TT ∧ Cond.selects yX7_comePages.cls yX7_comePages yX7_comePages ∈ TT ∧ Cond.initialized yX7_comePages.cls ∈ TT ∧ Cond.code yX7_comePages cX7_comePages 7 none ∈ TT := ⟨mm_X7_comePages, msl_X7_comePages, mi_X7, mc_X7_comePages⟩
theorem ok_X7_comePages : okY yX7_comePages 3 := by unfold okY; decide +kernel
theorem mc_X7_ahead : Cond.code yX7_ahead cX7_ahead 4 (some .int) ∈ TT := tt_of 938 (by decide +kernel) (by decide +kernel)
theorem mm_X7_ahead : Cond.instanceMethod yX7_ahead ∈ TT := tt_of 937 (by decide +kernel) (by decide +kernel)
theorem msl_X7_ahead : Cond.selects RX7 yX7_ahead yX7_ahead ∈ TT := tt_of 33 (by decide +kernel) (by decide +kernel)
theorem mV_X7_ahead : Cond.instanceMethod yX7_ahead ∈ TT ∧ Cond.selects yX7_ahead.cls yX7_ahead yX7_ahead ∈ TT ∧ Cond.initialized yX7_ahead.cls ∈ TT ∧ Cond.code yX7_ahead cX7_ahead 4 (some .int) ∈ TT := ⟨mm_X7_ahead, msl_X7_ahead, mi_X7, mc_X7_ahead⟩
theorem ok_X7_ahead : okY yX7_ahead 2 := by unfold okY; decide +kernel
theorem mc_X7_join : Cond.code yX7_join cX7_join 5 none ∈ TT := tt_of 934 (by decide +kernel) (by decide +kernel)
theorem mm_X7_join : Cond.instanceMethod yX7_join ∈ TT := tt_of 933 (by decide +kernel) (by decide +kernel)
theorem msl_X7_join : Cond.selects RX7 yX7_join yX7_join ∈ TT := tt_of 32 (by decide +kernel) (by decide +kernel)
theorem mV_X7_join : Cond.instanceMethod yX7_join ∈ TT ∧ Cond.selects yX7_join.cls yX7_join yX7_join ∈ TT ∧ Cond.initialized yX7_join.cls ∈ TT ∧ Cond.code yX7_join cX7_join 5 none ∈ TT := ⟨mm_X7_join, msl_X7_join, mi_X7, mc_X7_join⟩
theorem ok_X7_join : okY yX7_join 2 := by unfold okY; decide +kernel
theorem mc_X7_taken : Cond.code yX7_taken cX7_taken 6 (some .int) ∈ TT := tt_of 903 (by decide +kernel) (by decide +kernel)
theorem mm_X7_taken : Cond.instanceMethod yX7_taken ∈ TT := tt_of 902 (by decide +kernel) (by decide +kernel)
theorem msl_X7_taken : Cond.selects RX7 yX7_taken yX7_taken ∈ TT := tt_of 25 (by decide +kernel) (by decide +kernel)
theorem mV_X7_taken : Cond.instanceMethod yX7_taken ∈ TT ∧ Cond.selects yX7_taken.cls yX7_taken yX7_taken ∈ TT ∧ Cond.initialized yX7_taken.cls ∈ TT ∧ Cond.code yX7_taken cX7_taken 6 (some .int) ∈ TT := ⟨mm_X7_taken, msl_X7_taken, mi_X7, mc_X7_taken⟩
theorem ok_X7_taken : okY yX7_taken 2 := by unfold okY; decide +kernel
theorem mc_X7_cut : Cond.code yX7_cut cX7_cut 4 none ∈ TT := tt_of 942 (by decide +kernel) (by decide +kernel)
theorem mm_X7_cut : Cond.instanceMethod yX7_cut ∈ TT := tt_of 941 (by decide +kernel) (by decide +kernel)
theorem msl_X7_cut : Cond.selects RX7 yX7_cut yX7_cut ∈ TT := tt_of 34 (by decide +kernel) (by decide +kernel)
theorem mV_X7_cut : Cond.instanceMethod yX7_cut ∈ TT ∧ Cond.selects yX7_cut.cls yX7_cut yX7_cut ∈ TT ∧ Cond.initialized yX7_cut.cls ∈ TT ∧ Cond.code yX7_cut cX7_cut 4 none ∈ TT := ⟨mm_X7_cut, msl_X7_cut, mi_X7, mc_X7_cut⟩
theorem ok_X7_cut : okY yX7_cut 2 := by unfold okY; decide +kernel
theorem mc_X7_firstOf : Cond.code yX7_firstOf cX7_firstOf 3 (some .int) ∈ TT := tt_of 999 (by decide +kernel) (by decide +kernel)
theorem mm_X7_firstOf : Cond.instanceMethod yX7_firstOf ∈ TT := tt_of 998 (by decide +kernel) (by decide +kernel)
theorem msl_X7_firstOf : Cond.selects RX7 yX7_firstOf yX7_firstOf ∈ TT := tt_of 46 (by decide +kernel) (by decide +kernel)
theorem mV_X7_firstOf : Cond.instanceMethod yX7_firstOf ∈ TT ∧ Cond.selects yX7_firstOf.cls yX7_firstOf yX7_firstOf ∈ TT ∧ Cond.initialized yX7_firstOf.cls ∈ TT ∧ Cond.code yX7_firstOf cX7_firstOf 3 (some .int) ∈ TT := ⟨mm_X7_firstOf, msl_X7_firstOf, mi_X7, mc_X7_firstOf⟩
theorem ok_X7_firstOf : okY yX7_firstOf 2 := by unfold okY; decide +kernel
theorem mc_X7_have : Cond.code yX7_have cX7_have 5 none ∈ TT := tt_of 946 (by decide +kernel) (by decide +kernel)
theorem mm_X7_have : Cond.instanceMethod yX7_have ∈ TT := tt_of 945 (by decide +kernel) (by decide +kernel)
theorem msl_X7_have : Cond.selects RX7 yX7_have yX7_have ∈ TT := tt_of 35 (by decide +kernel) (by decide +kernel)
theorem mV_X7_have : Cond.instanceMethod yX7_have ∈ TT ∧ Cond.selects yX7_have.cls yX7_have yX7_have ∈ TT ∧ Cond.initialized yX7_have.cls ∈ TT ∧ Cond.code yX7_have cX7_have 5 none ∈ TT := ⟨mm_X7_have, msl_X7_have, mi_X7, mc_X7_have⟩
theorem ok_X7_have : okY yX7_have 4 := by unfold okY; decide +kernel
theorem mc_X7_guard : Cond.code yX7_guard cX7_guard 2 none ∈ TT := tt_of 950 (by decide +kernel) (by decide +kernel)
theorem mm_X7_guard : Cond.instanceMethod yX7_guard ∈ TT := tt_of 949 (by decide +kernel) (by decide +kernel)
theorem msl_X7_guard : Cond.selects RX7 yX7_guard yX7_guard ∈ TT := tt_of 36 (by decide +kernel) (by decide +kernel)
theorem mV_X7_guard : Cond.instanceMethod yX7_guard ∈ TT ∧ Cond.selects yX7_guard.cls yX7_guard yX7_guard ∈ TT ∧ Cond.initialized yX7_guard.cls ∈ TT ∧ Cond.code yX7_guard cX7_guard 2 none ∈ TT := ⟨mm_X7_guard, msl_X7_guard, mi_X7, mc_X7_guard⟩
theorem ok_X7_guard : okY yX7_guard 1 := by unfold okY; decide +kernel
theorem mc_X7_release : Cond.code yX7_release cX7_release 4 none ∈ TT := tt_of 982 (by decide +kernel) (by decide +kernel)
theorem mm_X7_release : Cond.instanceMethod yX7_release ∈ TT := tt_of 981 (by decide +kernel) (by decide +kernel)
theorem msl_X7_release : Cond.selects RX7 yX7_release yX7_release ∈ TT := tt_of 43 (by decide +kernel) (by decide +kernel)
theorem mV_X7_release : Cond.instanceMethod yX7_release ∈ TT ∧ Cond.selects yX7_release.cls yX7_release yX7_release ∈ TT ∧ Cond.initialized yX7_release.cls ∈ TT ∧ Cond.code yX7_release cX7_release 4 none ∈ TT := ⟨mm_X7_release, msl_X7_release, mi_X7, mc_X7_release⟩
theorem ok_X7_release : okY yX7_release 2 := by unfold okY; decide +kernel
theorem mc_X7_joinPairs : Cond.code yX7_joinPairs cX7_joinPairs 7 none ∈ TT := tt_of 986 (by decide +kernel) (by decide +kernel)
theorem mm_X7_joinPairs : Cond.instanceMethod yX7_joinPairs ∈ TT := tt_of 985 (by decide +kernel) (by decide +kernel)
theorem msl_X7_joinPairs : Cond.selects RX7 yX7_joinPairs yX7_joinPairs ∈ TT := tt_of 44 (by decide +kernel) (by decide +kernel)
theorem mV_X7_joinPairs : Cond.instanceMethod yX7_joinPairs ∈ TT ∧ Cond.selects yX7_joinPairs.cls yX7_joinPairs yX7_joinPairs ∈ TT ∧ Cond.initialized yX7_joinPairs.cls ∈ TT ∧ Cond.code yX7_joinPairs cX7_joinPairs 7 none ∈ TT := ⟨mm_X7_joinPairs, msl_X7_joinPairs, mi_X7, mc_X7_joinPairs⟩
theorem ok_X7_joinPairs : okY yX7_joinPairs 2 := by unfold okY; decide +kernel
theorem mc_X7_settle : Cond.code yX7_settle cX7_settle 2 none ∈ TT := tt_of 954 (by decide +kernel) (by decide +kernel)
theorem mm_X7_settle : Cond.instanceMethod yX7_settle ∈ TT := tt_of 953 (by decide +kernel) (by decide +kernel)
theorem msl_X7_settle : Cond.selects RX7 yX7_settle yX7_settle ∈ TT := tt_of 37 (by decide +kernel) (by decide +kernel)
theorem mV_X7_settle : Cond.instanceMethod yX7_settle ∈ TT ∧ Cond.selects yX7_settle.cls yX7_settle yX7_settle ∈ TT ∧ Cond.initialized yX7_settle.cls ∈ TT ∧ Cond.code yX7_settle cX7_settle 2 none ∈ TT := ⟨mm_X7_settle, msl_X7_settle, mi_X7, mc_X7_settle⟩
theorem ok_X7_settle : okY yX7_settle 0 := by unfold okY; decide +kernel
theorem mc_X7_pieceAt : Cond.code yX7_pieceAt cX7_pieceAt 3 (some .int) ∈ TT := tt_of 962 (by decide +kernel) (by decide +kernel)
theorem mm_X7_pieceAt : Cond.instanceMethod yX7_pieceAt ∈ TT := tt_of 961 (by decide +kernel) (by decide +kernel)
theorem msl_X7_pieceAt : Cond.selects RX7 yX7_pieceAt yX7_pieceAt ∈ TT := tt_of 39 (by decide +kernel) (by decide +kernel)
theorem mV_X7_pieceAt : Cond.instanceMethod yX7_pieceAt ∈ TT ∧ Cond.selects yX7_pieceAt.cls yX7_pieceAt yX7_pieceAt ∈ TT ∧ Cond.initialized yX7_pieceAt.cls ∈ TT ∧ Cond.code yX7_pieceAt cX7_pieceAt 3 (some .int) ∈ TT := ⟨mm_X7_pieceAt, msl_X7_pieceAt, mi_X7, mc_X7_pieceAt⟩
theorem ok_X7_pieceAt : okY yX7_pieceAt 1 := by unfold okY; decide +kernel
theorem mc_X7_isWhollyFree : Cond.code yX7_isWhollyFree cX7_isWhollyFree 4 (some .boolean) ∈ TT := tt_of 958 (by decide +kernel) (by decide +kernel)
theorem mm_X7_isWhollyFree : Cond.instanceMethod yX7_isWhollyFree ∈ TT := tt_of 957 (by decide +kernel) (by decide +kernel)
theorem msl_X7_isWhollyFree : Cond.selects RX7 yX7_isWhollyFree yX7_isWhollyFree ∈ TT := tt_of 38 (by decide +kernel) (by decide +kernel)
theorem mV_X7_isWhollyFree : Cond.instanceMethod yX7_isWhollyFree ∈ TT ∧ Cond.selects yX7_isWhollyFree.cls yX7_isWhollyFree yX7_isWhollyFree ∈ TT ∧ Cond.initialized yX7_isWhollyFree.cls ∈ TT ∧ Cond.code yX7_isWhollyFree cX7_isWhollyFree 4 (some .boolean) ∈ TT := ⟨mm_X7_isWhollyFree, msl_X7_isWhollyFree, mi_X7, mc_X7_isWhollyFree⟩
theorem ok_X7_isWhollyFree : okY yX7_isWhollyFree 1 := by unfold okY; decide +kernel
theorem mc_X7_goBack : Cond.code yX7_goBack cX7_goBack 7 none ∈ TT := tt_of 966 (by decide +kernel) (by decide +kernel)
theorem mm_X7_goBack : Cond.instanceMethod yX7_goBack ∈ TT := tt_of 965 (by decide +kernel) (by decide +kernel)
theorem msl_X7_goBack : Cond.selects RX7 yX7_goBack yX7_goBack ∈ TT := tt_of 40 (by decide +kernel) (by decide +kernel)
theorem mV_X7_goBack : Cond.instanceMethod yX7_goBack ∈ TT ∧ Cond.selects yX7_goBack.cls yX7_goBack yX7_goBack ∈ TT ∧ Cond.initialized yX7_goBack.cls ∈ TT ∧ Cond.code yX7_goBack cX7_goBack 7 none ∈ TT := ⟨mm_X7_goBack, msl_X7_goBack, mi_X7, mc_X7_goBack⟩
theorem ok_X7_goBack : okY yX7_goBack 1 := by unfold okY; decide +kernel
theorem mc_X7_look : Cond.code yX7_look cX7_look 3 (some .int) ∈ TT := tt_of 974 (by decide +kernel) (by decide +kernel)
theorem mm_X7_look : Cond.instanceMethod yX7_look ∈ TT := tt_of 973 (by decide +kernel) (by decide +kernel)
theorem msl_X7_look : Cond.selects RX7 yX7_look yX7_look ∈ TT := tt_of 41 (by decide +kernel) (by decide +kernel)
theorem mV_X7_look : Cond.instanceMethod yX7_look ∈ TT ∧ Cond.selects yX7_look.cls yX7_look yX7_look ∈ TT ∧ Cond.initialized yX7_look.cls ∈ TT ∧ Cond.code yX7_look cX7_look 3 (some .int) ∈ TT := ⟨mm_X7_look, msl_X7_look, mi_X7, mc_X7_look⟩
theorem ok_X7_look : okY yX7_look 1 := by unfold okY; decide +kernel
theorem mc_X7_spoilt : Cond.code yX7_spoilt cX7_spoilt 3 (some .int) ∈ TT := tt_of 978 (by decide +kernel) (by decide +kernel)
theorem mm_X7_spoilt : Cond.instanceMethod yX7_spoilt ∈ TT := tt_of 977 (by decide +kernel) (by decide +kernel)
theorem msl_X7_spoilt : Cond.selects RX7 yX7_spoilt yX7_spoilt ∈ TT := tt_of 42 (by decide +kernel) (by decide +kernel)
theorem mV_X7_spoilt : Cond.instanceMethod yX7_spoilt ∈ TT ∧ Cond.selects yX7_spoilt.cls yX7_spoilt yX7_spoilt ∈ TT ∧ Cond.initialized yX7_spoilt.cls ∈ TT ∧ Cond.code yX7_spoilt cX7_spoilt 3 (some .int) ∈ TT := ⟨mm_X7_spoilt, msl_X7_spoilt, mi_X7, mc_X7_spoilt⟩
theorem ok_X7_spoilt : okY yX7_spoilt 1 := by unfold okY; decide +kernel
theorem mc_X7_want : Cond.code yX7_want cX7_want 5 (some .int) ∈ TT := tt_of 891 (by decide +kernel) (by decide +kernel)
theorem mm_X7_want : Cond.instanceMethod yX7_want ∈ TT := tt_of 889 (by decide +kernel) (by decide +kernel)
theorem msl_X7_want : Cond.selects RX7 yX7_want yX7_want ∈ TT := tt_of 890 (by decide +kernel) (by decide +kernel)
theorem mV_X7_want : Cond.instanceMethod yX7_want ∈ TT ∧ Cond.selects yX7_want.cls yX7_want yX7_want ∈ TT ∧ Cond.initialized yX7_want.cls ∈ TT ∧ Cond.code yX7_want cX7_want 5 (some .int) ∈ TT := ⟨mm_X7_want, msl_X7_want, mi_X7, mc_X7_want⟩
theorem ok_X7_want : okY yX7_want 2 := by unfold okY; decide +kernel
theorem mc_X7_give : Cond.code yX7_give cX7_give 4 (some .int) ∈ TT := tt_of 970 (by decide +kernel) (by decide +kernel)
theorem mm_X7_give : Cond.instanceMethod yX7_give ∈ TT := tt_of 968 (by decide +kernel) (by decide +kernel)
theorem msl_X7_give : Cond.selects RX7 yX7_give yX7_give ∈ TT := tt_of 969 (by decide +kernel) (by decide +kernel)
theorem mV_X7_give : Cond.instanceMethod yX7_give ∈ TT ∧ Cond.selects yX7_give.cls yX7_give yX7_give ∈ TT ∧ Cond.initialized yX7_give.cls ∈ TT ∧ Cond.code yX7_give cX7_give 4 (some .int) ∈ TT := ⟨mm_X7_give, msl_X7_give, mi_X7, mc_X7_give⟩
theorem ok_X7_give : okY yX7_give 1 := by unfold okY; decide +kernel
theorem mc_X7_grows : Cond.code yX7_grows cX7_grows 7 (some .boolean) ∈ TT := tt_of 995 (by decide +kernel) (by decide +kernel)
theorem mm_X7_grows : Cond.instanceMethod yX7_grows ∈ TT := tt_of 994 (by decide +kernel) (by decide +kernel)
theorem msl_X7_grows : Cond.selects RX7 yX7_grows yX7_grows ∈ TT := tt_of 45 (by decide +kernel) (by decide +kernel)
theorem mV_X7_grows : Cond.instanceMethod yX7_grows ∈ TT ∧ Cond.selects yX7_grows.cls yX7_grows yX7_grows ∈ TT ∧ Cond.initialized yX7_grows.cls ∈ TT ∧ Cond.code yX7_grows cX7_grows 7 (some .boolean) ∈ TT := ⟨mm_X7_grows, msl_X7_grows, mi_X7, mc_X7_grows⟩
theorem ok_X7_grows : okY yX7_grows 2 := by unfold okY; decide +kernel
theorem mc_X7_grow : Cond.code yX7_grow cX7_grow 10 (some .int) ∈ TT := tt_of 991 (by decide +kernel) (by decide +kernel)
theorem mm_X7_grow : Cond.instanceMethod yX7_grow ∈ TT := tt_of 989 (by decide +kernel) (by decide +kernel)
theorem msl_X7_grow : Cond.selects RX7 yX7_grow yX7_grow ∈ TT := tt_of 990 (by decide +kernel) (by decide +kernel)
theorem mV_X7_grow : Cond.instanceMethod yX7_grow ∈ TT ∧ Cond.selects yX7_grow.cls yX7_grow yX7_grow ∈ TT ∧ Cond.initialized yX7_grow.cls ∈ TT ∧ Cond.code yX7_grow cX7_grow 10 (some .int) ∈ TT := ⟨mm_X7_grow, msl_X7_grow, mi_X7, mc_X7_grow⟩
theorem ok_X7_grow : okY yX7_grow 2 := by unfold okY; decide +kernel
theorem mc_X7_shrink : Cond.code yX7_shrink cX7_shrink 9 (some .int) ∈ TT := tt_of 1003 (by decide +kernel) (by decide +kernel)
theorem mm_X7_shrink : Cond.instanceMethod yX7_shrink ∈ TT := tt_of 1001 (by decide +kernel) (by decide +kernel)
theorem msl_X7_shrink : Cond.selects RX7 yX7_shrink yX7_shrink ∈ TT := tt_of 1002 (by decide +kernel) (by decide +kernel)
theorem mV_X7_shrink : Cond.instanceMethod yX7_shrink ∈ TT ∧ Cond.selects yX7_shrink.cls yX7_shrink yX7_shrink ∈ TT ∧ Cond.initialized yX7_shrink.cls ∈ TT ∧ Cond.code yX7_shrink cX7_shrink 9 (some .int) ∈ TT := ⟨mm_X7_shrink, msl_X7_shrink, mi_X7, mc_X7_shrink⟩
theorem ok_X7_shrink : okY yX7_shrink 2 := by unfold okY; decide +kernel
theorem mc_X7_lookAt : Cond.code yX7_lookAt cX7_lookAt 4 (some .int) ∈ TT := tt_of 1011 (by decide +kernel) (by decide +kernel)
theorem mm_X7_lookAt : Cond.instanceMethod yX7_lookAt ∈ TT := tt_of 1010 (by decide +kernel) (by decide +kernel)
theorem msl_X7_lookAt : Cond.selects RX7 yX7_lookAt yX7_lookAt ∈ TT := tt_of 47 (by decide +kernel) (by decide +kernel)
theorem mV_X7_lookAt : Cond.instanceMethod yX7_lookAt ∈ TT ∧ Cond.selects yX7_lookAt.cls yX7_lookAt yX7_lookAt ∈ TT ∧ Cond.initialized yX7_lookAt.cls ∈ TT ∧ Cond.code yX7_lookAt cX7_lookAt 4 (some .int) ∈ TT := ⟨mm_X7_lookAt, msl_X7_lookAt, mi_X7, mc_X7_lookAt⟩
theorem ok_X7_lookAt : okY yX7_lookAt 2 := by unfold okY; decide +kernel
theorem mc_X7_firstNumber : Cond.code yX7_firstNumber cX7_firstNumber 2 (some .int) ∈ TT := tt_of 1015 (by decide +kernel) (by decide +kernel)
theorem mm_X7_firstNumber : Cond.instanceMethod yX7_firstNumber ∈ TT := tt_of 1014 (by decide +kernel) (by decide +kernel)
theorem msl_X7_firstNumber : Cond.selects RX7 yX7_firstNumber yX7_firstNumber ∈ TT := tt_of 48 (by decide +kernel) (by decide +kernel)
theorem mV_X7_firstNumber : Cond.instanceMethod yX7_firstNumber ∈ TT ∧ Cond.selects yX7_firstNumber.cls yX7_firstNumber yX7_firstNumber ∈ TT ∧ Cond.initialized yX7_firstNumber.cls ∈ TT ∧ Cond.code yX7_firstNumber cX7_firstNumber 2 (some .int) ∈ TT := ⟨mm_X7_firstNumber, msl_X7_firstNumber, mi_X7, mc_X7_firstNumber⟩
theorem ok_X7_firstNumber : okY yX7_firstNumber 1 := by unfold okY; decide +kernel
theorem mc_X7_write : Cond.code yX7_write cX7_write 6 (some .int) ∈ TT := tt_of 1007 (by decide +kernel) (by decide +kernel)
theorem mm_X7_write : Cond.instanceMethod yX7_write ∈ TT := tt_of 1005 (by decide +kernel) (by decide +kernel)
theorem msl_X7_write : Cond.selects RX7 yX7_write yX7_write ∈ TT := tt_of 1006 (by decide +kernel) (by decide +kernel)
theorem mV_X7_write : Cond.instanceMethod yX7_write ∈ TT ∧ Cond.selects yX7_write.cls yX7_write yX7_write ∈ TT ∧ Cond.initialized yX7_write.cls ∈ TT ∧ Cond.code yX7_write cX7_write 6 (some .int) ∈ TT := ⟨mm_X7_write, msl_X7_write, mi_X7, mc_X7_write⟩
theorem ok_X7_write : okY yX7_write 3 := by unfold okY; decide +kernel
theorem mc_X7_read : Cond.code yX7_read cX7_read 4 (some .int) ∈ TT := tt_of 1019 (by decide +kernel) (by decide +kernel)
theorem mm_X7_read : Cond.instanceMethod yX7_read ∈ TT := tt_of 1017 (by decide +kernel) (by decide +kernel)
theorem msl_X7_read : Cond.selects RX7 yX7_read yX7_read ∈ TT := tt_of 1018 (by decide +kernel) (by decide +kernel)
theorem mV_X7_read : Cond.instanceMethod yX7_read ∈ TT ∧ Cond.selects yX7_read.cls yX7_read yX7_read ∈ TT ∧ Cond.initialized yX7_read.cls ∈ TT ∧ Cond.code yX7_read cX7_read 4 (some .int) ∈ TT := ⟨mm_X7_read, msl_X7_read, mi_X7, mc_X7_read⟩
theorem ok_X7_read : okY yX7_read 2 := by unfold okY; decide +kernel
theorem mc_X7_value : Cond.code yX7_value cX7_value 1 (some .long) ∈ TT := tt_of 1023 (by decide +kernel) (by decide +kernel)
theorem mm_X7_value : Cond.instanceMethod yX7_value ∈ TT := tt_of 1021 (by decide +kernel) (by decide +kernel)
theorem msl_X7_value : Cond.selects RX7 yX7_value yX7_value ∈ TT := tt_of 1022 (by decide +kernel) (by decide +kernel)
theorem mV_X7_value : Cond.instanceMethod yX7_value ∈ TT ∧ Cond.selects yX7_value.cls yX7_value yX7_value ∈ TT ∧ Cond.initialized yX7_value.cls ∈ TT ∧ Cond.code yX7_value cX7_value 1 (some .long) ∈ TT := ⟨mm_X7_value, msl_X7_value, mi_X7, mc_X7_value⟩
theorem ok_X7_value : okY yX7_value 0 := by unfold okY; decide +kernel
theorem mc_X7_copy : Cond.code yX7_copy cX7_copy 10 (some .int) ∈ TT := tt_of 1027 (by decide +kernel) (by decide +kernel)
theorem mm_X7_copy : Cond.instanceMethod yX7_copy ∈ TT := tt_of 1025 (by decide +kernel) (by decide +kernel)
theorem msl_X7_copy : Cond.selects RX7 yX7_copy yX7_copy ∈ TT := tt_of 1026 (by decide +kernel) (by decide +kernel)
theorem mV_X7_copy : Cond.instanceMethod yX7_copy ∈ TT ∧ Cond.selects yX7_copy.cls yX7_copy yX7_copy ∈ TT ∧ Cond.initialized yX7_copy.cls ∈ TT ∧ Cond.code yX7_copy cX7_copy 10 (some .int) ∈ TT := ⟨mm_X7_copy, msl_X7_copy, mi_X7, mc_X7_copy⟩
theorem ok_X7_copy : okY yX7_copy 5 := by unfold okY; decide +kernel
theorem mc_X7_fill : Cond.code yX7_fill cX7_fill 7 (some .int) ∈ TT := tt_of 1031 (by decide +kernel) (by decide +kernel)
theorem mm_X7_fill : Cond.instanceMethod yX7_fill ∈ TT := tt_of 1029 (by decide +kernel) (by decide +kernel)
theorem msl_X7_fill : Cond.selects RX7 yX7_fill yX7_fill ∈ TT := tt_of 1030 (by decide +kernel) (by decide +kernel)
theorem mV_X7_fill : Cond.instanceMethod yX7_fill ∈ TT ∧ Cond.selects yX7_fill.cls yX7_fill yX7_fill ∈ TT ∧ Cond.initialized yX7_fill.cls ∈ TT ∧ Cond.code yX7_fill cX7_fill 7 (some .int) ∈ TT := ⟨mm_X7_fill, msl_X7_fill, mi_X7, mc_X7_fill⟩
theorem ok_X7_fill : okY yX7_fill 2 := by unfold okY; decide +kernel
theorem mc_X7_block : Cond.code yX7_block cX7_block 5 (some .int) ∈ TT := tt_of 1035 (by decide +kernel) (by decide +kernel)
theorem mm_X7_block : Cond.instanceMethod yX7_block ∈ TT := tt_of 1033 (by decide +kernel) (by decide +kernel)
theorem msl_X7_block : Cond.selects RX7 yX7_block yX7_block ∈ TT := tt_of 1034 (by decide +kernel) (by decide +kernel)
theorem mV_X7_block : Cond.instanceMethod yX7_block ∈ TT ∧ Cond.selects yX7_block.cls yX7_block yX7_block ∈ TT ∧ Cond.initialized yX7_block.cls ∈ TT ∧ Cond.code yX7_block cX7_block 5 (some .int) ∈ TT := ⟨mm_X7_block, msl_X7_block, mi_X7, mc_X7_block⟩
theorem ok_X7_block : okY yX7_block 2 := by unfold okY; decide +kernel
theorem mc_X7_spoil : Cond.code yX7_spoil cX7_spoil 7 (some .int) ∈ TT := tt_of 1039 (by decide +kernel) (by decide +kernel)
theorem mm_X7_spoil : Cond.instanceMethod yX7_spoil ∈ TT := tt_of 1037 (by decide +kernel) (by decide +kernel)
theorem msl_X7_spoil : Cond.selects RX7 yX7_spoil yX7_spoil ∈ TT := tt_of 1038 (by decide +kernel) (by decide +kernel)
theorem mV_X7_spoil : Cond.instanceMethod yX7_spoil ∈ TT ∧ Cond.selects yX7_spoil.cls yX7_spoil yX7_spoil ∈ TT ∧ Cond.initialized yX7_spoil.cls ∈ TT ∧ Cond.code yX7_spoil cX7_spoil 7 (some .int) ∈ TT := ⟨mm_X7_spoil, msl_X7_spoil, mi_X7, mc_X7_spoil⟩
theorem ok_X7_spoil : okY yX7_spoil 3 := by unfold okY; decide +kernel
theorem mc_X7_entry : Cond.code yX7_entry cX7_entry 6 none ∈ TT := tt_of 1051 (by decide +kernel) (by decide +kernel)
theorem mm_X7_entry : Cond.instanceMethod yX7_entry ∈ TT := tt_of 1050 (by decide +kernel) (by decide +kernel)
theorem msl_X7_entry : Cond.selects RX7 yX7_entry yX7_entry ∈ TT := tt_of 50 (by decide +kernel) (by decide +kernel)
theorem mV_X7_entry : Cond.instanceMethod yX7_entry ∈ TT ∧ Cond.selects yX7_entry.cls yX7_entry yX7_entry ∈ TT ∧ Cond.initialized yX7_entry.cls ∈ TT ∧ Cond.code yX7_entry cX7_entry 6 none ∈ TT := ⟨mm_X7_entry, msl_X7_entry, mi_X7, mc_X7_entry⟩
theorem ok_X7_entry : okY yX7_entry 5 := by unfold okY; decide +kernel
theorem mc_X7_go : Cond.code yX7_go cX7_go 5 none ∈ TT := tt_of 1047 (by decide +kernel) (by decide +kernel)
theorem mm_X7_go : Cond.instanceMethod yX7_go ∈ TT := tt_of 1046 (by decide +kernel) (by decide +kernel)
theorem msl_X7_go : Cond.selects RX7 yX7_go yX7_go ∈ TT := tt_of 49 (by decide +kernel) (by decide +kernel)
theorem mV_X7_go : Cond.instanceMethod yX7_go ∈ TT ∧ Cond.selects yX7_go.cls yX7_go yX7_go ∈ TT ∧ Cond.initialized yX7_go.cls ∈ TT ∧ Cond.code yX7_go cX7_go 5 none ∈ TT := ⟨mm_X7_go, msl_X7_go, mi_X7, mc_X7_go⟩
theorem ok_X7_go : okY yX7_go 2 := by unfold okY; decide +kernel
theorem mc_X7_slabEntries : Cond.code yX7_slabEntries cX7_slabEntries 5 none ∈ TT := tt_of 1055 (by decide +kernel) (by decide +kernel)
theorem mm_X7_slabEntries : Cond.instanceMethod yX7_slabEntries ∈ TT := tt_of 1054 (by decide +kernel) (by decide +kernel)
theorem msl_X7_slabEntries : Cond.selects RX7 yX7_slabEntries yX7_slabEntries ∈ TT := tt_of 51 (by decide +kernel) (by decide +kernel)
theorem mV_X7_slabEntries : Cond.instanceMethod yX7_slabEntries ∈ TT ∧ Cond.selects yX7_slabEntries.cls yX7_slabEntries yX7_slabEntries ∈ TT ∧ Cond.initialized yX7_slabEntries.cls ∈ TT ∧ Cond.code yX7_slabEntries cX7_slabEntries 5 none ∈ TT := ⟨mm_X7_slabEntries, msl_X7_slabEntries, mi_X7, mc_X7_slabEntries⟩
theorem ok_X7_slabEntries : okY yX7_slabEntries 2 := by unfold okY; decide +kernel
theorem mc_X7_pieceEntries : Cond.code yX7_pieceEntries cX7_pieceEntries 4 none ∈ TT := tt_of 1059 (by decide +kernel) (by decide +kernel)
theorem mm_X7_pieceEntries : Cond.instanceMethod yX7_pieceEntries ∈ TT := tt_of 1058 (by decide +kernel) (by decide +kernel)
theorem msl_X7_pieceEntries : Cond.selects RX7 yX7_pieceEntries yX7_pieceEntries ∈ TT := tt_of 52 (by decide +kernel) (by decide +kernel)
theorem mV_X7_pieceEntries : Cond.instanceMethod yX7_pieceEntries ∈ TT ∧ Cond.selects yX7_pieceEntries.cls yX7_pieceEntries yX7_pieceEntries ∈ TT ∧ Cond.initialized yX7_pieceEntries.cls ∈ TT ∧ Cond.code yX7_pieceEntries cX7_pieceEntries 4 none ∈ TT := ⟨mm_X7_pieceEntries, msl_X7_pieceEntries, mi_X7, mc_X7_pieceEntries⟩
theorem ok_X7_pieceEntries : okY yX7_pieceEntries 2 := by unfold okY; decide +kernel
theorem mc_X7_peek : Cond.code yX7_peek cX7_peek 2 (some .int) ∈ TT := tt_of 1043 (by decide +kernel) (by decide +kernel)
theorem mm_X7_peek : Cond.instanceMethod yX7_peek ∈ TT := tt_of 1041 (by decide +kernel) (by decide +kernel)
theorem msl_X7_peek : Cond.selects RX7 yX7_peek yX7_peek ∈ TT := tt_of 1042 (by decide +kernel) (by decide +kernel)
theorem mV_X7_peek : Cond.instanceMethod yX7_peek ∈ TT ∧ Cond.selects yX7_peek.cls yX7_peek yX7_peek ∈ TT ∧ Cond.initialized yX7_peek.cls ∈ TT ∧ Cond.code yX7_peek cX7_peek 2 (some .int) ∈ TT := ⟨mm_X7_peek, msl_X7_peek, mi_X7, mc_X7_peek⟩
theorem ok_X7_peek : okY yX7_peek 1 := by unfold okY; decide +kernel
theorem mc_X7_map : Cond.code yX7_map cX7_map 4 (some .int) ∈ TT := tt_of 1063 (by decide +kernel) (by decide +kernel)
theorem mm_X7_map : Cond.instanceMethod yX7_map ∈ TT := tt_of 1061 (by decide +kernel) (by decide +kernel)
theorem msl_X7_map : Cond.selects RX7 yX7_map yX7_map ∈ TT := tt_of 1062 (by decide +kernel) (by decide +kernel)
theorem mV_X7_map : Cond.instanceMethod yX7_map ∈ TT ∧ Cond.selects yX7_map.cls yX7_map yX7_map ∈ TT ∧ Cond.initialized yX7_map.cls ∈ TT ∧ Cond.code yX7_map cX7_map 4 (some .int) ∈ TT := ⟨mm_X7_map, msl_X7_map, mi_X7, mc_X7_map⟩
theorem ok_X7_map : okY yX7_map 2 := by unfold okY; decide +kernel
theorem mc_X7_largest : Cond.code yX7_largest cX7_largest 4 (some .int) ∈ TT := tt_of 1067 (by decide +kernel) (by decide +kernel)
theorem mm_X7_largest : Cond.instanceMethod yX7_largest ∈ TT := tt_of 1065 (by decide +kernel) (by decide +kernel)
theorem msl_X7_largest : Cond.selects RX7 yX7_largest yX7_largest ∈ TT := tt_of 1066 (by decide +kernel) (by decide +kernel)
theorem mV_X7_largest : Cond.instanceMethod yX7_largest ∈ TT ∧ Cond.selects yX7_largest.cls yX7_largest yX7_largest ∈ TT ∧ Cond.initialized yX7_largest.cls ∈ TT ∧ Cond.code yX7_largest cX7_largest 4 (some .int) ∈ TT := ⟨mm_X7_largest, msl_X7_largest, mi_X7, mc_X7_largest⟩
theorem ok_X7_largest : okY yX7_largest 1 := by unfold okY; decide +kernel
theorem mc_X7_told : Cond.code yX7_told cX7_told 5 (some .int) ∈ TT := tt_of 1071 (by decide +kernel) (by decide +kernel)
theorem mm_X7_told : Cond.instanceMethod yX7_told ∈ TT := tt_of 1069 (by decide +kernel) (by decide +kernel)
theorem msl_X7_told : Cond.selects RX7 yX7_told yX7_told ∈ TT := tt_of 1070 (by decide +kernel) (by decide +kernel)
theorem mV_X7_told : Cond.instanceMethod yX7_told ∈ TT ∧ Cond.selects yX7_told.cls yX7_told yX7_told ∈ TT ∧ Cond.initialized yX7_told.cls ∈ TT ∧ Cond.code yX7_told cX7_told 5 (some .int) ∈ TT := ⟨mm_X7_told, msl_X7_told, mi_X7, mc_X7_told⟩
theorem ok_X7_told : okY yX7_told 2 := by unfold okY; decide +kernel
theorem mc_X7_count : Cond.code yX7_count cX7_count 4 (some .int) ∈ TT := tt_of 1075 (by decide +kernel) (by decide +kernel)
theorem mm_X7_count : Cond.instanceMethod yX7_count ∈ TT := tt_of 1073 (by decide +kernel) (by decide +kernel)
theorem msl_X7_count : Cond.selects RX7 yX7_count yX7_count ∈ TT := tt_of 1074 (by decide +kernel) (by decide +kernel)
theorem mV_X7_count : Cond.instanceMethod yX7_count ∈ TT ∧ Cond.selects yX7_count.cls yX7_count yX7_count ∈ TT ∧ Cond.initialized yX7_count.cls ∈ TT ∧ Cond.code yX7_count cX7_count 4 (some .int) ∈ TT := ⟨mm_X7_count, msl_X7_count, mi_X7, mc_X7_count⟩
theorem ok_X7_count : okY yX7_count 1 := by unfold okY; decide +kernel
theorem mc_X7_put : Cond.code yX7_put cX7_put 3 none ∈ TT := tt_of 1082 (by decide +kernel) (by decide +kernel)
theorem ms_X7_put : Cond.static yX7_put ∈ TT := tt_of 1081 (by decide +kernel) (by decide +kernel)
theorem mS_X7_put : Cond.static yX7_put ∈ TT ∧ Cond.initialized yX7_put.cls ∈ TT ∧ Cond.code yX7_put cX7_put 3 none ∈ TT := ⟨ms_X7_put, mi_X7, mc_X7_put⟩
theorem ok_X7_put : okY yX7_put 2 := by unfold okY; decide +kernel
theorem mc_X7_put_ : Cond.code yX7_put_ cX7_put_ 3 none ∈ TT := tt_of 1085 (by decide +kernel) (by decide +kernel)
theorem ms_X7_put_ : Cond.static yX7_put_ ∈ TT := tt_of 1084 (by decide +kernel) (by decide +kernel)
theorem mS_X7_put_ : Cond.static yX7_put_ ∈ TT ∧ Cond.initialized yX7_put_.cls ∈ TT ∧ Cond.code yX7_put_ cX7_put_ 3 none ∈ TT := ⟨ms_X7_put_, mi_X7, mc_X7_put_⟩
theorem ok_X7_put_ : okY yX7_put_ 2 := by unfold okY; decide +kernel
theorem mc_X7_put__ : Cond.code yX7_put__ cX7_put__ 3 none ∈ TT := tt_of 1088 (by decide +kernel) (by decide +kernel)
theorem ms_X7_put__ : Cond.static yX7_put__ ∈ TT := tt_of 1087 (by decide +kernel) (by decide +kernel)
theorem mS_X7_put__ : Cond.static yX7_put__ ∈ TT ∧ Cond.initialized yX7_put__.cls ∈ TT ∧ Cond.code yX7_put__ cX7_put__ 3 none ∈ TT := ⟨ms_X7_put__, mi_X7, mc_X7_put__⟩
theorem ok_X7_put__ : okY yX7_put__ 2 := by unfold okY; decide +kernel
theorem mc_X7_save : Cond.code yX7_save cX7_save 1 (some .int) ∈ TT := tt_of 1079 (by decide +kernel) (by decide +kernel)
theorem mm_X7_save : Cond.instanceMethod yX7_save ∈ TT := tt_of 1077 (by decide +kernel) (by decide +kernel)
theorem msl_X7_save : Cond.selects RX7 yX7_save yX7_save ∈ TT := tt_of 1078 (by decide +kernel) (by decide +kernel)
theorem mV_X7_save : Cond.instanceMethod yX7_save ∈ TT ∧ Cond.selects yX7_save.cls yX7_save yX7_save ∈ TT ∧ Cond.initialized yX7_save.cls ∈ TT ∧ Cond.code yX7_save cX7_save 1 (some .int) ∈ TT := ⟨mm_X7_save, msl_X7_save, mi_X7, mc_X7_save⟩
theorem ok_X7_save : okY yX7_save 0 := by unfold okY; decide +kernel
theorem mc_X7_back : Cond.code yX7_back cX7_back 1 (some .int) ∈ TT := tt_of 1092 (by decide +kernel) (by decide +kernel)
theorem mm_X7_back : Cond.instanceMethod yX7_back ∈ TT := tt_of 1090 (by decide +kernel) (by decide +kernel)
theorem msl_X7_back : Cond.selects RX7 yX7_back yX7_back ∈ TT := tt_of 1091 (by decide +kernel) (by decide +kernel)
theorem mV_X7_back : Cond.instanceMethod yX7_back ∈ TT ∧ Cond.selects yX7_back.cls yX7_back yX7_back ∈ TT ∧ Cond.initialized yX7_back.cls ∈ TT ∧ Cond.code yX7_back cX7_back 1 (some .int) ∈ TT := ⟨mm_X7_back, msl_X7_back, mi_X7, mc_X7_back⟩
theorem ok_X7_back : okY yX7_back 0 := by unfold okY; decide +kernel
theorem mc_X7_hold : Cond.code yX7_hold cX7_hold 4 (some .int) ∈ TT := tt_of 1096 (by decide +kernel) (by decide +kernel)
theorem mm_X7_hold : Cond.instanceMethod yX7_hold ∈ TT := tt_of 1094 (by decide +kernel) (by decide +kernel)
theorem msl_X7_hold : Cond.selects RX7 yX7_hold yX7_hold ∈ TT := tt_of 1095 (by decide +kernel) (by decide +kernel)
theorem mV_X7_hold : Cond.instanceMethod yX7_hold ∈ TT ∧ Cond.selects yX7_hold.cls yX7_hold yX7_hold ∈ TT ∧ Cond.initialized yX7_hold.cls ∈ TT ∧ Cond.code yX7_hold cX7_hold 4 (some .int) ∈ TT := ⟨mm_X7_hold, msl_X7_hold, mi_X7, mc_X7_hold⟩
theorem ok_X7_hold : okY yX7_hold 2 := by unfold okY; decide +kernel
theorem mc_X7_throwIt : Cond.code yX7_throwIt cX7_throwIt 2 (some .int) ∈ TT := tt_of 1100 (by decide +kernel) (by decide +kernel)
theorem mm_X7_throwIt : Cond.instanceMethod yX7_throwIt ∈ TT := tt_of 1098 (by decide +kernel) (by decide +kernel)
theorem msl_X7_throwIt : Cond.selects RX7 yX7_throwIt yX7_throwIt ∈ TT := tt_of 1099 (by decide +kernel) (by decide +kernel)
theorem mV_X7_throwIt : Cond.instanceMethod yX7_throwIt ∈ TT ∧ Cond.selects yX7_throwIt.cls yX7_throwIt yX7_throwIt ∈ TT ∧ Cond.initialized yX7_throwIt.cls ∈ TT ∧ Cond.code yX7_throwIt cX7_throwIt 2 (some .int) ∈ TT := ⟨mm_X7_throwIt, msl_X7_throwIt, mi_X7, mc_X7_throwIt⟩
theorem ok_X7_throwIt : okY yX7_throwIt 1 := by unfold okY; decide +kernel
theorem mc_X7_found : Cond.code yX7_found cX7_found 2 (some .int) ∈ TT := tt_of 1104 (by decide +kernel) (by decide +kernel)
theorem mm_X7_found : Cond.instanceMethod yX7_found ∈ TT := tt_of 1102 (by decide +kernel) (by decide +kernel)
theorem msl_X7_found : Cond.selects RX7 yX7_found yX7_found ∈ TT := tt_of 1103 (by decide +kernel) (by decide +kernel)
theorem mV_X7_found : Cond.instanceMethod yX7_found ∈ TT ∧ Cond.selects yX7_found.cls yX7_found yX7_found ∈ TT ∧ Cond.initialized yX7_found.cls ∈ TT ∧ Cond.code yX7_found cX7_found 2 (some .int) ∈ TT := ⟨mm_X7_found, msl_X7_found, mi_X7, mc_X7_found⟩
theorem ok_X7_found : okY yX7_found 1 := by unfold okY; decide +kernel
theorem mc_J7_fill_d0a16 : Cond.code yJ7_fill_d0a16 cJ7_fill_d0a16 5 none ∈ TT := tt_of 255 (by decide +kernel) (by decide +kernel)
theorem ms_J7_fill_d0a16 : Cond.static yJ7_fill_d0a16 ∈ TT := tt_of 254 (by decide +kernel) (by decide +kernel)
theorem mS_J7_fill_d0a16 : Cond.static yJ7_fill_d0a16 ∈ TT ∧ Cond.initialized yJ7_fill_d0a16.cls ∈ TT ∧ Cond.code yJ7_fill_d0a16 cJ7_fill_d0a16 5 none ∈ TT := ⟨ms_J7_fill_d0a16, mi_J7, mc_J7_fill_d0a16⟩
theorem ok_J7_fill_d0a16 : okY yJ7_fill_d0a16 2 := by unfold okY; decide +kernel
theorem mc_J7_fill_53178 : Cond.code yJ7_fill_53178 cJ7_fill_53178 4 none ∈ TT := tt_of 81 (by decide +kernel) (by decide +kernel)
theorem ms_J7_fill_53178 : Cond.static yJ7_fill_53178 ∈ TT := tt_of 80 (by decide +kernel) (by decide +kernel)
theorem mS_J7_fill_53178 : Cond.static yJ7_fill_53178 ∈ TT ∧ Cond.initialized yJ7_fill_53178.cls ∈ TT ∧ Cond.code yJ7_fill_53178 cJ7_fill_53178 4 none ∈ TT := ⟨ms_J7_fill_53178, mi_J7, mc_J7_fill_53178⟩
theorem ok_J7_fill_53178 : okY yJ7_fill_53178 2 := by unfold okY; decide +kernel
end
section
section WwX
variable {p : Program} {l : Launch} {e : Env} {R : Room} {s : State} {m : MethodId} {args : Array Value} {below : List Frame} {meth : Method} {c : Code} {D : va_G} {A : Nat → Prop} {cc : ByteArray} {nL : Nat} {own : String} {ret : Option FieldType} {Q : State → Prop} {σ : SS} {pc : Nat} {lv : List (Nat × Value)} {st : List Value} {cI cJ cZ : ClassId} {ad : Nat → Nat} {kv : Value}
theorem r_wX_0 : (wX cI cJ ad kv σ)[0]? = some (ad 0, .inr (2, [.ref (ad 1), .ref (ad 2), .ref (ad 3), .ref (ad 4), .ref (ad 5), .ref (ad 6), .ref (ad 7), .ref (ad 8), .ref (ad 9), .ref (ad 10), .ref (ad 11), .int (gI σ 0), .int (gI σ 1)])) := rfl
theorem r_wX_12 : (wX cI cJ ad kv σ)[12]? = some (ad 12, .inr (1, [.ref (ad 0), .ref (ad 13), .ref (ad 14), .int (gI σ 2), .int (gI σ 3), .int (gI σ 4), .int (gI σ 5), .int (gI σ 6)])) := rfl
theorem r_wX_15 : (wX cI cJ ad kv σ)[15]? = some (ad 15, .inr (4, [.ref (ad 0)])) := rfl
theorem r_wX_16 : (wX cI cJ ad kv σ)[16]? = some (ad 16, .inr (0, [.ref (ad 0)])) := rfl
theorem r_wX_17 : (wX cI cJ ad kv σ)[17]? = some (ad 17, .inr (3, [.ref (ad 0)])) := rfl
theorem r_wX_18 : (wX cI cJ ad kv σ)[18]? = some (ad 18, .inr (5, [.ref (ad 0), .ref (ad 12), .ref (ad 15), .ref (ad 16), .ref (ad 17), .ref (ad 19), kv, .long (gL σ 0)])) := rfl
theorem gf_X3_9 (C : Cx p s m args meth c D (tys cI cJ cZ) (wX cI cJ ad kv) A cc nL RX3 ret) (hd : decode cc pc = .ok (.getfield 9, 3)) (K : J p l e R s m args below meth c D (wX cI cJ ad kv) A nL Q σ (pc + 3) lv (.ref (ad 1) :: st)) : J p l e R s m args below meth c D (wX cI cJ ad kv) A nL Q σ pc lv (.ref (ad 0) :: st) := j_get 0 0 C inTX3 (r_wX_0 (σ := σ)) rfl (by decide) mf_X3_9 (Or.inl rfl) rfl hd K
theorem gf_X6_67 (C : Cx p s m args meth c D (tys cI cJ cZ) (wX cI cJ ad kv) A cc nL RX6 ret) (hd : decode cc pc = .ok (.getfield 67, 3)) (K : J p l e R s m args below meth c D (wX cI cJ ad kv) A nL Q σ (pc + 3) lv (.ref (ad 1) :: st)) : J p l e R s m args below meth c D (wX cI cJ ad kv) A nL Q σ pc lv (.ref (ad 0) :: st) := j_get 0 0 C inTX3 (r_wX_0 (σ := σ)) rfl (by decide) mf_X6_67 (Or.inl rfl) rfl hd K
theorem gf_X0_40 (C : Cx p s m args meth c D (tys cI cJ cZ) (wX cI cJ ad kv) A cc nL RX0 ret) (hd : decode cc pc = .ok (.getfield 40, 3)) (K : J p l e R s m args below meth c D (wX cI cJ ad kv) A nL Q σ (pc + 3) lv (.ref (ad 1) :: st)) : J p l e R s m args below meth c D (wX cI cJ ad kv) A nL Q σ pc lv (.ref (ad 0) :: st) := j_get 0 0 C inTX3 (r_wX_0 (σ := σ)) rfl (by decide) mf_X0_40 (Or.inl rfl) rfl hd K
theorem gf_X5_27 (C : Cx p s m args meth c D (tys cI cJ cZ) (wX cI cJ ad kv) A cc nL RX5 ret) (hd : decode cc pc = .ok (.getfield 27, 3)) (K : J p l e R s m args below meth c D (wX cI cJ ad kv) A nL Q σ (pc + 3) lv (.ref (ad 1) :: st)) : J p l e R s m args below meth c D (wX cI cJ ad kv) A nL Q σ pc lv (.ref (ad 0) :: st) := j_get 0 0 C inTX3 (r_wX_0 (σ := σ)) rfl (by decide) mf_X5_27 (Or.inl rfl) rfl hd K
theorem gf_X4_87 (C : Cx p s m args meth c D (tys cI cJ cZ) (wX cI cJ ad kv) A cc nL RX4 ret) (hd : decode cc pc = .ok (.getfield 87, 3)) (K : J p l e R s m args below meth c D (wX cI cJ ad kv) A nL Q σ (pc + 3) lv (.ref (ad 1) :: st)) : J p l e R s m args below meth c D (wX cI cJ ad kv) A nL Q σ pc lv (.ref (ad 0) :: st) := j_get 0 0 C inTX3 (r_wX_0 (σ := σ)) rfl (by decide) mf_X4_87 (Or.inl rfl) rfl hd K
theorem gf_X3_15 (C : Cx p s m args meth c D (tys cI cJ cZ) (wX cI cJ ad kv) A cc nL RX3 ret) (hd : decode cc pc = .ok (.getfield 15, 3)) (K : J p l e R s m args below meth c D (wX cI cJ ad kv) A nL Q σ (pc + 3) lv (.ref (ad 2) :: st)) : J p l e R s m args below meth c D (wX cI cJ ad kv) A nL Q σ pc lv (.ref (ad 0) :: st) := j_get 0 1 C inTX3 (r_wX_0 (σ := σ)) rfl (by decide) mf_X3_15 (Or.inl rfl) rfl hd K
theorem gf_X3_19 (C : Cx p s m args meth c D (tys cI cJ cZ) (wX cI cJ ad kv) A cc nL RX3 ret) (hd : decode cc pc = .ok (.getfield 19, 3)) (K : J p l e R s m args below meth c D (wX cI cJ ad kv) A nL Q σ (pc + 3) lv (.ref (ad 3) :: st)) : J p l e R s m args below meth c D (wX cI cJ ad kv) A nL Q σ pc lv (.ref (ad 0) :: st) := j_get 0 2 C inTX3 (r_wX_0 (σ := σ)) rfl (by decide) mf_X3_19 (Or.inl rfl) rfl hd K
theorem gf_X3_22 (C : Cx p s m args meth c D (tys cI cJ cZ) (wX cI cJ ad kv) A cc nL RX3 ret) (hd : decode cc pc = .ok (.getfield 22, 3)) (K : J p l e R s m args below meth c D (wX cI cJ ad kv) A nL Q σ (pc + 3) lv (.ref (ad 4) :: st)) : J p l e R s m args below meth c D (wX cI cJ ad kv) A nL Q σ pc lv (.ref (ad 0) :: st) := j_get 0 3 C inTX3 (r_wX_0 (σ := σ)) rfl (by decide) mf_X3_22 (Or.inl rfl) rfl hd K
theorem gf_X6_190 (C : Cx p s m args meth c D (tys cI cJ cZ) (wX cI cJ ad kv) A cc nL RX6 ret) (hd : decode cc pc = .ok (.getfield 190, 3)) (K : J p l e R s m args below meth c D (wX cI cJ ad kv) A nL Q σ (pc + 3) lv (.ref (ad 4) :: st)) : J p l e R s m args below meth c D (wX cI cJ ad kv) A nL Q σ pc lv (.ref (ad 0) :: st) := j_get 0 3 C inTX3 (r_wX_0 (σ := σ)) rfl (by decide) mf_X6_190 (Or.inl rfl) rfl hd K
theorem gf_X3_25 (C : Cx p s m args meth c D (tys cI cJ cZ) (wX cI cJ ad kv) A cc nL RX3 ret) (hd : decode cc pc = .ok (.getfield 25, 3)) (K : J p l e R s m args below meth c D (wX cI cJ ad kv) A nL Q σ (pc + 3) lv (.ref (ad 5) :: st)) : J p l e R s m args below meth c D (wX cI cJ ad kv) A nL Q σ pc lv (.ref (ad 0) :: st) := j_get 0 4 C inTX3 (r_wX_0 (σ := σ)) rfl (by decide) mf_X3_25 (Or.inl rfl) rfl hd K
theorem gf_X3_28 (C : Cx p s m args meth c D (tys cI cJ cZ) (wX cI cJ ad kv) A cc nL RX3 ret) (hd : decode cc pc = .ok (.getfield 28, 3)) (K : J p l e R s m args below meth c D (wX cI cJ ad kv) A nL Q σ (pc + 3) lv (.ref (ad 6) :: st)) : J p l e R s m args below meth c D (wX cI cJ ad kv) A nL Q σ pc lv (.ref (ad 0) :: st) := j_get 0 5 C inTX3 (r_wX_0 (σ := σ)) rfl (by decide) mf_X3_28 (Or.inl rfl) rfl hd K
theorem gf_X6_100 (C : Cx p s m args meth c D (tys cI cJ cZ) (wX cI cJ ad kv) A cc nL RX6 ret) (hd : decode cc pc = .ok (.getfield 100, 3)) (K : J p l e R s m args below meth c D (wX cI cJ ad kv) A nL Q σ (pc + 3) lv (.ref (ad 6) :: st)) : J p l e R s m args below meth c D (wX cI cJ ad kv) A nL Q σ pc lv (.ref (ad 0) :: st) := j_get 0 5 C inTX3 (r_wX_0 (σ := σ)) rfl (by decide) mf_X6_100 (Or.inl rfl) rfl hd K
theorem gf_X3_31 (C : Cx p s m args meth c D (tys cI cJ cZ) (wX cI cJ ad kv) A cc nL RX3 ret) (hd : decode cc pc = .ok (.getfield 31, 3)) (K : J p l e R s m args below meth c D (wX cI cJ ad kv) A nL Q σ (pc + 3) lv (.ref (ad 7) :: st)) : J p l e R s m args below meth c D (wX cI cJ ad kv) A nL Q σ pc lv (.ref (ad 0) :: st) := j_get 0 6 C inTX3 (r_wX_0 (σ := σ)) rfl (by decide) mf_X3_31 (Or.inl rfl) rfl hd K
theorem gf_X6_119 (C : Cx p s m args meth c D (tys cI cJ cZ) (wX cI cJ ad kv) A cc nL RX6 ret) (hd : decode cc pc = .ok (.getfield 119, 3)) (K : J p l e R s m args below meth c D (wX cI cJ ad kv) A nL Q σ (pc + 3) lv (.ref (ad 7) :: st)) : J p l e R s m args below meth c D (wX cI cJ ad kv) A nL Q σ pc lv (.ref (ad 0) :: st) := j_get 0 6 C inTX3 (r_wX_0 (σ := σ)) rfl (by decide) mf_X6_119 (Or.inl rfl) rfl hd K
theorem gf_X4_67 (C : Cx p s m args meth c D (tys cI cJ cZ) (wX cI cJ ad kv) A cc nL RX4 ret) (hd : decode cc pc = .ok (.getfield 67, 3)) (K : J p l e R s m args below meth c D (wX cI cJ ad kv) A nL Q σ (pc + 3) lv (.ref (ad 7) :: st)) : J p l e R s m args below meth c D (wX cI cJ ad kv) A nL Q σ pc lv (.ref (ad 0) :: st) := j_get 0 6 C inTX3 (r_wX_0 (σ := σ)) rfl (by decide) mf_X4_67 (Or.inl rfl) rfl hd K
theorem gf_X3_34 (C : Cx p s m args meth c D (tys cI cJ cZ) (wX cI cJ ad kv) A cc nL RX3 ret) (hd : decode cc pc = .ok (.getfield 34, 3)) (K : J p l e R s m args below meth c D (wX cI cJ ad kv) A nL Q σ (pc + 3) lv (.ref (ad 8) :: st)) : J p l e R s m args below meth c D (wX cI cJ ad kv) A nL Q σ pc lv (.ref (ad 0) :: st) := j_get 0 7 C inTX3 (r_wX_0 (σ := σ)) rfl (by decide) mf_X3_34 (Or.inl rfl) rfl hd K
theorem gf_X4_61 (C : Cx p s m args meth c D (tys cI cJ cZ) (wX cI cJ ad kv) A cc nL RX4 ret) (hd : decode cc pc = .ok (.getfield 61, 3)) (K : J p l e R s m args below meth c D (wX cI cJ ad kv) A nL Q σ (pc + 3) lv (.ref (ad 8) :: st)) : J p l e R s m args below meth c D (wX cI cJ ad kv) A nL Q σ pc lv (.ref (ad 0) :: st) := j_get 0 7 C inTX3 (r_wX_0 (σ := σ)) rfl (by decide) mf_X4_61 (Or.inl rfl) rfl hd K
theorem gf_X0_55 (C : Cx p s m args meth c D (tys cI cJ cZ) (wX cI cJ ad kv) A cc nL RX0 ret) (hd : decode cc pc = .ok (.getfield 55, 3)) (K : J p l e R s m args below meth c D (wX cI cJ ad kv) A nL Q σ (pc + 3) lv (.ref (ad 8) :: st)) : J p l e R s m args below meth c D (wX cI cJ ad kv) A nL Q σ pc lv (.ref (ad 0) :: st) := j_get 0 7 C inTX3 (r_wX_0 (σ := σ)) rfl (by decide) mf_X0_55 (Or.inl rfl) rfl hd K
theorem gf_X6_122 (C : Cx p s m args meth c D (tys cI cJ cZ) (wX cI cJ ad kv) A cc nL RX6 ret) (hd : decode cc pc = .ok (.getfield 122, 3)) (K : J p l e R s m args below meth c D (wX cI cJ ad kv) A nL Q σ (pc + 3) lv (.ref (ad 8) :: st)) : J p l e R s m args below meth c D (wX cI cJ ad kv) A nL Q σ pc lv (.ref (ad 0) :: st) := j_get 0 7 C inTX3 (r_wX_0 (σ := σ)) rfl (by decide) mf_X6_122 (Or.inl rfl) rfl hd K
theorem gf_X3_37 (C : Cx p s m args meth c D (tys cI cJ cZ) (wX cI cJ ad kv) A cc nL RX3 ret) (hd : decode cc pc = .ok (.getfield 37, 3)) (K : J p l e R s m args below meth c D (wX cI cJ ad kv) A nL Q σ (pc + 3) lv (.ref (ad 9) :: st)) : J p l e R s m args below meth c D (wX cI cJ ad kv) A nL Q σ pc lv (.ref (ad 0) :: st) := j_get 0 8 C inTX3 (r_wX_0 (σ := σ)) rfl (by decide) mf_X3_37 (Or.inl rfl) rfl hd K
theorem gf_X0_52 (C : Cx p s m args meth c D (tys cI cJ cZ) (wX cI cJ ad kv) A cc nL RX0 ret) (hd : decode cc pc = .ok (.getfield 52, 3)) (K : J p l e R s m args below meth c D (wX cI cJ ad kv) A nL Q σ (pc + 3) lv (.ref (ad 9) :: st)) : J p l e R s m args below meth c D (wX cI cJ ad kv) A nL Q σ pc lv (.ref (ad 0) :: st) := j_get 0 8 C inTX3 (r_wX_0 (σ := σ)) rfl (by decide) mf_X0_52 (Or.inl rfl) rfl hd K
theorem gf_X4_64 (C : Cx p s m args meth c D (tys cI cJ cZ) (wX cI cJ ad kv) A cc nL RX4 ret) (hd : decode cc pc = .ok (.getfield 64, 3)) (K : J p l e R s m args below meth c D (wX cI cJ ad kv) A nL Q σ (pc + 3) lv (.ref (ad 9) :: st)) : J p l e R s m args below meth c D (wX cI cJ ad kv) A nL Q σ pc lv (.ref (ad 0) :: st) := j_get 0 8 C inTX3 (r_wX_0 (σ := σ)) rfl (by decide) mf_X4_64 (Or.inl rfl) rfl hd K
theorem gf_X6_125 (C : Cx p s m args meth c D (tys cI cJ cZ) (wX cI cJ ad kv) A cc nL RX6 ret) (hd : decode cc pc = .ok (.getfield 125, 3)) (K : J p l e R s m args below meth c D (wX cI cJ ad kv) A nL Q σ (pc + 3) lv (.ref (ad 9) :: st)) : J p l e R s m args below meth c D (wX cI cJ ad kv) A nL Q σ pc lv (.ref (ad 0) :: st) := j_get 0 8 C inTX3 (r_wX_0 (σ := σ)) rfl (by decide) mf_X6_125 (Or.inl rfl) rfl hd K
theorem gf_X3_40 (C : Cx p s m args meth c D (tys cI cJ cZ) (wX cI cJ ad kv) A cc nL RX3 ret) (hd : decode cc pc = .ok (.getfield 40, 3)) (K : J p l e R s m args below meth c D (wX cI cJ ad kv) A nL Q σ (pc + 3) lv (.ref (ad 10) :: st)) : J p l e R s m args below meth c D (wX cI cJ ad kv) A nL Q σ pc lv (.ref (ad 0) :: st) := j_get 0 9 C inTX3 (r_wX_0 (σ := σ)) rfl (by decide) mf_X3_40 (Or.inl rfl) rfl hd K
theorem gf_X4_54 (C : Cx p s m args meth c D (tys cI cJ cZ) (wX cI cJ ad kv) A cc nL RX4 ret) (hd : decode cc pc = .ok (.getfield 54, 3)) (K : J p l e R s m args below meth c D (wX cI cJ ad kv) A nL Q σ (pc + 3) lv (.ref (ad 10) :: st)) : J p l e R s m args below meth c D (wX cI cJ ad kv) A nL Q σ pc lv (.ref (ad 0) :: st) := j_get 0 9 C inTX3 (r_wX_0 (σ := σ)) rfl (by decide) mf_X4_54 (Or.inl rfl) rfl hd K
theorem gf_X6_132 (C : Cx p s m args meth c D (tys cI cJ cZ) (wX cI cJ ad kv) A cc nL RX6 ret) (hd : decode cc pc = .ok (.getfield 132, 3)) (K : J p l e R s m args below meth c D (wX cI cJ ad kv) A nL Q σ (pc + 3) lv (.ref (ad 10) :: st)) : J p l e R s m args below meth c D (wX cI cJ ad kv) A nL Q σ pc lv (.ref (ad 0) :: st) := j_get 0 9 C inTX3 (r_wX_0 (σ := σ)) rfl (by decide) mf_X6_132 (Or.inl rfl) rfl hd K
theorem gf_X1_90 (C : Cx p s m args meth c D (tys cI cJ cZ) (wX cI cJ ad kv) A cc nL RX1 ret) (hd : decode cc pc = .ok (.getfield 90, 3)) (K : J p l e R s m args below meth c D (wX cI cJ ad kv) A nL Q σ (pc + 3) lv (.ref (ad 10) :: st)) : J p l e R s m args below meth c D (wX cI cJ ad kv) A nL Q σ pc lv (.ref (ad 0) :: st) := j_get 0 9 C inTX3 (r_wX_0 (σ := σ)) rfl (by decide) mf_X1_90 (Or.inl rfl) rfl hd K
theorem gf_X3_43 (C : Cx p s m args meth c D (tys cI cJ cZ) (wX cI cJ ad kv) A cc nL RX3 ret) (hd : decode cc pc = .ok (.getfield 43, 3)) (K : J p l e R s m args below meth c D (wX cI cJ ad kv) A nL Q σ (pc + 3) lv (.ref (ad 11) :: st)) : J p l e R s m args below meth c D (wX cI cJ ad kv) A nL Q σ pc lv (.ref (ad 0) :: st) := j_get 0 10 C inTX3 (r_wX_0 (σ := σ)) rfl (by decide) mf_X3_43 (Or.inl rfl) rfl hd K
theorem gf_X6_229 (C : Cx p s m args meth c D (tys cI cJ cZ) (wX cI cJ ad kv) A cc nL RX6 ret) (hd : decode cc pc = .ok (.getfield 229, 3)) (K : J p l e R s m args below meth c D (wX cI cJ ad kv) A nL Q σ (pc + 3) lv (.ref (ad 11) :: st)) : J p l e R s m args below meth c D (wX cI cJ ad kv) A nL Q σ pc lv (.ref (ad 0) :: st) := j_get 0 10 C inTX3 (r_wX_0 (σ := σ)) rfl (by decide) mf_X6_229 (Or.inl rfl) rfl hd K
theorem gf_X3_46 (C : Cx p s m args meth c D (tys cI cJ cZ) (wX cI cJ ad kv) A cc nL RX3 ret) (hd : decode cc pc = .ok (.getfield 46, 3)) (K : J p l e R s m args below meth c D (wX cI cJ ad kv) A nL Q σ (pc + 3) lv (.int (gI σ 0) :: st)) : J p l e R s m args below meth c D (wX cI cJ ad kv) A nL Q σ pc lv (.ref (ad 0) :: st) := j_get 0 11 C inTX3 (r_wX_0 (σ := σ)) rfl (by decide) mf_X3_46 (Or.inl rfl) rfl hd K
theorem pf_X3_46 {x : Int32} (C : Cx p s m args meth c D (tys cI cJ cZ) (wX cI cJ ad kv) A cc nL RX3 ret) (hd : decode cc pc = .ok (.putfield 46, 3)) (K : J p l e R s m args below meth c D (wX cI cJ ad kv) A nL Q (sI σ 0 x) (pc + 3) lv st) : J p l e R s m args below meth c D (wX cI cJ ad kv) A nL Q σ pc lv (.int x :: .ref (ad 0) :: st) := j_put (fty := .int) 0 11 C inTX3 tyX3 tyX3_ok nmX3 (r_wX_0 (σ := σ)) rfl (by decide) mf_X3_46 rfl rfl (by decide +kernel) rfl rfl (Nat.le_of_ble_eq_true rfl) rfl hd K
theorem gf_X6_63 (C : Cx p s m args meth c D (tys cI cJ cZ) (wX cI cJ ad kv) A cc nL RX6 ret) (hd : decode cc pc = .ok (.getfield 63, 3)) (K : J p l e R s m args below meth c D (wX cI cJ ad kv) A nL Q σ (pc + 3) lv (.int (gI σ 0) :: st)) : J p l e R s m args below meth c D (wX cI cJ ad kv) A nL Q σ pc lv (.ref (ad 0) :: st) := j_get 0 11 C inTX3 (r_wX_0 (σ := σ)) rfl (by decide) mf_X6_63 (Or.inl rfl) rfl hd K
theorem pf_X6_63 {x : Int32} (C : Cx p s m args meth c D (tys cI cJ cZ) (wX cI cJ ad kv) A cc nL RX6 ret) (hd : decode cc pc = .ok (.putfield 63, 3)) (K : J p l e R s m args below meth c D (wX cI cJ ad kv) A nL Q (sI σ 0 x) (pc + 3) lv st) : J p l e R s m args below meth c D (wX cI cJ ad kv) A nL Q σ pc lv (.int x :: .ref (ad 0) :: st) := j_put (fty := .int) 0 11 C inTX3 tyX3 tyX3_ok nmX3 (r_wX_0 (σ := σ)) rfl (by decide) mf_X6_63 rfl rfl (by decide +kernel) rfl rfl (Nat.le_of_ble_eq_true rfl) rfl hd K
theorem gf_X0_58 (C : Cx p s m args meth c D (tys cI cJ cZ) (wX cI cJ ad kv) A cc nL RX0 ret) (hd : decode cc pc = .ok (.getfield 58, 3)) (K : J p l e R s m args below meth c D (wX cI cJ ad kv) A nL Q σ (pc + 3) lv (.int (gI σ 0) :: st)) : J p l e R s m args below meth c D (wX cI cJ ad kv) A nL Q σ pc lv (.ref (ad 0) :: st) := j_get 0 11 C inTX3 (r_wX_0 (σ := σ)) rfl (by decide) mf_X0_58 (Or.inl rfl) rfl hd K
theorem pf_X0_58 {x : Int32} (C : Cx p s m args meth c D (tys cI cJ cZ) (wX cI cJ ad kv) A cc nL RX0 ret) (hd : decode cc pc = .ok (.putfield 58, 3)) (K : J p l e R s m args below meth c D (wX cI cJ ad kv) A nL Q (sI σ 0 x) (pc + 3) lv st) : J p l e R s m args below meth c D (wX cI cJ ad kv) A nL Q σ pc lv (.int x :: .ref (ad 0) :: st) := j_put (fty := .int) 0 11 C inTX3 tyX3 tyX3_ok nmX3 (r_wX_0 (σ := σ)) rfl (by decide) mf_X0_58 rfl rfl (by decide +kernel) rfl rfl (Nat.le_of_ble_eq_true rfl) rfl hd K
theorem gf_X5_35 (C : Cx p s m args meth c D (tys cI cJ cZ) (wX cI cJ ad kv) A cc nL RX5 ret) (hd : decode cc pc = .ok (.getfield 35, 3)) (K : J p l e R s m args below meth c D (wX cI cJ ad kv) A nL Q σ (pc + 3) lv (.int (gI σ 0) :: st)) : J p l e R s m args below meth c D (wX cI cJ ad kv) A nL Q σ pc lv (.ref (ad 0) :: st) := j_get 0 11 C inTX3 (r_wX_0 (σ := σ)) rfl (by decide) mf_X5_35 (Or.inl rfl) rfl hd K
theorem pf_X5_35 {x : Int32} (C : Cx p s m args meth c D (tys cI cJ cZ) (wX cI cJ ad kv) A cc nL RX5 ret) (hd : decode cc pc = .ok (.putfield 35, 3)) (K : J p l e R s m args below meth c D (wX cI cJ ad kv) A nL Q (sI σ 0 x) (pc + 3) lv st) : J p l e R s m args below meth c D (wX cI cJ ad kv) A nL Q σ pc lv (.int x :: .ref (ad 0) :: st) := j_put (fty := .int) 0 11 C inTX3 tyX3 tyX3_ok nmX3 (r_wX_0 (σ := σ)) rfl (by decide) mf_X5_35 rfl rfl (by decide +kernel) rfl rfl (Nat.le_of_ble_eq_true rfl) rfl hd K
theorem gf_X4_90 (C : Cx p s m args meth c D (tys cI cJ cZ) (wX cI cJ ad kv) A cc nL RX4 ret) (hd : decode cc pc = .ok (.getfield 90, 3)) (K : J p l e R s m args below meth c D (wX cI cJ ad kv) A nL Q σ (pc + 3) lv (.int (gI σ 0) :: st)) : J p l e R s m args below meth c D (wX cI cJ ad kv) A nL Q σ pc lv (.ref (ad 0) :: st) := j_get 0 11 C inTX3 (r_wX_0 (σ := σ)) rfl (by decide) mf_X4_90 (Or.inl rfl) rfl hd K
theorem pf_X4_90 {x : Int32} (C : Cx p s m args meth c D (tys cI cJ cZ) (wX cI cJ ad kv) A cc nL RX4 ret) (hd : decode cc pc = .ok (.putfield 90, 3)) (K : J p l e R s m args below meth c D (wX cI cJ ad kv) A nL Q (sI σ 0 x) (pc + 3) lv st) : J p l e R s m args below meth c D (wX cI cJ ad kv) A nL Q σ pc lv (.int x :: .ref (ad 0) :: st) := j_put (fty := .int) 0 11 C inTX3 tyX3 tyX3_ok nmX3 (r_wX_0 (σ := σ)) rfl (by decide) mf_X4_90 rfl rfl (by decide +kernel) rfl rfl (Nat.le_of_ble_eq_true rfl) rfl hd K
theorem gf_X3_50 (C : Cx p s m args meth c D (tys cI cJ cZ) (wX cI cJ ad kv) A cc nL RX3 ret) (hd : decode cc pc = .ok (.getfield 50, 3)) (K : J p l e R s m args below meth c D (wX cI cJ ad kv) A nL Q σ (pc + 3) lv (.int (gI σ 1) :: st)) : J p l e R s m args below meth c D (wX cI cJ ad kv) A nL Q σ pc lv (.ref (ad 0) :: st) := j_get 0 12 C inTX3 (r_wX_0 (σ := σ)) rfl (by decide) mf_X3_50 (Or.inl rfl) rfl hd K
theorem pf_X3_50 {x : Int32} (C : Cx p s m args meth c D (tys cI cJ cZ) (wX cI cJ ad kv) A cc nL RX3 ret) (hd : decode cc pc = .ok (.putfield 50, 3)) (K : J p l e R s m args below meth c D (wX cI cJ ad kv) A nL Q (sI σ 1 x) (pc + 3) lv st) : J p l e R s m args below meth c D (wX cI cJ ad kv) A nL Q σ pc lv (.int x :: .ref (ad 0) :: st) := j_put (fty := .int) 0 12 C inTX3 tyX3 tyX3_ok nmX3 (r_wX_0 (σ := σ)) rfl (by decide) mf_X3_50 rfl rfl (by decide +kernel) rfl rfl (Nat.le_of_ble_eq_true rfl) rfl hd K
theorem gf_X6_72 (C : Cx p s m args meth c D (tys cI cJ cZ) (wX cI cJ ad kv) A cc nL RX6 ret) (hd : decode cc pc = .ok (.getfield 72, 3)) (K : J p l e R s m args below meth c D (wX cI cJ ad kv) A nL Q σ (pc + 3) lv (.int (gI σ 1) :: st)) : J p l e R s m args below meth c D (wX cI cJ ad kv) A nL Q σ pc lv (.ref (ad 0) :: st) := j_get 0 12 C inTX3 (r_wX_0 (σ := σ)) rfl (by decide) mf_X6_72 (Or.inl rfl) rfl hd K
theorem pf_X6_72 {x : Int32} (C : Cx p s m args meth c D (tys cI cJ cZ) (wX cI cJ ad kv) A cc nL RX6 ret) (hd : decode cc pc = .ok (.putfield 72, 3)) (K : J p l e R s m args below meth c D (wX cI cJ ad kv) A nL Q (sI σ 1 x) (pc + 3) lv st) : J p l e R s m args below meth c D (wX cI cJ ad kv) A nL Q σ pc lv (.int x :: .ref (ad 0) :: st) := j_put (fty := .int) 0 12 C inTX3 tyX3 tyX3_ok nmX3 (r_wX_0 (σ := σ)) rfl (by decide) mf_X6_72 rfl rfl (by decide +kernel) rfl rfl (Nat.le_of_ble_eq_true rfl) rfl hd K
theorem gf_X1_18 (C : Cx p s m args meth c D (tys cI cJ cZ) (wX cI cJ ad kv) A cc nL RX1 ret) (hd : decode cc pc = .ok (.getfield 18, 3)) (K : J p l e R s m args below meth c D (wX cI cJ ad kv) A nL Q σ (pc + 3) lv (.ref (ad 0) :: st)) : J p l e R s m args below meth c D (wX cI cJ ad kv) A nL Q σ pc lv (.ref (ad 12) :: st) := j_get 12 0 C inTX1 (r_wX_12 (σ := σ)) rfl (by decide) mf_X1_18 (Or.inl rfl) rfl hd K
theorem gf_X1_9 (C : Cx p s m args meth c D (tys cI cJ cZ) (wX cI cJ ad kv) A cc nL RX1 ret) (hd : decode cc pc = .ok (.getfield 9, 3)) (K : J p l e R s m args below meth c D (wX cI cJ ad kv) A nL Q σ (pc + 3) lv (.ref (ad 13) :: st)) : J p l e R s m args below meth c D (wX cI cJ ad kv) A nL Q σ pc lv (.ref (ad 12) :: st) := j_get 12 1 C inTX1 (r_wX_12 (σ := σ)) rfl (by decide) mf_X1_9 (Or.inl rfl) rfl hd K
theorem gf_X1_15 (C : Cx p s m args meth c D (tys cI cJ cZ) (wX cI cJ ad kv) A cc nL RX1 ret) (hd : decode cc pc = .ok (.getfield 15, 3)) (K : J p l e R s m args below meth c D (wX cI cJ ad kv) A nL Q σ (pc + 3) lv (.ref (ad 14) :: st)) : J p l e R s m args below meth c D (wX cI cJ ad kv) A nL Q σ pc lv (.ref (ad 12) :: st) := j_get 12 2 C inTX1 (r_wX_12 (σ := σ)) rfl (by decide) mf_X1_15 (Or.inl rfl) rfl hd K
theorem gf_X1_22 (C : Cx p s m args meth c D (tys cI cJ cZ) (wX cI cJ ad kv) A cc nL RX1 ret) (hd : decode cc pc = .ok (.getfield 22, 3)) (K : J p l e R s m args below meth c D (wX cI cJ ad kv) A nL Q σ (pc + 3) lv (.int (gI σ 2) :: st)) : J p l e R s m args below meth c D (wX cI cJ ad kv) A nL Q σ pc lv (.ref (ad 12) :: st) := j_get 12 3 C inTX1 (r_wX_12 (σ := σ)) rfl (by decide) mf_X1_22 (Or.inl rfl) rfl hd K
theorem pf_X1_22 {x : Int32} (C : Cx p s m args meth c D (tys cI cJ cZ) (wX cI cJ ad kv) A cc nL RX1 ret) (hd : decode cc pc = .ok (.putfield 22, 3)) (K : J p l e R s m args below meth c D (wX cI cJ ad kv) A nL Q (sI σ 2 x) (pc + 3) lv st) : J p l e R s m args below meth c D (wX cI cJ ad kv) A nL Q σ pc lv (.int x :: .ref (ad 12) :: st) := j_put (fty := .int) 12 3 C inTX1 tyX1 tyX1_ok nmX1 (r_wX_12 (σ := σ)) rfl (by decide) mf_X1_22 rfl rfl (by decide +kernel) rfl rfl (Nat.le_of_ble_eq_true rfl) rfl hd K
theorem gf_X1_26 (C : Cx p s m args meth c D (tys cI cJ cZ) (wX cI cJ ad kv) A cc nL RX1 ret) (hd : decode cc pc = .ok (.getfield 26, 3)) (K : J p l e R s m args below meth c D (wX cI cJ ad kv) A nL Q σ (pc + 3) lv (.int (gI σ 3) :: st)) : J p l e R s m args below meth c D (wX cI cJ ad kv) A nL Q σ pc lv (.ref (ad 12) :: st) := j_get 12 4 C inTX1 (r_wX_12 (σ := σ)) rfl (by decide) mf_X1_26 (Or.inl rfl) rfl hd K
theorem pf_X1_26 {x : Int32} (C : Cx p s m args meth c D (tys cI cJ cZ) (wX cI cJ ad kv) A cc nL RX1 ret) (hd : decode cc pc = .ok (.putfield 26, 3)) (K : J p l e R s m args below meth c D (wX cI cJ ad kv) A nL Q (sI σ 3 x) (pc + 3) lv st) : J p l e R s m args below meth c D (wX cI cJ ad kv) A nL Q σ pc lv (.int x :: .ref (ad 12) :: st) := j_put (fty := .int) 12 4 C inTX1 tyX1 tyX1_ok nmX1 (r_wX_12 (σ := σ)) rfl (by decide) mf_X1_26 rfl rfl (by decide +kernel) rfl rfl (Nat.le_of_ble_eq_true rfl) rfl hd K
theorem gf_X1_29 (C : Cx p s m args meth c D (tys cI cJ cZ) (wX cI cJ ad kv) A cc nL RX1 ret) (hd : decode cc pc = .ok (.getfield 29, 3)) (K : J p l e R s m args below meth c D (wX cI cJ ad kv) A nL Q σ (pc + 3) lv (.int (gI σ 4) :: st)) : J p l e R s m args below meth c D (wX cI cJ ad kv) A nL Q σ pc lv (.ref (ad 12) :: st) := j_get 12 5 C inTX1 (r_wX_12 (σ := σ)) rfl (by decide) mf_X1_29 (Or.inl rfl) rfl hd K
theorem pf_X1_29 {x : Int32} (C : Cx p s m args meth c D (tys cI cJ cZ) (wX cI cJ ad kv) A cc nL RX1 ret) (hd : decode cc pc = .ok (.putfield 29, 3)) (K : J p l e R s m args below meth c D (wX cI cJ ad kv) A nL Q (sI σ 4 x) (pc + 3) lv st) : J p l e R s m args below meth c D (wX cI cJ ad kv) A nL Q σ pc lv (.int x :: .ref (ad 12) :: st) := j_put (fty := .int) 12 5 C inTX1 tyX1 tyX1_ok nmX1 (r_wX_12 (σ := σ)) rfl (by decide) mf_X1_29 rfl rfl (by decide +kernel) rfl rfl (Nat.le_of_ble_eq_true rfl) rfl hd K
theorem gf_X6_205 (C : Cx p s m args meth c D (tys cI cJ cZ) (wX cI cJ ad kv) A cc nL RX6 ret) (hd : decode cc pc = .ok (.getfield 205, 3)) (K : J p l e R s m args below meth c D (wX cI cJ ad kv) A nL Q σ (pc + 3) lv (.int (gI σ 4) :: st)) : J p l e R s m args below meth c D (wX cI cJ ad kv) A nL Q σ pc lv (.ref (ad 12) :: st) := j_get 12 5 C inTX1 (r_wX_12 (σ := σ)) rfl (by decide) mf_X6_205 (Or.inl rfl) rfl hd K
theorem pf_X6_205 {x : Int32} (C : Cx p s m args meth c D (tys cI cJ cZ) (wX cI cJ ad kv) A cc nL RX6 ret) (hd : decode cc pc = .ok (.putfield 205, 3)) (K : J p l e R s m args below meth c D (wX cI cJ ad kv) A nL Q (sI σ 4 x) (pc + 3) lv st) : J p l e R s m args below meth c D (wX cI cJ ad kv) A nL Q σ pc lv (.int x :: .ref (ad 12) :: st) := j_put (fty := .int) 12 5 C inTX1 tyX1 tyX1_ok nmX1 (r_wX_12 (σ := σ)) rfl (by decide) mf_X6_205 rfl rfl (by decide +kernel) rfl rfl (Nat.le_of_ble_eq_true rfl) rfl hd K
theorem gf_X1_32 (C : Cx p s m args meth c D (tys cI cJ cZ) (wX cI cJ ad kv) A cc nL RX1 ret) (hd : decode cc pc = .ok (.getfield 32, 3)) (K : J p l e R s m args below meth c D (wX cI cJ ad kv) A nL Q σ (pc + 3) lv (.int (gI σ 5) :: st)) : J p l e R s m args below meth c D (wX cI cJ ad kv) A nL Q σ pc lv (.ref (ad 12) :: st) := j_get 12 6 C inTX1 (r_wX_12 (σ := σ)) rfl (by decide) mf_X1_32 (Or.inl rfl) rfl hd K
theorem pf_X1_32 {x : Int32} (C : Cx p s m args meth c D (tys cI cJ cZ) (wX cI cJ ad kv) A cc nL RX1 ret) (hd : decode cc pc = .ok (.putfield 32, 3)) (K : J p l e R s m args below meth c D (wX cI cJ ad kv) A nL Q (sI σ 5 x) (pc + 3) lv st) : J p l e R s m args below meth c D (wX cI cJ ad kv) A nL Q σ pc lv (.int x :: .ref (ad 12) :: st) := j_put (fty := .int) 12 6 C inTX1 tyX1 tyX1_ok nmX1 (r_wX_12 (σ := σ)) rfl (by decide) mf_X1_32 rfl rfl (by decide +kernel) rfl rfl (Nat.le_of_ble_eq_true rfl) rfl hd K
theorem gf_X6_208 (C : Cx p s m args meth c D (tys cI cJ cZ) (wX cI cJ ad kv) A cc nL RX6 ret) (hd : decode cc pc = .ok (.getfield 208, 3)) (K : J p l e R s m args below meth c D (wX cI cJ ad kv) A nL Q σ (pc + 3) lv (.int (gI σ 5) :: st)) : J p l e R s m args below meth c D (wX cI cJ ad kv) A nL Q σ pc lv (.ref (ad 12) :: st) := j_get 12 6 C inTX1 (r_wX_12 (σ := σ)) rfl (by decide) mf_X6_208 (Or.inl rfl) rfl hd K
theorem pf_X6_208 {x : Int32} (C : Cx p s m args meth c D (tys cI cJ cZ) (wX cI cJ ad kv) A cc nL RX6 ret) (hd : decode cc pc = .ok (.putfield 208, 3)) (K : J p l e R s m args below meth c D (wX cI cJ ad kv) A nL Q (sI σ 5 x) (pc + 3) lv st) : J p l e R s m args below meth c D (wX cI cJ ad kv) A nL Q σ pc lv (.int x :: .ref (ad 12) :: st) := j_put (fty := .int) 12 6 C inTX1 tyX1 tyX1_ok nmX1 (r_wX_12 (σ := σ)) rfl (by decide) mf_X6_208 rfl rfl (by decide +kernel) rfl rfl (Nat.le_of_ble_eq_true rfl) rfl hd K
theorem gf_X1_35 (C : Cx p s m args meth c D (tys cI cJ cZ) (wX cI cJ ad kv) A cc nL RX1 ret) (hd : decode cc pc = .ok (.getfield 35, 3)) (K : J p l e R s m args below meth c D (wX cI cJ ad kv) A nL Q σ (pc + 3) lv (.int (gI σ 6) :: st)) : J p l e R s m args below meth c D (wX cI cJ ad kv) A nL Q σ pc lv (.ref (ad 12) :: st) := j_get 12 7 C inTX1 (r_wX_12 (σ := σ)) rfl (by decide) mf_X1_35 (Or.inl rfl) rfl hd K
theorem pf_X1_35 {x : Int32} (C : Cx p s m args meth c D (tys cI cJ cZ) (wX cI cJ ad kv) A cc nL RX1 ret) (hd : decode cc pc = .ok (.putfield 35, 3)) (K : J p l e R s m args below meth c D (wX cI cJ ad kv) A nL Q (sI σ 6 x) (pc + 3) lv st) : J p l e R s m args below meth c D (wX cI cJ ad kv) A nL Q σ pc lv (.int x :: .ref (ad 12) :: st) := j_put (fty := .int) 12 7 C inTX1 tyX1 tyX1_ok nmX1 (r_wX_12 (σ := σ)) rfl (by decide) mf_X1_35 rfl rfl (by decide +kernel) rfl rfl (Nat.le_of_ble_eq_true rfl) rfl hd K
theorem gf_X6_211 (C : Cx p s m args meth c D (tys cI cJ cZ) (wX cI cJ ad kv) A cc nL RX6 ret) (hd : decode cc pc = .ok (.getfield 211, 3)) (K : J p l e R s m args below meth c D (wX cI cJ ad kv) A nL Q σ (pc + 3) lv (.int (gI σ 6) :: st)) : J p l e R s m args below meth c D (wX cI cJ ad kv) A nL Q σ pc lv (.ref (ad 12) :: st) := j_get 12 7 C inTX1 (r_wX_12 (σ := σ)) rfl (by decide) mf_X6_211 (Or.inl rfl) rfl hd K
theorem pf_X6_211 {x : Int32} (C : Cx p s m args meth c D (tys cI cJ cZ) (wX cI cJ ad kv) A cc nL RX6 ret) (hd : decode cc pc = .ok (.putfield 211, 3)) (K : J p l e R s m args below meth c D (wX cI cJ ad kv) A nL Q (sI σ 6 x) (pc + 3) lv st) : J p l e R s m args below meth c D (wX cI cJ ad kv) A nL Q σ pc lv (.int x :: .ref (ad 12) :: st) := j_put (fty := .int) 12 7 C inTX1 tyX1 tyX1_ok nmX1 (r_wX_12 (σ := σ)) rfl (by decide) mf_X6_211 rfl rfl (by decide +kernel) rfl rfl (Nat.le_of_ble_eq_true rfl) rfl hd K
theorem gf_X5_9 (C : Cx p s m args meth c D (tys cI cJ cZ) (wX cI cJ ad kv) A cc nL RX5 ret) (hd : decode cc pc = .ok (.getfield 9, 3)) (K : J p l e R s m args below meth c D (wX cI cJ ad kv) A nL Q σ (pc + 3) lv (.ref (ad 0) :: st)) : J p l e R s m args below meth c D (wX cI cJ ad kv) A nL Q σ pc lv (.ref (ad 15) :: st) := j_get 15 0 C inTX5 (r_wX_15 (σ := σ)) rfl (by decide) mf_X5_9 (Or.inr msf_X5) rfl hd K
theorem gf_X0_9 (C : Cx p s m args meth c D (tys cI cJ cZ) (wX cI cJ ad kv) A cc nL RX0 ret) (hd : decode cc pc = .ok (.getfield 9, 3)) (K : J p l e R s m args below meth c D (wX cI cJ ad kv) A nL Q σ (pc + 3) lv (.ref (ad 0) :: st)) : J p l e R s m args below meth c D (wX cI cJ ad kv) A nL Q σ pc lv (.ref (ad 16) :: st) := j_get 16 0 C inTX0 (r_wX_16 (σ := σ)) rfl (by decide) mf_X0_9 (Or.inr msf_X0) rfl hd K
theorem gf_X4_9 (C : Cx p s m args meth c D (tys cI cJ cZ) (wX cI cJ ad kv) A cc nL RX4 ret) (hd : decode cc pc = .ok (.getfield 9, 3)) (K : J p l e R s m args below meth c D (wX cI cJ ad kv) A nL Q σ (pc + 3) lv (.ref (ad 0) :: st)) : J p l e R s m args below meth c D (wX cI cJ ad kv) A nL Q σ pc lv (.ref (ad 17) :: st) := j_get 17 0 C inTX4 (r_wX_17 (σ := σ)) rfl (by decide) mf_X4_9 (Or.inr msf_X4) rfl hd K
theorem gf_X6_12 (C : Cx p s m args meth c D (tys cI cJ cZ) (wX cI cJ ad kv) A cc nL RX6 ret) (hd : decode cc pc = .ok (.getfield 12, 3)) (K : J p l e R s m args below meth c D (wX cI cJ ad kv) A nL Q σ (pc + 3) lv (.ref (ad 0) :: st)) : J p l e R s m args below meth c D (wX cI cJ ad kv) A nL Q σ pc lv (.ref (ad 18) :: st) := j_get 18 0 C inTX6 (r_wX_18 (σ := σ)) rfl (by decide) mf_X6_12 (Or.inl rfl) rfl hd K
theorem gf_X6_21 (C : Cx p s m args meth c D (tys cI cJ cZ) (wX cI cJ ad kv) A cc nL RX6 ret) (hd : decode cc pc = .ok (.getfield 21, 3)) (K : J p l e R s m args below meth c D (wX cI cJ ad kv) A nL Q σ (pc + 3) lv (.ref (ad 12) :: st)) : J p l e R s m args below meth c D (wX cI cJ ad kv) A nL Q σ pc lv (.ref (ad 18) :: st) := j_get 18 1 C inTX6 (r_wX_18 (σ := σ)) rfl (by decide) mf_X6_21 (Or.inl rfl) rfl hd K
theorem gf_X6_28 (C : Cx p s m args meth c D (tys cI cJ cZ) (wX cI cJ ad kv) A cc nL RX6 ret) (hd : decode cc pc = .ok (.getfield 28, 3)) (K : J p l e R s m args below meth c D (wX cI cJ ad kv) A nL Q σ (pc + 3) lv (.ref (ad 15) :: st)) : J p l e R s m args below meth c D (wX cI cJ ad kv) A nL Q σ pc lv (.ref (ad 18) :: st) := j_get 18 2 C inTX6 (r_wX_18 (σ := σ)) rfl (by decide) mf_X6_28 (Or.inl rfl) rfl hd K
theorem gf_X6_35 (C : Cx p s m args meth c D (tys cI cJ cZ) (wX cI cJ ad kv) A cc nL RX6 ret) (hd : decode cc pc = .ok (.getfield 35, 3)) (K : J p l e R s m args below meth c D (wX cI cJ ad kv) A nL Q σ (pc + 3) lv (.ref (ad 16) :: st)) : J p l e R s m args below meth c D (wX cI cJ ad kv) A nL Q σ pc lv (.ref (ad 18) :: st) := j_get 18 3 C inTX6 (r_wX_18 (σ := σ)) rfl (by decide) mf_X6_35 (Or.inl rfl) rfl hd K
theorem gf_X6_41 (C : Cx p s m args meth c D (tys cI cJ cZ) (wX cI cJ ad kv) A cc nL RX6 ret) (hd : decode cc pc = .ok (.getfield 41, 3)) (K : J p l e R s m args below meth c D (wX cI cJ ad kv) A nL Q σ (pc + 3) lv (.ref (ad 17) :: st)) : J p l e R s m args below meth c D (wX cI cJ ad kv) A nL Q σ pc lv (.ref (ad 18) :: st) := j_get 18 4 C inTX6 (r_wX_18 (σ := σ)) rfl (by decide) mf_X6_41 (Or.inl rfl) rfl hd K
theorem gf_X6_44 (C : Cx p s m args meth c D (tys cI cJ cZ) (wX cI cJ ad kv) A cc nL RX6 ret) (hd : decode cc pc = .ok (.getfield 44, 3)) (K : J p l e R s m args below meth c D (wX cI cJ ad kv) A nL Q σ (pc + 3) lv (.ref (ad 19) :: st)) : J p l e R s m args below meth c D (wX cI cJ ad kv) A nL Q σ pc lv (.ref (ad 18) :: st) := j_get 18 5 C inTX6 (r_wX_18 (σ := σ)) rfl (by decide) mf_X6_44 (Or.inl rfl) rfl hd K
theorem gf_X6_48 (C : Cx p s m args meth c D (tys cI cJ cZ) (wX cI cJ ad kv) A cc nL RX6 ret) (hd : decode cc pc = .ok (.getfield 48, 3)) (K : J p l e R s m args below meth c D (wX cI cJ ad kv) A nL Q σ (pc + 3) lv (kv :: st)) : J p l e R s m args below meth c D (wX cI cJ ad kv) A nL Q σ pc lv (.ref (ad 18) :: st) := j_get 18 6 C inTX6 (r_wX_18 (σ := σ)) rfl (by decide) mf_X6_48 (Or.inl rfl) rfl hd K
theorem gf_X6_51 (C : Cx p s m args meth c D (tys cI cJ cZ) (wX cI cJ ad kv) A cc nL RX6 ret) (hd : decode cc pc = .ok (.getfield 51, 3)) (K : J p l e R s m args below meth c D (wX cI cJ ad kv) A nL Q σ (pc + 3) lv (.long (gL σ 0) :: st)) : J p l e R s m args below meth c D (wX cI cJ ad kv) A nL Q σ pc lv (.ref (ad 18) :: st) := j_get 18 7 C inTX6 (r_wX_18 (σ := σ)) rfl (by decide) mf_X6_51 (Or.inl rfl) rfl hd K
theorem pf_X6_51 {x : Int64} (C : Cx p s m args meth c D (tys cI cJ cZ) (wX cI cJ ad kv) A cc nL RX6 ret) (hd : decode cc pc = .ok (.putfield 51, 3)) (K : J p l e R s m args below meth c D (wX cI cJ ad kv) A nL Q (sL σ 0 x) (pc + 3) lv st) : J p l e R s m args below meth c D (wX cI cJ ad kv) A nL Q σ pc lv (.long x :: .ref (ad 18) :: st) := j_put (fty := .long) 18 7 C inTX6 tyX6 tyX6_ok nmX6 (r_wX_18 (σ := σ)) rfl (by decide) mf_X6_51 rfl rfl (by decide +kernel) rfl rfl (Nat.le_of_ble_eq_true rfl) rfl hd K
theorem al_wX_1 {i : Int32} (C : Cx p s m args meth c D (tys cI cJ cZ) (wX cI cJ ad kv) A cc nL own ret) (hin : vp_in i 40) (hd : decode cc pc = .ok (.iaload, 1)) (K : J p l e R s m args below meth c D (wX cI cJ ad kv) A nL Q σ (pc + 1) lv (.int (gA σ 0 i.toNatClampNeg) :: st)) : J p l e R s m args below meth c D (wX cI cJ ad kv) A nL Q σ pc lv (.int i :: .ref (ad 1) :: st) := j_iald 1 0 C rfl rfl hin hd K
theorem as_wX_1 {i x : Int32} (C : Cx p s m args meth c D (tys cI cJ cZ) (wX cI cJ ad kv) A cc nL own ret) (hin : vp_in i 40) (hd : decode cc pc = .ok (.iastore, 1)) (K : J p l e R s m args below meth c D (wX cI cJ ad kv) A nL Q (sA σ 0 i.toNatClampNeg x) (pc + 1) lv st) : J p l e R s m args below meth c D (wX cI cJ ad kv) A nL Q σ pc lv (.int x :: .int i :: .ref (ad 1) :: st) := j_iast (f := gA σ 0) 1 0 C rfl rfl rfl hin hd K
theorem al_wX_2 {i : Int32} (C : Cx p s m args meth c D (tys cI cJ cZ) (wX cI cJ ad kv) A cc nL own ret) (hin : vp_in i 2560) (hd : decode cc pc = .ok (.laload, 1)) (K : J p l e R s m args below meth c D (wX cI cJ ad kv) A nL Q σ (pc + 1) lv (.long (gB σ 0 i.toNatClampNeg) :: st)) : J p l e R s m args below meth c D (wX cI cJ ad kv) A nL Q σ pc lv (.int i :: .ref (ad 2) :: st) := j_lald 2 1 C rfl rfl hin hd K
theorem as_wX_2 {i : Int32} {x : Int64} (C : Cx p s m args meth c D (tys cI cJ cZ) (wX cI cJ ad kv) A cc nL own ret) (hin : vp_in i 2560) (hd : decode cc pc = .ok (.lastore, 1)) (K : J p l e R s m args below meth c D (wX cI cJ ad kv) A nL Q (sB σ 0 i.toNatClampNeg x) (pc + 1) lv st) : J p l e R s m args below meth c D (wX cI cJ ad kv) A nL Q σ pc lv (.long x :: .int i :: .ref (ad 2) :: st) := j_last (f := gB σ 0) 2 1 C rfl rfl rfl hin hd K
theorem al_wX_3 {i : Int32} (C : Cx p s m args meth c D (tys cI cJ cZ) (wX cI cJ ad kv) A cc nL own ret) (hin : vp_in i 2560) (hd : decode cc pc = .ok (.iaload, 1)) (K : J p l e R s m args below meth c D (wX cI cJ ad kv) A nL Q σ (pc + 1) lv (.int (gA σ 1 i.toNatClampNeg) :: st)) : J p l e R s m args below meth c D (wX cI cJ ad kv) A nL Q σ pc lv (.int i :: .ref (ad 3) :: st) := j_iald 3 0 C rfl rfl hin hd K
theorem as_wX_3 {i x : Int32} (C : Cx p s m args meth c D (tys cI cJ cZ) (wX cI cJ ad kv) A cc nL own ret) (hin : vp_in i 2560) (hd : decode cc pc = .ok (.iastore, 1)) (K : J p l e R s m args below meth c D (wX cI cJ ad kv) A nL Q (sA σ 1 i.toNatClampNeg x) (pc + 1) lv st) : J p l e R s m args below meth c D (wX cI cJ ad kv) A nL Q σ pc lv (.int x :: .int i :: .ref (ad 3) :: st) := j_iast (f := gA σ 1) 3 0 C rfl rfl rfl hin hd K
theorem al_wX_4 {i : Int32} (C : Cx p s m args meth c D (tys cI cJ cZ) (wX cI cJ ad kv) A cc nL own ret) (hin : vp_in i 8) (hd : decode cc pc = .ok (.iaload, 1)) (K : J p l e R s m args below meth c D (wX cI cJ ad kv) A nL Q σ (pc + 1) lv (.int (gA σ 2 i.toNatClampNeg) :: st)) : J p l e R s m args below meth c D (wX cI cJ ad kv) A nL Q σ pc lv (.int i :: .ref (ad 4) :: st) := j_iald 4 0 C rfl rfl hin hd K
theorem as_wX_4 {i x : Int32} (C : Cx p s m args meth c D (tys cI cJ cZ) (wX cI cJ ad kv) A cc nL own ret) (hin : vp_in i 8) (hd : decode cc pc = .ok (.iastore, 1)) (K : J p l e R s m args below meth c D (wX cI cJ ad kv) A nL Q (sA σ 2 i.toNatClampNeg x) (pc + 1) lv st) : J p l e R s m args below meth c D (wX cI cJ ad kv) A nL Q σ pc lv (.int x :: .int i :: .ref (ad 4) :: st) := j_iast (f := gA σ 2) 4 0 C rfl rfl rfl hin hd K
theorem al_wX_5 {i : Int32} (C : Cx p s m args meth c D (tys cI cJ cZ) (wX cI cJ ad kv) A cc nL own ret) (hin : vp_in i 8) (hd : decode cc pc = .ok (.laload, 1)) (K : J p l e R s m args below meth c D (wX cI cJ ad kv) A nL Q σ (pc + 1) lv (.long (gB σ 1 i.toNatClampNeg) :: st)) : J p l e R s m args below meth c D (wX cI cJ ad kv) A nL Q σ pc lv (.int i :: .ref (ad 5) :: st) := j_lald 5 1 C rfl rfl hin hd K
theorem as_wX_5 {i : Int32} {x : Int64} (C : Cx p s m args meth c D (tys cI cJ cZ) (wX cI cJ ad kv) A cc nL own ret) (hin : vp_in i 8) (hd : decode cc pc = .ok (.lastore, 1)) (K : J p l e R s m args below meth c D (wX cI cJ ad kv) A nL Q (sB σ 1 i.toNatClampNeg x) (pc + 1) lv st) : J p l e R s m args below meth c D (wX cI cJ ad kv) A nL Q σ pc lv (.long x :: .int i :: .ref (ad 5) :: st) := j_last (f := gB σ 1) 5 1 C rfl rfl rfl hin hd K
theorem al_wX_6 {i : Int32} (C : Cx p s m args meth c D (tys cI cJ cZ) (wX cI cJ ad kv) A cc nL own ret) (hin : vp_in i 100) (hd : decode cc pc = .ok (.iaload, 1)) (K : J p l e R s m args below meth c D (wX cI cJ ad kv) A nL Q σ (pc + 1) lv (.int (gA σ 3 i.toNatClampNeg) :: st)) : J p l e R s m args below meth c D (wX cI cJ ad kv) A nL Q σ pc lv (.int i :: .ref (ad 6) :: st) := j_iald 6 0 C rfl rfl hin hd K
theorem as_wX_6 {i x : Int32} (C : Cx p s m args meth c D (tys cI cJ cZ) (wX cI cJ ad kv) A cc nL own ret) (hin : vp_in i 100) (hd : decode cc pc = .ok (.iastore, 1)) (K : J p l e R s m args below meth c D (wX cI cJ ad kv) A nL Q (sA σ 3 i.toNatClampNeg x) (pc + 1) lv st) : J p l e R s m args below meth c D (wX cI cJ ad kv) A nL Q σ pc lv (.int x :: .int i :: .ref (ad 6) :: st) := j_iast (f := gA σ 3) 6 0 C rfl rfl rfl hin hd K
theorem al_wX_7 {i : Int32} (C : Cx p s m args meth c D (tys cI cJ cZ) (wX cI cJ ad kv) A cc nL own ret) (hin : vp_in i 100) (hd : decode cc pc = .ok (.iaload, 1)) (K : J p l e R s m args below meth c D (wX cI cJ ad kv) A nL Q σ (pc + 1) lv (.int (gA σ 4 i.toNatClampNeg) :: st)) : J p l e R s m args below meth c D (wX cI cJ ad kv) A nL Q σ pc lv (.int i :: .ref (ad 7) :: st) := j_iald 7 0 C rfl rfl hin hd K
theorem as_wX_7 {i x : Int32} (C : Cx p s m args meth c D (tys cI cJ cZ) (wX cI cJ ad kv) A cc nL own ret) (hin : vp_in i 100) (hd : decode cc pc = .ok (.iastore, 1)) (K : J p l e R s m args below meth c D (wX cI cJ ad kv) A nL Q (sA σ 4 i.toNatClampNeg x) (pc + 1) lv st) : J p l e R s m args below meth c D (wX cI cJ ad kv) A nL Q σ pc lv (.int x :: .int i :: .ref (ad 7) :: st) := j_iast (f := gA σ 4) 7 0 C rfl rfl rfl hin hd K
theorem al_wX_8 {i : Int32} (C : Cx p s m args meth c D (tys cI cJ cZ) (wX cI cJ ad kv) A cc nL own ret) (hin : vp_in i 100) (hd : decode cc pc = .ok (.iaload, 1)) (K : J p l e R s m args below meth c D (wX cI cJ ad kv) A nL Q σ (pc + 1) lv (.int (gA σ 5 i.toNatClampNeg) :: st)) : J p l e R s m args below meth c D (wX cI cJ ad kv) A nL Q σ pc lv (.int i :: .ref (ad 8) :: st) := j_iald 8 0 C rfl rfl hin hd K
theorem as_wX_8 {i x : Int32} (C : Cx p s m args meth c D (tys cI cJ cZ) (wX cI cJ ad kv) A cc nL own ret) (hin : vp_in i 100) (hd : decode cc pc = .ok (.iastore, 1)) (K : J p l e R s m args below meth c D (wX cI cJ ad kv) A nL Q (sA σ 5 i.toNatClampNeg x) (pc + 1) lv st) : J p l e R s m args below meth c D (wX cI cJ ad kv) A nL Q σ pc lv (.int x :: .int i :: .ref (ad 8) :: st) := j_iast (f := gA σ 5) 8 0 C rfl rfl rfl hin hd K
theorem al_wX_9 {i : Int32} (C : Cx p s m args meth c D (tys cI cJ cZ) (wX cI cJ ad kv) A cc nL own ret) (hin : vp_in i 100) (hd : decode cc pc = .ok (.iaload, 1)) (K : J p l e R s m args below meth c D (wX cI cJ ad kv) A nL Q σ (pc + 1) lv (.int (gA σ 6 i.toNatClampNeg) :: st)) : J p l e R s m args below meth c D (wX cI cJ ad kv) A nL Q σ pc lv (.int i :: .ref (ad 9) :: st) := j_iald 9 0 C rfl rfl hin hd K
theorem as_wX_9 {i x : Int32} (C : Cx p s m args meth c D (tys cI cJ cZ) (wX cI cJ ad kv) A cc nL own ret) (hin : vp_in i 100) (hd : decode cc pc = .ok (.iastore, 1)) (K : J p l e R s m args below meth c D (wX cI cJ ad kv) A nL Q (sA σ 6 i.toNatClampNeg x) (pc + 1) lv st) : J p l e R s m args below meth c D (wX cI cJ ad kv) A nL Q σ pc lv (.int x :: .int i :: .ref (ad 9) :: st) := j_iast (f := gA σ 6) 9 0 C rfl rfl rfl hin hd K
theorem al_wX_10 {i : Int32} (C : Cx p s m args meth c D (tys cI cJ cZ) (wX cI cJ ad kv) A cc nL own ret) (hin : vp_in i 100) (hd : decode cc pc = .ok (.iaload, 1)) (K : J p l e R s m args below meth c D (wX cI cJ ad kv) A nL Q σ (pc + 1) lv (.int (gA σ 7 i.toNatClampNeg) :: st)) : J p l e R s m args below meth c D (wX cI cJ ad kv) A nL Q σ pc lv (.int i :: .ref (ad 10) :: st) := j_iald 10 0 C rfl rfl hin hd K
theorem as_wX_10 {i x : Int32} (C : Cx p s m args meth c D (tys cI cJ cZ) (wX cI cJ ad kv) A cc nL own ret) (hin : vp_in i 100) (hd : decode cc pc = .ok (.iastore, 1)) (K : J p l e R s m args below meth c D (wX cI cJ ad kv) A nL Q (sA σ 7 i.toNatClampNeg x) (pc + 1) lv st) : J p l e R s m args below meth c D (wX cI cJ ad kv) A nL Q σ pc lv (.int x :: .int i :: .ref (ad 10) :: st) := j_iast (f := gA σ 7) 10 0 C rfl rfl rfl hin hd K
theorem al_wX_11 {i : Int32} (C : Cx p s m args meth c D (tys cI cJ cZ) (wX cI cJ ad kv) A cc nL own ret) (hin : vp_in i 4) (hd : decode cc pc = .ok (.iaload, 1)) (K : J p l e R s m args below meth c D (wX cI cJ ad kv) A nL Q σ (pc + 1) lv (.int (gA σ 8 i.toNatClampNeg) :: st)) : J p l e R s m args below meth c D (wX cI cJ ad kv) A nL Q σ pc lv (.int i :: .ref (ad 11) :: st) := j_iald 11 0 C rfl rfl hin hd K
theorem as_wX_11 {i x : Int32} (C : Cx p s m args meth c D (tys cI cJ cZ) (wX cI cJ ad kv) A cc nL own ret) (hin : vp_in i 4) (hd : decode cc pc = .ok (.iastore, 1)) (K : J p l e R s m args below meth c D (wX cI cJ ad kv) A nL Q (sA σ 8 i.toNatClampNeg x) (pc + 1) lv st) : J p l e R s m args below meth c D (wX cI cJ ad kv) A nL Q σ pc lv (.int x :: .int i :: .ref (ad 11) :: st) := j_iast (f := gA σ 8) 11 0 C rfl rfl rfl hin hd K
theorem al_wX_13 {i : Int32} (C : Cx p s m args meth c D (tys cI cJ cZ) (wX cI cJ ad kv) A cc nL own ret) (hin : vp_in i 4) (hd : decode cc pc = .ok (.iaload, 1)) (K : J p l e R s m args below meth c D (wX cI cJ ad kv) A nL Q σ (pc + 1) lv (.int (gA σ 9 i.toNatClampNeg) :: st)) : J p l e R s m args below meth c D (wX cI cJ ad kv) A nL Q σ pc lv (.int i :: .ref (ad 13) :: st) := j_iald 13 0 C rfl rfl hin hd K
theorem as_wX_13 {i x : Int32} (C : Cx p s m args meth c D (tys cI cJ cZ) (wX cI cJ ad kv) A cc nL own ret) (hin : vp_in i 4) (hd : decode cc pc = .ok (.iastore, 1)) (K : J p l e R s m args below meth c D (wX cI cJ ad kv) A nL Q (sA σ 9 i.toNatClampNeg x) (pc + 1) lv st) : J p l e R s m args below meth c D (wX cI cJ ad kv) A nL Q σ pc lv (.int x :: .int i :: .ref (ad 13) :: st) := j_iast (f := gA σ 9) 13 0 C rfl rfl rfl hin hd K
theorem al_wX_14 {i : Int32} (C : Cx p s m args meth c D (tys cI cJ cZ) (wX cI cJ ad kv) A cc nL own ret) (hin : vp_in i 4) (hd : decode cc pc = .ok (.iaload, 1)) (K : J p l e R s m args below meth c D (wX cI cJ ad kv) A nL Q σ (pc + 1) lv (.int (gA σ 10 i.toNatClampNeg) :: st)) : J p l e R s m args below meth c D (wX cI cJ ad kv) A nL Q σ pc lv (.int i :: .ref (ad 14) :: st) := j_iald 14 0 C rfl rfl hin hd K
theorem as_wX_14 {i x : Int32} (C : Cx p s m args meth c D (tys cI cJ cZ) (wX cI cJ ad kv) A cc nL own ret) (hin : vp_in i 4) (hd : decode cc pc = .ok (.iastore, 1)) (K : J p l e R s m args below meth c D (wX cI cJ ad kv) A nL Q (sA σ 10 i.toNatClampNeg x) (pc + 1) lv st) : J p l e R s m args below meth c D (wX cI cJ ad kv) A nL Q σ pc lv (.int x :: .int i :: .ref (ad 14) :: st) := j_iast (f := gA σ 10) 14 0 C rfl rfl rfl hin hd K
theorem al_wX_19 {i : Int32} (C : Cx p s m args meth c D (tys cI cJ cZ) (wX cI cJ ad kv) A cc nL own ret) (hin : vp_in i 10) (hd : decode cc pc = .ok (.iaload, 1)) (K : J p l e R s m args below meth c D (wX cI cJ ad kv) A nL Q σ (pc + 1) lv (.int (gA σ 11 i.toNatClampNeg) :: st)) : J p l e R s m args below meth c D (wX cI cJ ad kv) A nL Q σ pc lv (.int i :: .ref (ad 19) :: st) := j_iald 19 0 C rfl rfl hin hd K
theorem as_wX_19 {i x : Int32} (C : Cx p s m args meth c D (tys cI cJ cZ) (wX cI cJ ad kv) A cc nL own ret) (hin : vp_in i 10) (hd : decode cc pc = .ok (.iastore, 1)) (K : J p l e R s m args below meth c D (wX cI cJ ad kv) A nL Q (sA σ 11 i.toNatClampNeg x) (pc + 1) lv st) : J p l e R s m args below meth c D (wX cI cJ ad kv) A nL Q σ pc lv (.int x :: .int i :: .ref (ad 19) :: st) := j_iast (f := gA σ 11) 19 0 C rfl rfl rfl hin hd K
end WwX
section WwM
variable {p : Program} {l : Launch} {e : Env} {R : Room} {s : State} {m : MethodId} {args : Array Value} {below : List Frame} {meth : Method} {c : Code} {D : va_G} {A : Nat → Prop} {cc : ByteArray} {nL : Nat} {own : String} {ret : Option FieldType} {Q : State → Prop} {σ : SS} {pc : Nat} {lv : List (Nat × Value)} {st : List Value} {cI cJ cZ : ClassId} {ad : Nat → Nat}
theorem r_wM_0 : (wM cI cJ cZ ad σ)[0]? = some (ad 0, .inr (6, [.int (gI σ 0), .ref (ad 1), .ref (ad 2), .ref (ad 3), .ref (ad 4), .int (gI σ 1), .ref (ad 5), .ref (ad 6), .ref (ad 7), .ref (ad 8), .ref (ad 9), .ref (ad 10), .ref (ad 11), .int (gI σ 2), .ref (ad 12), .long (gL σ 0), .ref (ad 13), .int (gI σ 3), .int (gI σ 4), .ref (ad 14), .ref (ad 15), .ref (ad 16), .ref (ad 17), .int (gI σ 5), .ref (ad 18), .ref (ad 19), .ref (ad 20), .ref (ad 21), .ref (ad 22), .ref (ad 23), .ref (ad 24), .int (gI σ 6), .ref (ad 25), .ref (ad 26), .int (gI σ 7), .int (gI σ 8), .int (gI σ 9), .int (gI σ 10), .int (gI σ 11), .int (gI σ 12), .int (gI σ 13), .int (gI σ 14), .int (gI σ 15)])) := rfl
theorem gf_X7_94 (C : Cx p s m args meth c D (tys cI cJ cZ) (wM cI cJ cZ ad) A cc nL RX7 ret) (hd : decode cc pc = .ok (.getfield 94, 3)) (K : J p l e R s m args below meth c D (wM cI cJ cZ ad) A nL Q σ (pc + 3) lv (.int (gI σ 0) :: st)) : J p l e R s m args below meth c D (wM cI cJ cZ ad) A nL Q σ pc lv (.ref (ad 0) :: st) := j_get 0 0 C inTX7 (r_wM_0 (σ := σ)) rfl (by decide) mf_X7_94 (Or.inl rfl) rfl hd K
theorem pf_X7_94 {x : Int32} (C : Cx p s m args meth c D (tys cI cJ cZ) (wM cI cJ cZ ad) A cc nL RX7 ret) (hd : decode cc pc = .ok (.putfield 94, 3)) (K : J p l e R s m args below meth c D (wM cI cJ cZ ad) A nL Q (sI σ 0 x) (pc + 3) lv st) : J p l e R s m args below meth c D (wM cI cJ cZ ad) A nL Q σ pc lv (.int x :: .ref (ad 0) :: st) := j_put (fty := .int) 0 0 C inTX7 tyX7 tyX7_ok nmX7 (r_wM_0 (σ := σ)) rfl (by decide) mf_X7_94 rfl rfl (by decide +kernel) rfl rfl (Nat.le_of_ble_eq_true rfl) rfl hd K
theorem gf_X7_9 (C : Cx p s m args meth c D (tys cI cJ cZ) (wM cI cJ cZ ad) A cc nL RX7 ret) (hd : decode cc pc = .ok (.getfield 9, 3)) (K : J p l e R s m args below meth c D (wM cI cJ cZ ad) A nL Q σ (pc + 3) lv (.ref (ad 1) :: st)) : J p l e R s m args below meth c D (wM cI cJ cZ ad) A nL Q σ pc lv (.ref (ad 0) :: st) := j_get 0 1 C inTX7 (r_wM_0 (σ := σ)) rfl (by decide) mf_X7_9 (Or.inl rfl) rfl hd K
theorem gf_X7_13 (C : Cx p s m args meth c D (tys cI cJ cZ) (wM cI cJ cZ ad) A cc nL RX7 ret) (hd : decode cc pc = .ok (.getfield 13, 3)) (K : J p l e R s m args below meth c D (wM cI cJ cZ ad) A nL Q σ (pc + 3) lv (.ref (ad 2) :: st)) : J p l e R s m args below meth c D (wM cI cJ cZ ad) A nL Q σ pc lv (.ref (ad 0) :: st) := j_get 0 2 C inTX7 (r_wM_0 (σ := σ)) rfl (by decide) mf_X7_13 (Or.inl rfl) rfl hd K
theorem gf_X7_17 (C : Cx p s m args meth c D (tys cI cJ cZ) (wM cI cJ cZ ad) A cc nL RX7 ret) (hd : decode cc pc = .ok (.getfield 17, 3)) (K : J p l e R s m args below meth c D (wM cI cJ cZ ad) A nL Q σ (pc + 3) lv (.ref (ad 3) :: st)) : J p l e R s m args below meth c D (wM cI cJ cZ ad) A nL Q σ pc lv (.ref (ad 0) :: st) := j_get 0 3 C inTX7 (r_wM_0 (σ := σ)) rfl (by decide) mf_X7_17 (Or.inl rfl) rfl hd K
theorem gf_X7_20 (C : Cx p s m args meth c D (tys cI cJ cZ) (wM cI cJ cZ ad) A cc nL RX7 ret) (hd : decode cc pc = .ok (.getfield 20, 3)) (K : J p l e R s m args below meth c D (wM cI cJ cZ ad) A nL Q σ (pc + 3) lv (.ref (ad 4) :: st)) : J p l e R s m args below meth c D (wM cI cJ cZ ad) A nL Q σ pc lv (.ref (ad 0) :: st) := j_get 0 4 C inTX7 (r_wM_0 (σ := σ)) rfl (by decide) mf_X7_20 (Or.inl rfl) rfl hd K
theorem gf_X7_98 (C : Cx p s m args meth c D (tys cI cJ cZ) (wM cI cJ cZ ad) A cc nL RX7 ret) (hd : decode cc pc = .ok (.getfield 98, 3)) (K : J p l e R s m args below meth c D (wM cI cJ cZ ad) A nL Q σ (pc + 3) lv (.int (gI σ 1) :: st)) : J p l e R s m args below meth c D (wM cI cJ cZ ad) A nL Q σ pc lv (.ref (ad 0) :: st) := j_get 0 5 C inTX7 (r_wM_0 (σ := σ)) rfl (by decide) mf_X7_98 (Or.inl rfl) rfl hd K
theorem pf_X7_98 {x : Int32} (C : Cx p s m args meth c D (tys cI cJ cZ) (wM cI cJ cZ ad) A cc nL RX7 ret) (hd : decode cc pc = .ok (.putfield 98, 3)) (K : J p l e R s m args below meth c D (wM cI cJ cZ ad) A nL Q (sI σ 1 x) (pc + 3) lv st) : J p l e R s m args below meth c D (wM cI cJ cZ ad) A nL Q σ pc lv (.int x :: .ref (ad 0) :: st) := j_put (fty := .int) 0 5 C inTX7 tyX7 tyX7_ok nmX7 (r_wM_0 (σ := σ)) rfl (by decide) mf_X7_98 rfl rfl (by decide +kernel) rfl rfl (Nat.le_of_ble_eq_true rfl) rfl hd K
theorem gf_X7_23 (C : Cx p s m args meth c D (tys cI cJ cZ) (wM cI cJ cZ ad) A cc nL RX7 ret) (hd : decode cc pc = .ok (.getfield 23, 3)) (K : J p l e R s m args below meth c D (wM cI cJ cZ ad) A nL Q σ (pc + 3) lv (.ref (ad 5) :: st)) : J p l e R s m args below meth c D (wM cI cJ cZ ad) A nL Q σ pc lv (.ref (ad 0) :: st) := j_get 0 6 C inTX7 (r_wM_0 (σ := σ)) rfl (by decide) mf_X7_23 (Or.inl rfl) rfl hd K
theorem gf_X7_26 (C : Cx p s m args meth c D (tys cI cJ cZ) (wM cI cJ cZ ad) A cc nL RX7 ret) (hd : decode cc pc = .ok (.getfield 26, 3)) (K : J p l e R s m args below meth c D (wM cI cJ cZ ad) A nL Q σ (pc + 3) lv (.ref (ad 6) :: st)) : J p l e R s m args below meth c D (wM cI cJ cZ ad) A nL Q σ pc lv (.ref (ad 0) :: st) := j_get 0 7 C inTX7 (r_wM_0 (σ := σ)) rfl (by decide) mf_X7_26 (Or.inl rfl) rfl hd K
theorem gf_X7_29 (C : Cx p s m args meth c D (tys cI cJ cZ) (wM cI cJ cZ ad) A cc nL RX7 ret) (hd : decode cc pc = .ok (.getfield 29, 3)) (K : J p l e R s m args below meth c D (wM cI cJ cZ ad) A nL Q σ (pc + 3) lv (.ref (ad 7) :: st)) : J p l e R s m args below meth c D (wM cI cJ cZ ad) A nL Q σ pc lv (.ref (ad 0) :: st) := j_get 0 8 C inTX7 (r_wM_0 (σ := σ)) rfl (by decide) mf_X7_29 (Or.inl rfl) rfl hd K
theorem gf_X7_32 (C : Cx p s m args meth c D (tys cI cJ cZ) (wM cI cJ cZ ad) A cc nL RX7 ret) (hd : decode cc pc = .ok (.getfield 32, 3)) (K : J p l e R s m args below meth c D (wM cI cJ cZ ad) A nL Q σ (pc + 3) lv (.ref (ad 8) :: st)) : J p l e R s m args below meth c D (wM cI cJ cZ ad) A nL Q σ pc lv (.ref (ad 0) :: st) := j_get 0 9 C inTX7 (r_wM_0 (σ := σ)) rfl (by decide) mf_X7_32 (Or.inl rfl) rfl hd K
theorem gf_X7_36 (C : Cx p s m args meth c D (tys cI cJ cZ) (wM cI cJ cZ ad) A cc nL RX7 ret) (hd : decode cc pc = .ok (.getfield 36, 3)) (K : J p l e R s m args below meth c D (wM cI cJ cZ ad) A nL Q σ (pc + 3) lv (.ref (ad 9) :: st)) : J p l e R s m args below meth c D (wM cI cJ cZ ad) A nL Q σ pc lv (.ref (ad 0) :: st) := j_get 0 10 C inTX7 (r_wM_0 (σ := σ)) rfl (by decide) mf_X7_36 (Or.inl rfl) rfl hd K
theorem gf_X7_39 (C : Cx p s m args meth c D (tys cI cJ cZ) (wM cI cJ cZ ad) A cc nL RX7 ret) (hd : decode cc pc = .ok (.getfield 39, 3)) (K : J p l e R s m args below meth c D (wM cI cJ cZ ad) A nL Q σ (pc + 3) lv (.ref (ad 10) :: st)) : J p l e R s m args below meth c D (wM cI cJ cZ ad) A nL Q σ pc lv (.ref (ad 0) :: st) := j_get 0 11 C inTX7 (r_wM_0 (σ := σ)) rfl (by decide) mf_X7_39 (Or.inl rfl) rfl hd K
theorem gf_X7_42 (C : Cx p s m args meth c D (tys cI cJ cZ) (wM cI cJ cZ ad) A cc nL RX7 ret) (hd : decode cc pc = .ok (.getfield 42, 3)) (K : J p l e R s m args below meth c D (wM cI cJ cZ ad) A nL Q σ (pc + 3) lv (.ref (ad 11) :: st)) : J p l e R s m args below meth c D (wM cI cJ cZ ad) A nL Q σ pc lv (.ref (ad 0) :: st) := j_get 0 12 C inTX7 (r_wM_0 (σ := σ)) rfl (by decide) mf_X7_42 (Or.inl rfl) rfl hd K
theorem gf_X7_101 (C : Cx p s m args meth c D (tys cI cJ cZ) (wM cI cJ cZ ad) A cc nL RX7 ret) (hd : decode cc pc = .ok (.getfield 101, 3)) (K : J p l e R s m args below meth c D (wM cI cJ cZ ad) A nL Q σ (pc + 3) lv (.int (gI σ 2) :: st)) : J p l e R s m args below meth c D (wM cI cJ cZ ad) A nL Q σ pc lv (.ref (ad 0) :: st) := j_get 0 13 C inTX7 (r_wM_0 (σ := σ)) rfl (by decide) mf_X7_101 (Or.inl rfl) rfl hd K
theorem pf_X7_101 {x : Int32} (C : Cx p s m args meth c D (tys cI cJ cZ) (wM cI cJ cZ ad) A cc nL RX7 ret) (hd : decode cc pc = .ok (.putfield 101, 3)) (K : J p l e R s m args below meth c D (wM cI cJ cZ ad) A nL Q (sI σ 2 x) (pc + 3) lv st) : J p l e R s m args below meth c D (wM cI cJ cZ ad) A nL Q σ pc lv (.int x :: .ref (ad 0) :: st) := j_put (fty := .int) 0 13 C inTX7 tyX7 tyX7_ok nmX7 (r_wM_0 (σ := σ)) rfl (by decide) mf_X7_101 rfl rfl (by decide +kernel) rfl rfl (Nat.le_of_ble_eq_true rfl) rfl hd K
theorem gf_X7_45 (C : Cx p s m args meth c D (tys cI cJ cZ) (wM cI cJ cZ ad) A cc nL RX7 ret) (hd : decode cc pc = .ok (.getfield 45, 3)) (K : J p l e R s m args below meth c D (wM cI cJ cZ ad) A nL Q σ (pc + 3) lv (.ref (ad 12) :: st)) : J p l e R s m args below meth c D (wM cI cJ cZ ad) A nL Q σ pc lv (.ref (ad 0) :: st) := j_get 0 14 C inTX7 (r_wM_0 (σ := σ)) rfl (by decide) mf_X7_45 (Or.inl rfl) rfl hd K
theorem gf_X7_104 (C : Cx p s m args meth c D (tys cI cJ cZ) (wM cI cJ cZ ad) A cc nL RX7 ret) (hd : decode cc pc = .ok (.getfield 104, 3)) (K : J p l e R s m args below meth c D (wM cI cJ cZ ad) A nL Q σ (pc + 3) lv (.long (gL σ 0) :: st)) : J p l e R s m args below meth c D (wM cI cJ cZ ad) A nL Q σ pc lv (.ref (ad 0) :: st) := j_get 0 15 C inTX7 (r_wM_0 (σ := σ)) rfl (by decide) mf_X7_104 (Or.inl rfl) rfl hd K
theorem pf_X7_104 {x : Int64} (C : Cx p s m args meth c D (tys cI cJ cZ) (wM cI cJ cZ ad) A cc nL RX7 ret) (hd : decode cc pc = .ok (.putfield 104, 3)) (K : J p l e R s m args below meth c D (wM cI cJ cZ ad) A nL Q (sL σ 0 x) (pc + 3) lv st) : J p l e R s m args below meth c D (wM cI cJ cZ ad) A nL Q σ pc lv (.long x :: .ref (ad 0) :: st) := j_put (fty := .long) 0 15 C inTX7 tyX7 tyX7_ok nmX7 (r_wM_0 (σ := σ)) rfl (by decide) mf_X7_104 rfl rfl (by decide +kernel) rfl rfl (Nat.le_of_ble_eq_true rfl) rfl hd K
theorem gf_X7_48 (C : Cx p s m args meth c D (tys cI cJ cZ) (wM cI cJ cZ ad) A cc nL RX7 ret) (hd : decode cc pc = .ok (.getfield 48, 3)) (K : J p l e R s m args below meth c D (wM cI cJ cZ ad) A nL Q σ (pc + 3) lv (.ref (ad 13) :: st)) : J p l e R s m args below meth c D (wM cI cJ cZ ad) A nL Q σ pc lv (.ref (ad 0) :: st) := j_get 0 16 C inTX7 (r_wM_0 (σ := σ)) rfl (by decide) mf_X7_48 (Or.inl rfl) rfl hd K
theorem gf_X7_244 (C : Cx p s m args meth c D (tys cI cJ cZ) (wM cI cJ cZ ad) A cc nL RX7 ret) (hd : decode cc pc = .ok (.getfield 244, 3)) (K : J p l e R s m args below meth c D (wM cI cJ cZ ad) A nL Q σ (pc + 3) lv (.int (gI σ 3) :: st)) : J p l e R s m args below meth c D (wM cI cJ cZ ad) A nL Q σ pc lv (.ref (ad 0) :: st) := j_get 0 17 C inTX7 (r_wM_0 (σ := σ)) rfl (by decide) mf_X7_244 (Or.inl rfl) rfl hd K
theorem pf_X7_244 {x : Int32} (C : Cx p s m args meth c D (tys cI cJ cZ) (wM cI cJ cZ ad) A cc nL RX7 ret) (hb : narrow .boolean (.int x) = .int x) (hb2 : fits .boolean (.int x) = true) (hd : decode cc pc = .ok (.putfield 244, 3)) (K : J p l e R s m args below meth c D (wM cI cJ cZ ad) A nL Q (sI σ 3 x) (pc + 3) lv st) : J p l e R s m args below meth c D (wM cI cJ cZ ad) A nL Q σ pc lv (.int x :: .ref (ad 0) :: st) := j_put (fty := .boolean) 0 17 C inTX7 tyX7 tyX7_ok nmX7 (r_wM_0 (σ := σ)) rfl (by decide) mf_X7_244 rfl rfl (by decide +kernel) hb hb2 (Nat.le_of_ble_eq_true rfl) rfl hd K
theorem gf_X7_247 (C : Cx p s m args meth c D (tys cI cJ cZ) (wM cI cJ cZ ad) A cc nL RX7 ret) (hd : decode cc pc = .ok (.getfield 247, 3)) (K : J p l e R s m args below meth c D (wM cI cJ cZ ad) A nL Q σ (pc + 3) lv (.int (gI σ 4) :: st)) : J p l e R s m args below meth c D (wM cI cJ cZ ad) A nL Q σ pc lv (.ref (ad 0) :: st) := j_get 0 18 C inTX7 (r_wM_0 (σ := σ)) rfl (by decide) mf_X7_247 (Or.inl rfl) rfl hd K
theorem pf_X7_247 {x : Int32} (C : Cx p s m args meth c D (tys cI cJ cZ) (wM cI cJ cZ ad) A cc nL RX7 ret) (hd : decode cc pc = .ok (.putfield 247, 3)) (K : J p l e R s m args below meth c D (wM cI cJ cZ ad) A nL Q (sI σ 4 x) (pc + 3) lv st) : J p l e R s m args below meth c D (wM cI cJ cZ ad) A nL Q σ pc lv (.int x :: .ref (ad 0) :: st) := j_put (fty := .int) 0 18 C inTX7 tyX7 tyX7_ok nmX7 (r_wM_0 (σ := σ)) rfl (by decide) mf_X7_247 rfl rfl (by decide +kernel) rfl rfl (Nat.le_of_ble_eq_true rfl) rfl hd K
theorem gf_X7_51 (C : Cx p s m args meth c D (tys cI cJ cZ) (wM cI cJ cZ ad) A cc nL RX7 ret) (hd : decode cc pc = .ok (.getfield 51, 3)) (K : J p l e R s m args below meth c D (wM cI cJ cZ ad) A nL Q σ (pc + 3) lv (.ref (ad 14) :: st)) : J p l e R s m args below meth c D (wM cI cJ cZ ad) A nL Q σ pc lv (.ref (ad 0) :: st) := j_get 0 19 C inTX7 (r_wM_0 (σ := σ)) rfl (by decide) mf_X7_51 (Or.inl rfl) rfl hd K
theorem gf_X7_54 (C : Cx p s m args meth c D (tys cI cJ cZ) (wM cI cJ cZ ad) A cc nL RX7 ret) (hd : decode cc pc = .ok (.getfield 54, 3)) (K : J p l e R s m args below meth c D (wM cI cJ cZ ad) A nL Q σ (pc + 3) lv (.ref (ad 15) :: st)) : J p l e R s m args below meth c D (wM cI cJ cZ ad) A nL Q σ pc lv (.ref (ad 0) :: st) := j_get 0 20 C inTX7 (r_wM_0 (σ := σ)) rfl (by decide) mf_X7_54 (Or.inl rfl) rfl hd K
theorem gf_X7_57 (C : Cx p s m args meth c D (tys cI cJ cZ) (wM cI cJ cZ ad) A cc nL RX7 ret) (hd : decode cc pc = .ok (.getfield 57, 3)) (K : J p l e R s m args below meth c D (wM cI cJ cZ ad) A nL Q σ (pc + 3) lv (.ref (ad 16) :: st)) : J p l e R s m args below meth c D (wM cI cJ cZ ad) A nL Q σ pc lv (.ref (ad 0) :: st) := j_get 0 21 C inTX7 (r_wM_0 (σ := σ)) rfl (by decide) mf_X7_57 (Or.inl rfl) rfl hd K
theorem gf_X7_60 (C : Cx p s m args meth c D (tys cI cJ cZ) (wM cI cJ cZ ad) A cc nL RX7 ret) (hd : decode cc pc = .ok (.getfield 60, 3)) (K : J p l e R s m args below meth c D (wM cI cJ cZ ad) A nL Q σ (pc + 3) lv (.ref (ad 17) :: st)) : J p l e R s m args below meth c D (wM cI cJ cZ ad) A nL Q σ pc lv (.ref (ad 0) :: st) := j_get 0 22 C inTX7 (r_wM_0 (σ := σ)) rfl (by decide) mf_X7_60 (Or.inl rfl) rfl hd K
theorem gf_X7_250 (C : Cx p s m args meth c D (tys cI cJ cZ) (wM cI cJ cZ ad) A cc nL RX7 ret) (hd : decode cc pc = .ok (.getfield 250, 3)) (K : J p l e R s m args below meth c D (wM cI cJ cZ ad) A nL Q σ (pc + 3) lv (.int (gI σ 5) :: st)) : J p l e R s m args below meth c D (wM cI cJ cZ ad) A nL Q σ pc lv (.ref (ad 0) :: st) := j_get 0 23 C inTX7 (r_wM_0 (σ := σ)) rfl (by decide) mf_X7_250 (Or.inl rfl) rfl hd K
theorem pf_X7_250 {x : Int32} (C : Cx p s m args meth c D (tys cI cJ cZ) (wM cI cJ cZ ad) A cc nL RX7 ret) (hd : decode cc pc = .ok (.putfield 250, 3)) (K : J p l e R s m args below meth c D (wM cI cJ cZ ad) A nL Q (sI σ 5 x) (pc + 3) lv st) : J p l e R s m args below meth c D (wM cI cJ cZ ad) A nL Q σ pc lv (.int x :: .ref (ad 0) :: st) := j_put (fty := .int) 0 23 C inTX7 tyX7 tyX7_ok nmX7 (r_wM_0 (σ := σ)) rfl (by decide) mf_X7_250 rfl rfl (by decide +kernel) rfl rfl (Nat.le_of_ble_eq_true rfl) rfl hd K
theorem gf_X7_63 (C : Cx p s m args meth c D (tys cI cJ cZ) (wM cI cJ cZ ad) A cc nL RX7 ret) (hd : decode cc pc = .ok (.getfield 63, 3)) (K : J p l e R s m args below meth c D (wM cI cJ cZ ad) A nL Q σ (pc + 3) lv (.ref (ad 18) :: st)) : J p l e R s m args below meth c D (wM cI cJ cZ ad) A nL Q σ pc lv (.ref (ad 0) :: st) := j_get 0 24 C inTX7 (r_wM_0 (σ := σ)) rfl (by decide) mf_X7_63 (Or.inl rfl) rfl hd K
theorem gf_X7_66 (C : Cx p s m args meth c D (tys cI cJ cZ) (wM cI cJ cZ ad) A cc nL RX7 ret) (hd : decode cc pc = .ok (.getfield 66, 3)) (K : J p l e R s m args below meth c D (wM cI cJ cZ ad) A nL Q σ (pc + 3) lv (.ref (ad 19) :: st)) : J p l e R s m args below meth c D (wM cI cJ cZ ad) A nL Q σ pc lv (.ref (ad 0) :: st) := j_get 0 25 C inTX7 (r_wM_0 (σ := σ)) rfl (by decide) mf_X7_66 (Or.inl rfl) rfl hd K
theorem gf_X7_69 (C : Cx p s m args meth c D (tys cI cJ cZ) (wM cI cJ cZ ad) A cc nL RX7 ret) (hd : decode cc pc = .ok (.getfield 69, 3)) (K : J p l e R s m args below meth c D (wM cI cJ cZ ad) A nL Q σ (pc + 3) lv (.ref (ad 20) :: st)) : J p l e R s m args below meth c D (wM cI cJ cZ ad) A nL Q σ pc lv (.ref (ad 0) :: st) := j_get 0 26 C inTX7 (r_wM_0 (σ := σ)) rfl (by decide) mf_X7_69 (Or.inl rfl) rfl hd K
theorem gf_X7_72 (C : Cx p s m args meth c D (tys cI cJ cZ) (wM cI cJ cZ ad) A cc nL RX7 ret) (hd : decode cc pc = .ok (.getfield 72, 3)) (K : J p l e R s m args below meth c D (wM cI cJ cZ ad) A nL Q σ (pc + 3) lv (.ref (ad 21) :: st)) : J p l e R s m args below meth c D (wM cI cJ cZ ad) A nL Q σ pc lv (.ref (ad 0) :: st) := j_get 0 27 C inTX7 (r_wM_0 (σ := σ)) rfl (by decide) mf_X7_72 (Or.inl rfl) rfl hd K
theorem gf_X7_75 (C : Cx p s m args meth c D (tys cI cJ cZ) (wM cI cJ cZ ad) A cc nL RX7 ret) (hd : decode cc pc = .ok (.getfield 75, 3)) (K : J p l e R s m args below meth c D (wM cI cJ cZ ad) A nL Q σ (pc + 3) lv (.ref (ad 22) :: st)) : J p l e R s m args below meth c D (wM cI cJ cZ ad) A nL Q σ pc lv (.ref (ad 0) :: st) := j_get 0 28 C inTX7 (r_wM_0 (σ := σ)) rfl (by decide) mf_X7_75 (Or.inl rfl) rfl hd K
theorem gf_X7_78 (C : Cx p s m args meth c D (tys cI cJ cZ) (wM cI cJ cZ ad) A cc nL RX7 ret) (hd : decode cc pc = .ok (.getfield 78, 3)) (K : J p l e R s m args below meth c D (wM cI cJ cZ ad) A nL Q σ (pc + 3) lv (.ref (ad 23) :: st)) : J p l e R s m args below meth c D (wM cI cJ cZ ad) A nL Q σ pc lv (.ref (ad 0) :: st) := j_get 0 29 C inTX7 (r_wM_0 (σ := σ)) rfl (by decide) mf_X7_78 (Or.inl rfl) rfl hd K
theorem gf_X7_81 (C : Cx p s m args meth c D (tys cI cJ cZ) (wM cI cJ cZ ad) A cc nL RX7 ret) (hd : decode cc pc = .ok (.getfield 81, 3)) (K : J p l e R s m args below meth c D (wM cI cJ cZ ad) A nL Q σ (pc + 3) lv (.ref (ad 24) :: st)) : J p l e R s m args below meth c D (wM cI cJ cZ ad) A nL Q σ pc lv (.ref (ad 0) :: st) := j_get 0 30 C inTX7 (r_wM_0 (σ := σ)) rfl (by decide) mf_X7_81 (Or.inl rfl) rfl hd K
theorem gf_X7_253 (C : Cx p s m args meth c D (tys cI cJ cZ) (wM cI cJ cZ ad) A cc nL RX7 ret) (hd : decode cc pc = .ok (.getfield 253, 3)) (K : J p l e R s m args below meth c D (wM cI cJ cZ ad) A nL Q σ (pc + 3) lv (.int (gI σ 6) :: st)) : J p l e R s m args below meth c D (wM cI cJ cZ ad) A nL Q σ pc lv (.ref (ad 0) :: st) := j_get 0 31 C inTX7 (r_wM_0 (σ := σ)) rfl (by decide) mf_X7_253 (Or.inl rfl) rfl hd K
theorem pf_X7_253 {x : Int32} (C : Cx p s m args meth c D (tys cI cJ cZ) (wM cI cJ cZ ad) A cc nL RX7 ret) (hd : decode cc pc = .ok (.putfield 253, 3)) (K : J p l e R s m args below meth c D (wM cI cJ cZ ad) A nL Q (sI σ 6 x) (pc + 3) lv st) : J p l e R s m args below meth c D (wM cI cJ cZ ad) A nL Q σ pc lv (.int x :: .ref (ad 0) :: st) := j_put (fty := .int) 0 31 C inTX7 tyX7 tyX7_ok nmX7 (r_wM_0 (σ := σ)) rfl (by decide) mf_X7_253 rfl rfl (by decide +kernel) rfl rfl (Nat.le_of_ble_eq_true rfl) rfl hd K
theorem gf_X7_84 (C : Cx p s m args meth c D (tys cI cJ cZ) (wM cI cJ cZ ad) A cc nL RX7 ret) (hd : decode cc pc = .ok (.getfield 84, 3)) (K : J p l e R s m args below meth c D (wM cI cJ cZ ad) A nL Q σ (pc + 3) lv (.ref (ad 25) :: st)) : J p l e R s m args below meth c D (wM cI cJ cZ ad) A nL Q σ pc lv (.ref (ad 0) :: st) := j_get 0 32 C inTX7 (r_wM_0 (σ := σ)) rfl (by decide) mf_X7_84 (Or.inl rfl) rfl hd K
theorem gf_X7_87 (C : Cx p s m args meth c D (tys cI cJ cZ) (wM cI cJ cZ ad) A cc nL RX7 ret) (hd : decode cc pc = .ok (.getfield 87, 3)) (K : J p l e R s m args below meth c D (wM cI cJ cZ ad) A nL Q σ (pc + 3) lv (.ref (ad 26) :: st)) : J p l e R s m args below meth c D (wM cI cJ cZ ad) A nL Q σ pc lv (.ref (ad 0) :: st) := j_get 0 33 C inTX7 (r_wM_0 (σ := σ)) rfl (by decide) mf_X7_87 (Or.inl rfl) rfl hd K
theorem gf_X7_216 (C : Cx p s m args meth c D (tys cI cJ cZ) (wM cI cJ cZ ad) A cc nL RX7 ret) (hd : decode cc pc = .ok (.getfield 216, 3)) (K : J p l e R s m args below meth c D (wM cI cJ cZ ad) A nL Q σ (pc + 3) lv (.int (gI σ 7) :: st)) : J p l e R s m args below meth c D (wM cI cJ cZ ad) A nL Q σ pc lv (.ref (ad 0) :: st) := j_get 0 34 C inTX7 (r_wM_0 (σ := σ)) rfl (by decide) mf_X7_216 (Or.inl rfl) rfl hd K
theorem pf_X7_216 {x : Int32} (C : Cx p s m args meth c D (tys cI cJ cZ) (wM cI cJ cZ ad) A cc nL RX7 ret) (hd : decode cc pc = .ok (.putfield 216, 3)) (K : J p l e R s m args below meth c D (wM cI cJ cZ ad) A nL Q (sI σ 7 x) (pc + 3) lv st) : J p l e R s m args below meth c D (wM cI cJ cZ ad) A nL Q σ pc lv (.int x :: .ref (ad 0) :: st) := j_put (fty := .int) 0 34 C inTX7 tyX7 tyX7_ok nmX7 (r_wM_0 (σ := σ)) rfl (by decide) mf_X7_216 rfl rfl (by decide +kernel) rfl rfl (Nat.le_of_ble_eq_true rfl) rfl hd K
theorem gf_X7_219 (C : Cx p s m args meth c D (tys cI cJ cZ) (wM cI cJ cZ ad) A cc nL RX7 ret) (hd : decode cc pc = .ok (.getfield 219, 3)) (K : J p l e R s m args below meth c D (wM cI cJ cZ ad) A nL Q σ (pc + 3) lv (.int (gI σ 8) :: st)) : J p l e R s m args below meth c D (wM cI cJ cZ ad) A nL Q σ pc lv (.ref (ad 0) :: st) := j_get 0 35 C inTX7 (r_wM_0 (σ := σ)) rfl (by decide) mf_X7_219 (Or.inl rfl) rfl hd K
theorem pf_X7_219 {x : Int32} (C : Cx p s m args meth c D (tys cI cJ cZ) (wM cI cJ cZ ad) A cc nL RX7 ret) (hd : decode cc pc = .ok (.putfield 219, 3)) (K : J p l e R s m args below meth c D (wM cI cJ cZ ad) A nL Q (sI σ 8 x) (pc + 3) lv st) : J p l e R s m args below meth c D (wM cI cJ cZ ad) A nL Q σ pc lv (.int x :: .ref (ad 0) :: st) := j_put (fty := .int) 0 35 C inTX7 tyX7 tyX7_ok nmX7 (r_wM_0 (σ := σ)) rfl (by decide) mf_X7_219 rfl rfl (by decide +kernel) rfl rfl (Nat.le_of_ble_eq_true rfl) rfl hd K
theorem gf_X7_222 (C : Cx p s m args meth c D (tys cI cJ cZ) (wM cI cJ cZ ad) A cc nL RX7 ret) (hd : decode cc pc = .ok (.getfield 222, 3)) (K : J p l e R s m args below meth c D (wM cI cJ cZ ad) A nL Q σ (pc + 3) lv (.int (gI σ 9) :: st)) : J p l e R s m args below meth c D (wM cI cJ cZ ad) A nL Q σ pc lv (.ref (ad 0) :: st) := j_get 0 36 C inTX7 (r_wM_0 (σ := σ)) rfl (by decide) mf_X7_222 (Or.inl rfl) rfl hd K
theorem pf_X7_222 {x : Int32} (C : Cx p s m args meth c D (tys cI cJ cZ) (wM cI cJ cZ ad) A cc nL RX7 ret) (hd : decode cc pc = .ok (.putfield 222, 3)) (K : J p l e R s m args below meth c D (wM cI cJ cZ ad) A nL Q (sI σ 9 x) (pc + 3) lv st) : J p l e R s m args below meth c D (wM cI cJ cZ ad) A nL Q σ pc lv (.int x :: .ref (ad 0) :: st) := j_put (fty := .int) 0 36 C inTX7 tyX7 tyX7_ok nmX7 (r_wM_0 (σ := σ)) rfl (by decide) mf_X7_222 rfl rfl (by decide +kernel) rfl rfl (Nat.le_of_ble_eq_true rfl) rfl hd K
theorem gf_X7_225 (C : Cx p s m args meth c D (tys cI cJ cZ) (wM cI cJ cZ ad) A cc nL RX7 ret) (hd : decode cc pc = .ok (.getfield 225, 3)) (K : J p l e R s m args below meth c D (wM cI cJ cZ ad) A nL Q σ (pc + 3) lv (.int (gI σ 10) :: st)) : J p l e R s m args below meth c D (wM cI cJ cZ ad) A nL Q σ pc lv (.ref (ad 0) :: st) := j_get 0 37 C inTX7 (r_wM_0 (σ := σ)) rfl (by decide) mf_X7_225 (Or.inl rfl) rfl hd K
theorem pf_X7_225 {x : Int32} (C : Cx p s m args meth c D (tys cI cJ cZ) (wM cI cJ cZ ad) A cc nL RX7 ret) (hd : decode cc pc = .ok (.putfield 225, 3)) (K : J p l e R s m args below meth c D (wM cI cJ cZ ad) A nL Q (sI σ 10 x) (pc + 3) lv st) : J p l e R s m args below meth c D (wM cI cJ cZ ad) A nL Q σ pc lv (.int x :: .ref (ad 0) :: st) := j_put (fty := .int) 0 37 C inTX7 tyX7 tyX7_ok nmX7 (r_wM_0 (σ := σ)) rfl (by decide) mf_X7_225 rfl rfl (by decide +kernel) rfl rfl (Nat.le_of_ble_eq_true rfl) rfl hd K
theorem gf_X7_228 (C : Cx p s m args meth c D (tys cI cJ cZ) (wM cI cJ cZ ad) A cc nL RX7 ret) (hd : decode cc pc = .ok (.getfield 228, 3)) (K : J p l e R s m args below meth c D (wM cI cJ cZ ad) A nL Q σ (pc + 3) lv (.int (gI σ 11) :: st)) : J p l e R s m args below meth c D (wM cI cJ cZ ad) A nL Q σ pc lv (.ref (ad 0) :: st) := j_get 0 38 C inTX7 (r_wM_0 (σ := σ)) rfl (by decide) mf_X7_228 (Or.inl rfl) rfl hd K
theorem pf_X7_228 {x : Int32} (C : Cx p s m args meth c D (tys cI cJ cZ) (wM cI cJ cZ ad) A cc nL RX7 ret) (hd : decode cc pc = .ok (.putfield 228, 3)) (K : J p l e R s m args below meth c D (wM cI cJ cZ ad) A nL Q (sI σ 11 x) (pc + 3) lv st) : J p l e R s m args below meth c D (wM cI cJ cZ ad) A nL Q σ pc lv (.int x :: .ref (ad 0) :: st) := j_put (fty := .int) 0 38 C inTX7 tyX7 tyX7_ok nmX7 (r_wM_0 (σ := σ)) rfl (by decide) mf_X7_228 rfl rfl (by decide +kernel) rfl rfl (Nat.le_of_ble_eq_true rfl) rfl hd K
theorem gf_X7_207 (C : Cx p s m args meth c D (tys cI cJ cZ) (wM cI cJ cZ ad) A cc nL RX7 ret) (hd : decode cc pc = .ok (.getfield 207, 3)) (K : J p l e R s m args below meth c D (wM cI cJ cZ ad) A nL Q σ (pc + 3) lv (.int (gI σ 12) :: st)) : J p l e R s m args below meth c D (wM cI cJ cZ ad) A nL Q σ pc lv (.ref (ad 0) :: st) := j_get 0 39 C inTX7 (r_wM_0 (σ := σ)) rfl (by decide) mf_X7_207 (Or.inl rfl) rfl hd K
theorem pf_X7_207 {x : Int32} (C : Cx p s m args meth c D (tys cI cJ cZ) (wM cI cJ cZ ad) A cc nL RX7 ret) (hd : decode cc pc = .ok (.putfield 207, 3)) (K : J p l e R s m args below meth c D (wM cI cJ cZ ad) A nL Q (sI σ 12 x) (pc + 3) lv st) : J p l e R s m args below meth c D (wM cI cJ cZ ad) A nL Q σ pc lv (.int x :: .ref (ad 0) :: st) := j_put (fty := .int) 0 39 C inTX7 tyX7 tyX7_ok nmX7 (r_wM_0 (σ := σ)) rfl (by decide) mf_X7_207 rfl rfl (by decide +kernel) rfl rfl (Nat.le_of_ble_eq_true rfl) rfl hd K
theorem gf_X7_210 (C : Cx p s m args meth c D (tys cI cJ cZ) (wM cI cJ cZ ad) A cc nL RX7 ret) (hd : decode cc pc = .ok (.getfield 210, 3)) (K : J p l e R s m args below meth c D (wM cI cJ cZ ad) A nL Q σ (pc + 3) lv (.int (gI σ 13) :: st)) : J p l e R s m args below meth c D (wM cI cJ cZ ad) A nL Q σ pc lv (.ref (ad 0) :: st) := j_get 0 40 C inTX7 (r_wM_0 (σ := σ)) rfl (by decide) mf_X7_210 (Or.inl rfl) rfl hd K
theorem pf_X7_210 {x : Int32} (C : Cx p s m args meth c D (tys cI cJ cZ) (wM cI cJ cZ ad) A cc nL RX7 ret) (hd : decode cc pc = .ok (.putfield 210, 3)) (K : J p l e R s m args below meth c D (wM cI cJ cZ ad) A nL Q (sI σ 13 x) (pc + 3) lv st) : J p l e R s m args below meth c D (wM cI cJ cZ ad) A nL Q σ pc lv (.int x :: .ref (ad 0) :: st) := j_put (fty := .int) 0 40 C inTX7 tyX7 tyX7_ok nmX7 (r_wM_0 (σ := σ)) rfl (by decide) mf_X7_210 rfl rfl (by decide +kernel) rfl rfl (Nat.le_of_ble_eq_true rfl) rfl hd K
theorem gf_X7_213 (C : Cx p s m args meth c D (tys cI cJ cZ) (wM cI cJ cZ ad) A cc nL RX7 ret) (hd : decode cc pc = .ok (.getfield 213, 3)) (K : J p l e R s m args below meth c D (wM cI cJ cZ ad) A nL Q σ (pc + 3) lv (.int (gI σ 14) :: st)) : J p l e R s m args below meth c D (wM cI cJ cZ ad) A nL Q σ pc lv (.ref (ad 0) :: st) := j_get 0 41 C inTX7 (r_wM_0 (σ := σ)) rfl (by decide) mf_X7_213 (Or.inl rfl) rfl hd K
theorem pf_X7_213 {x : Int32} (C : Cx p s m args meth c D (tys cI cJ cZ) (wM cI cJ cZ ad) A cc nL RX7 ret) (hd : decode cc pc = .ok (.putfield 213, 3)) (K : J p l e R s m args below meth c D (wM cI cJ cZ ad) A nL Q (sI σ 14 x) (pc + 3) lv st) : J p l e R s m args below meth c D (wM cI cJ cZ ad) A nL Q σ pc lv (.int x :: .ref (ad 0) :: st) := j_put (fty := .int) 0 41 C inTX7 tyX7 tyX7_ok nmX7 (r_wM_0 (σ := σ)) rfl (by decide) mf_X7_213 rfl rfl (by decide +kernel) rfl rfl (Nat.le_of_ble_eq_true rfl) rfl hd K
theorem gf_X7_203 (C : Cx p s m args meth c D (tys cI cJ cZ) (wM cI cJ cZ ad) A cc nL RX7 ret) (hd : decode cc pc = .ok (.getfield 203, 3)) (K : J p l e R s m args below meth c D (wM cI cJ cZ ad) A nL Q σ (pc + 3) lv (.int (gI σ 15) :: st)) : J p l e R s m args below meth c D (wM cI cJ cZ ad) A nL Q σ pc lv (.ref (ad 0) :: st) := j_get 0 42 C inTX7 (r_wM_0 (σ := σ)) rfl (by decide) mf_X7_203 (Or.inl rfl) rfl hd K
theorem pf_X7_203 {x : Int32} (C : Cx p s m args meth c D (tys cI cJ cZ) (wM cI cJ cZ ad) A cc nL RX7 ret) (hb : narrow .boolean (.int x) = .int x) (hb2 : fits .boolean (.int x) = true) (hd : decode cc pc = .ok (.putfield 203, 3)) (K : J p l e R s m args below meth c D (wM cI cJ cZ ad) A nL Q (sI σ 15 x) (pc + 3) lv st) : J p l e R s m args below meth c D (wM cI cJ cZ ad) A nL Q σ pc lv (.int x :: .ref (ad 0) :: st) := j_put (fty := .boolean) 0 42 C inTX7 tyX7 tyX7_ok nmX7 (r_wM_0 (σ := σ)) rfl (by decide) mf_X7_203 rfl rfl (by decide +kernel) hb hb2 (Nat.le_of_ble_eq_true rfl) rfl hd K
theorem al_wM_1 {i : Int32} (C : Cx p s m args meth c D (tys cI cJ cZ) (wM cI cJ cZ ad) A cc nL own ret) (hin : vp_in i 40) (hd : decode cc pc = .ok (.iaload, 1)) (K : J p l e R s m args below meth c D (wM cI cJ cZ ad) A nL Q σ (pc + 1) lv (.int (gA σ 0 i.toNatClampNeg) :: st)) : J p l e R s m args below meth c D (wM cI cJ cZ ad) A nL Q σ pc lv (.int i :: .ref (ad 1) :: st) := j_iald 1 0 C rfl rfl hin hd K
theorem as_wM_1 {i x : Int32} (C : Cx p s m args meth c D (tys cI cJ cZ) (wM cI cJ cZ ad) A cc nL own ret) (hin : vp_in i 40) (hd : decode cc pc = .ok (.iastore, 1)) (K : J p l e R s m args below meth c D (wM cI cJ cZ ad) A nL Q (sA σ 0 i.toNatClampNeg x) (pc + 1) lv st) : J p l e R s m args below meth c D (wM cI cJ cZ ad) A nL Q σ pc lv (.int x :: .int i :: .ref (ad 1) :: st) := j_iast (f := gA σ 0) 1 0 C rfl rfl rfl hin hd K
theorem al_wM_2 {i : Int32} (C : Cx p s m args meth c D (tys cI cJ cZ) (wM cI cJ cZ ad) A cc nL own ret) (hin : vp_in i 2560) (hd : decode cc pc = .ok (.laload, 1)) (K : J p l e R s m args below meth c D (wM cI cJ cZ ad) A nL Q σ (pc + 1) lv (.long (gB σ 0 i.toNatClampNeg) :: st)) : J p l e R s m args below meth c D (wM cI cJ cZ ad) A nL Q σ pc lv (.int i :: .ref (ad 2) :: st) := j_lald 2 1 C rfl rfl hin hd K
theorem as_wM_2 {i : Int32} {x : Int64} (C : Cx p s m args meth c D (tys cI cJ cZ) (wM cI cJ cZ ad) A cc nL own ret) (hin : vp_in i 2560) (hd : decode cc pc = .ok (.lastore, 1)) (K : J p l e R s m args below meth c D (wM cI cJ cZ ad) A nL Q (sB σ 0 i.toNatClampNeg x) (pc + 1) lv st) : J p l e R s m args below meth c D (wM cI cJ cZ ad) A nL Q σ pc lv (.long x :: .int i :: .ref (ad 2) :: st) := j_last (f := gB σ 0) 2 1 C rfl rfl rfl hin hd K
theorem al_wM_3 {i : Int32} (C : Cx p s m args meth c D (tys cI cJ cZ) (wM cI cJ cZ ad) A cc nL own ret) (hin : vp_in i 2560) (hd : decode cc pc = .ok (.iaload, 1)) (K : J p l e R s m args below meth c D (wM cI cJ cZ ad) A nL Q σ (pc + 1) lv (.int (gA σ 1 i.toNatClampNeg) :: st)) : J p l e R s m args below meth c D (wM cI cJ cZ ad) A nL Q σ pc lv (.int i :: .ref (ad 3) :: st) := j_iald 3 0 C rfl rfl hin hd K
theorem as_wM_3 {i x : Int32} (C : Cx p s m args meth c D (tys cI cJ cZ) (wM cI cJ cZ ad) A cc nL own ret) (hin : vp_in i 2560) (hd : decode cc pc = .ok (.iastore, 1)) (K : J p l e R s m args below meth c D (wM cI cJ cZ ad) A nL Q (sA σ 1 i.toNatClampNeg x) (pc + 1) lv st) : J p l e R s m args below meth c D (wM cI cJ cZ ad) A nL Q σ pc lv (.int x :: .int i :: .ref (ad 3) :: st) := j_iast (f := gA σ 1) 3 0 C rfl rfl rfl hin hd K
theorem al_wM_4 {i : Int32} (C : Cx p s m args meth c D (tys cI cJ cZ) (wM cI cJ cZ ad) A cc nL own ret) (hin : vp_in i 2560) (hd : decode cc pc = .ok (.iaload, 1)) (K : J p l e R s m args below meth c D (wM cI cJ cZ ad) A nL Q σ (pc + 1) lv (.int (gA σ 2 i.toNatClampNeg) :: st)) : J p l e R s m args below meth c D (wM cI cJ cZ ad) A nL Q σ pc lv (.int i :: .ref (ad 4) :: st) := j_iald 4 0 C rfl rfl hin hd K
theorem as_wM_4 {i x : Int32} (C : Cx p s m args meth c D (tys cI cJ cZ) (wM cI cJ cZ ad) A cc nL own ret) (hin : vp_in i 2560) (hd : decode cc pc = .ok (.iastore, 1)) (K : J p l e R s m args below meth c D (wM cI cJ cZ ad) A nL Q (sA σ 2 i.toNatClampNeg x) (pc + 1) lv st) : J p l e R s m args below meth c D (wM cI cJ cZ ad) A nL Q σ pc lv (.int x :: .int i :: .ref (ad 4) :: st) := j_iast (f := gA σ 2) 4 0 C rfl rfl rfl hin hd K
theorem al_wM_5 {i : Int32} (C : Cx p s m args meth c D (tys cI cJ cZ) (wM cI cJ cZ ad) A cc nL own ret) (hin : vp_in i 8) (hd : decode cc pc = .ok (.iaload, 1)) (K : J p l e R s m args below meth c D (wM cI cJ cZ ad) A nL Q σ (pc + 1) lv (.int (gA σ 3 i.toNatClampNeg) :: st)) : J p l e R s m args below meth c D (wM cI cJ cZ ad) A nL Q σ pc lv (.int i :: .ref (ad 5) :: st) := j_iald 5 0 C rfl rfl hin hd K
theorem as_wM_5 {i x : Int32} (C : Cx p s m args meth c D (tys cI cJ cZ) (wM cI cJ cZ ad) A cc nL own ret) (hin : vp_in i 8) (hd : decode cc pc = .ok (.iastore, 1)) (K : J p l e R s m args below meth c D (wM cI cJ cZ ad) A nL Q (sA σ 3 i.toNatClampNeg x) (pc + 1) lv st) : J p l e R s m args below meth c D (wM cI cJ cZ ad) A nL Q σ pc lv (.int x :: .int i :: .ref (ad 5) :: st) := j_iast (f := gA σ 3) 5 0 C rfl rfl rfl hin hd K
theorem al_wM_6 {i : Int32} (C : Cx p s m args meth c D (tys cI cJ cZ) (wM cI cJ cZ ad) A cc nL own ret) (hin : vp_in i 8) (hd : decode cc pc = .ok (.laload, 1)) (K : J p l e R s m args below meth c D (wM cI cJ cZ ad) A nL Q σ (pc + 1) lv (.long (gB σ 1 i.toNatClampNeg) :: st)) : J p l e R s m args below meth c D (wM cI cJ cZ ad) A nL Q σ pc lv (.int i :: .ref (ad 6) :: st) := j_lald 6 1 C rfl rfl hin hd K
theorem as_wM_6 {i : Int32} {x : Int64} (C : Cx p s m args meth c D (tys cI cJ cZ) (wM cI cJ cZ ad) A cc nL own ret) (hin : vp_in i 8) (hd : decode cc pc = .ok (.lastore, 1)) (K : J p l e R s m args below meth c D (wM cI cJ cZ ad) A nL Q (sB σ 1 i.toNatClampNeg x) (pc + 1) lv st) : J p l e R s m args below meth c D (wM cI cJ cZ ad) A nL Q σ pc lv (.long x :: .int i :: .ref (ad 6) :: st) := j_last (f := gB σ 1) 6 1 C rfl rfl rfl hin hd K
theorem al_wM_7 {i : Int32} (C : Cx p s m args meth c D (tys cI cJ cZ) (wM cI cJ cZ ad) A cc nL own ret) (hin : vp_in i 100) (hd : decode cc pc = .ok (.iaload, 1)) (K : J p l e R s m args below meth c D (wM cI cJ cZ ad) A nL Q σ (pc + 1) lv (.int (gA σ 4 i.toNatClampNeg) :: st)) : J p l e R s m args below meth c D (wM cI cJ cZ ad) A nL Q σ pc lv (.int i :: .ref (ad 7) :: st) := j_iald 7 0 C rfl rfl hin hd K
theorem as_wM_7 {i x : Int32} (C : Cx p s m args meth c D (tys cI cJ cZ) (wM cI cJ cZ ad) A cc nL own ret) (hin : vp_in i 100) (hd : decode cc pc = .ok (.iastore, 1)) (K : J p l e R s m args below meth c D (wM cI cJ cZ ad) A nL Q (sA σ 4 i.toNatClampNeg x) (pc + 1) lv st) : J p l e R s m args below meth c D (wM cI cJ cZ ad) A nL Q σ pc lv (.int x :: .int i :: .ref (ad 7) :: st) := j_iast (f := gA σ 4) 7 0 C rfl rfl rfl hin hd K
theorem al_wM_8 {i : Int32} (C : Cx p s m args meth c D (tys cI cJ cZ) (wM cI cJ cZ ad) A cc nL own ret) (hin : vp_in i 100) (hd : decode cc pc = .ok (.baload, 1)) (K : J p l e R s m args below meth c D (wM cI cJ cZ ad) A nL Q σ (pc + 1) lv (.int (gA σ 5 i.toNatClampNeg) :: st)) : J p l e R s m args below meth c D (wM cI cJ cZ ad) A nL Q σ pc lv (.int i :: .ref (ad 8) :: st) := j_zald 8 2 C rfl rfl hin hd K
theorem as_wM_8 {i x : Int32} (C : Cx p s m args meth c D (tys cI cJ cZ) (wM cI cJ cZ ad) A cc nL own ret) (hin : vp_in i 100) (hd : decode cc pc = .ok (.bastore, 1)) (K : J p l e R s m args below meth c D (wM cI cJ cZ ad) A nL Q (sA σ 5 i.toNatClampNeg (vp_nar .boolean x)) (pc + 1) lv st) : J p l e R s m args below meth c D (wM cI cJ cZ ad) A nL Q σ pc lv (.int x :: .int i :: .ref (ad 8) :: st) := j_zast (f := gA σ 5) 8 2 C rfl rfl rfl hin hd K
theorem al_wM_9 {i : Int32} (C : Cx p s m args meth c D (tys cI cJ cZ) (wM cI cJ cZ ad) A cc nL own ret) (hin : vp_in i 100) (hd : decode cc pc = .ok (.iaload, 1)) (K : J p l e R s m args below meth c D (wM cI cJ cZ ad) A nL Q σ (pc + 1) lv (.int (gA σ 6 i.toNatClampNeg) :: st)) : J p l e R s m args below meth c D (wM cI cJ cZ ad) A nL Q σ pc lv (.int i :: .ref (ad 9) :: st) := j_iald 9 0 C rfl rfl hin hd K
theorem as_wM_9 {i x : Int32} (C : Cx p s m args meth c D (tys cI cJ cZ) (wM cI cJ cZ ad) A cc nL own ret) (hin : vp_in i 100) (hd : decode cc pc = .ok (.iastore, 1)) (K : J p l e R s m args below meth c D (wM cI cJ cZ ad) A nL Q (sA σ 6 i.toNatClampNeg x) (pc + 1) lv st) : J p l e R s m args below meth c D (wM cI cJ cZ ad) A nL Q σ pc lv (.int x :: .int i :: .ref (ad 9) :: st) := j_iast (f := gA σ 6) 9 0 C rfl rfl rfl hin hd K
theorem al_wM_10 {i : Int32} (C : Cx p s m args meth c D (tys cI cJ cZ) (wM cI cJ cZ ad) A cc nL own ret) (hin : vp_in i 100) (hd : decode cc pc = .ok (.iaload, 1)) (K : J p l e R s m args below meth c D (wM cI cJ cZ ad) A nL Q σ (pc + 1) lv (.int (gA σ 7 i.toNatClampNeg) :: st)) : J p l e R s m args below meth c D (wM cI cJ cZ ad) A nL Q σ pc lv (.int i :: .ref (ad 10) :: st) := j_iald 10 0 C rfl rfl hin hd K
theorem as_wM_10 {i x : Int32} (C : Cx p s m args meth c D (tys cI cJ cZ) (wM cI cJ cZ ad) A cc nL own ret) (hin : vp_in i 100) (hd : decode cc pc = .ok (.iastore, 1)) (K : J p l e R s m args below meth c D (wM cI cJ cZ ad) A nL Q (sA σ 7 i.toNatClampNeg x) (pc + 1) lv st) : J p l e R s m args below meth c D (wM cI cJ cZ ad) A nL Q σ pc lv (.int x :: .int i :: .ref (ad 10) :: st) := j_iast (f := gA σ 7) 10 0 C rfl rfl rfl hin hd K
theorem al_wM_11 {i : Int32} (C : Cx p s m args meth c D (tys cI cJ cZ) (wM cI cJ cZ ad) A cc nL own ret) (hin : vp_in i 100) (hd : decode cc pc = .ok (.iaload, 1)) (K : J p l e R s m args below meth c D (wM cI cJ cZ ad) A nL Q σ (pc + 1) lv (.int (gA σ 8 i.toNatClampNeg) :: st)) : J p l e R s m args below meth c D (wM cI cJ cZ ad) A nL Q σ pc lv (.int i :: .ref (ad 11) :: st) := j_iald 11 0 C rfl rfl hin hd K
theorem as_wM_11 {i x : Int32} (C : Cx p s m args meth c D (tys cI cJ cZ) (wM cI cJ cZ ad) A cc nL own ret) (hin : vp_in i 100) (hd : decode cc pc = .ok (.iastore, 1)) (K : J p l e R s m args below meth c D (wM cI cJ cZ ad) A nL Q (sA σ 8 i.toNatClampNeg x) (pc + 1) lv st) : J p l e R s m args below meth c D (wM cI cJ cZ ad) A nL Q σ pc lv (.int x :: .int i :: .ref (ad 11) :: st) := j_iast (f := gA σ 8) 11 0 C rfl rfl rfl hin hd K
theorem al_wM_12 {i : Int32} (C : Cx p s m args meth c D (tys cI cJ cZ) (wM cI cJ cZ ad) A cc nL own ret) (hin : vp_in i 4) (hd : decode cc pc = .ok (.iaload, 1)) (K : J p l e R s m args below meth c D (wM cI cJ cZ ad) A nL Q σ (pc + 1) lv (.int (gA σ 9 i.toNatClampNeg) :: st)) : J p l e R s m args below meth c D (wM cI cJ cZ ad) A nL Q σ pc lv (.int i :: .ref (ad 12) :: st) := j_iald 12 0 C rfl rfl hin hd K
theorem as_wM_12 {i x : Int32} (C : Cx p s m args meth c D (tys cI cJ cZ) (wM cI cJ cZ ad) A cc nL own ret) (hin : vp_in i 4) (hd : decode cc pc = .ok (.iastore, 1)) (K : J p l e R s m args below meth c D (wM cI cJ cZ ad) A nL Q (sA σ 9 i.toNatClampNeg x) (pc + 1) lv st) : J p l e R s m args below meth c D (wM cI cJ cZ ad) A nL Q σ pc lv (.int x :: .int i :: .ref (ad 12) :: st) := j_iast (f := gA σ 9) 12 0 C rfl rfl rfl hin hd K
theorem al_wM_13 {i : Int32} (C : Cx p s m args meth c D (tys cI cJ cZ) (wM cI cJ cZ ad) A cc nL own ret) (hin : vp_in i 10) (hd : decode cc pc = .ok (.iaload, 1)) (K : J p l e R s m args below meth c D (wM cI cJ cZ ad) A nL Q σ (pc + 1) lv (.int (gA σ 10 i.toNatClampNeg) :: st)) : J p l e R s m args below meth c D (wM cI cJ cZ ad) A nL Q σ pc lv (.int i :: .ref (ad 13) :: st) := j_iald 13 0 C rfl rfl hin hd K
theorem as_wM_13 {i x : Int32} (C : Cx p s m args meth c D (tys cI cJ cZ) (wM cI cJ cZ ad) A cc nL own ret) (hin : vp_in i 10) (hd : decode cc pc = .ok (.iastore, 1)) (K : J p l e R s m args below meth c D (wM cI cJ cZ ad) A nL Q (sA σ 10 i.toNatClampNeg x) (pc + 1) lv st) : J p l e R s m args below meth c D (wM cI cJ cZ ad) A nL Q σ pc lv (.int x :: .int i :: .ref (ad 13) :: st) := j_iast (f := gA σ 10) 13 0 C rfl rfl rfl hin hd K
theorem al_wM_14 {i : Int32} (C : Cx p s m args meth c D (tys cI cJ cZ) (wM cI cJ cZ ad) A cc nL own ret) (hin : vp_in i 40) (hd : decode cc pc = .ok (.iaload, 1)) (K : J p l e R s m args below meth c D (wM cI cJ cZ ad) A nL Q σ (pc + 1) lv (.int (gA σ 11 i.toNatClampNeg) :: st)) : J p l e R s m args below meth c D (wM cI cJ cZ ad) A nL Q σ pc lv (.int i :: .ref (ad 14) :: st) := j_iald 14 0 C rfl rfl hin hd K
theorem as_wM_14 {i x : Int32} (C : Cx p s m args meth c D (tys cI cJ cZ) (wM cI cJ cZ ad) A cc nL own ret) (hin : vp_in i 40) (hd : decode cc pc = .ok (.iastore, 1)) (K : J p l e R s m args below meth c D (wM cI cJ cZ ad) A nL Q (sA σ 11 i.toNatClampNeg x) (pc + 1) lv st) : J p l e R s m args below meth c D (wM cI cJ cZ ad) A nL Q σ pc lv (.int x :: .int i :: .ref (ad 14) :: st) := j_iast (f := gA σ 11) 14 0 C rfl rfl rfl hin hd K
theorem al_wM_15 {i : Int32} (C : Cx p s m args meth c D (tys cI cJ cZ) (wM cI cJ cZ ad) A cc nL own ret) (hin : vp_in i 2560) (hd : decode cc pc = .ok (.laload, 1)) (K : J p l e R s m args below meth c D (wM cI cJ cZ ad) A nL Q σ (pc + 1) lv (.long (gB σ 2 i.toNatClampNeg) :: st)) : J p l e R s m args below meth c D (wM cI cJ cZ ad) A nL Q σ pc lv (.int i :: .ref (ad 15) :: st) := j_lald 15 1 C rfl rfl hin hd K
theorem as_wM_15 {i : Int32} {x : Int64} (C : Cx p s m args meth c D (tys cI cJ cZ) (wM cI cJ cZ ad) A cc nL own ret) (hin : vp_in i 2560) (hd : decode cc pc = .ok (.lastore, 1)) (K : J p l e R s m args below meth c D (wM cI cJ cZ ad) A nL Q (sB σ 2 i.toNatClampNeg x) (pc + 1) lv st) : J p l e R s m args below meth c D (wM cI cJ cZ ad) A nL Q σ pc lv (.long x :: .int i :: .ref (ad 15) :: st) := j_last (f := gB σ 2) 15 1 C rfl rfl rfl hin hd K
theorem al_wM_16 {i : Int32} (C : Cx p s m args meth c D (tys cI cJ cZ) (wM cI cJ cZ ad) A cc nL own ret) (hin : vp_in i 2560) (hd : decode cc pc = .ok (.iaload, 1)) (K : J p l e R s m args below meth c D (wM cI cJ cZ ad) A nL Q σ (pc + 1) lv (.int (gA σ 12 i.toNatClampNeg) :: st)) : J p l e R s m args below meth c D (wM cI cJ cZ ad) A nL Q σ pc lv (.int i :: .ref (ad 16) :: st) := j_iald 16 0 C rfl rfl hin hd K
theorem as_wM_16 {i x : Int32} (C : Cx p s m args meth c D (tys cI cJ cZ) (wM cI cJ cZ ad) A cc nL own ret) (hin : vp_in i 2560) (hd : decode cc pc = .ok (.iastore, 1)) (K : J p l e R s m args below meth c D (wM cI cJ cZ ad) A nL Q (sA σ 12 i.toNatClampNeg x) (pc + 1) lv st) : J p l e R s m args below meth c D (wM cI cJ cZ ad) A nL Q σ pc lv (.int x :: .int i :: .ref (ad 16) :: st) := j_iast (f := gA σ 12) 16 0 C rfl rfl rfl hin hd K
theorem al_wM_17 {i : Int32} (C : Cx p s m args meth c D (tys cI cJ cZ) (wM cI cJ cZ ad) A cc nL own ret) (hin : vp_in i 2560) (hd : decode cc pc = .ok (.iaload, 1)) (K : J p l e R s m args below meth c D (wM cI cJ cZ ad) A nL Q σ (pc + 1) lv (.int (gA σ 13 i.toNatClampNeg) :: st)) : J p l e R s m args below meth c D (wM cI cJ cZ ad) A nL Q σ pc lv (.int i :: .ref (ad 17) :: st) := j_iald 17 0 C rfl rfl hin hd K
theorem as_wM_17 {i x : Int32} (C : Cx p s m args meth c D (tys cI cJ cZ) (wM cI cJ cZ ad) A cc nL own ret) (hin : vp_in i 2560) (hd : decode cc pc = .ok (.iastore, 1)) (K : J p l e R s m args below meth c D (wM cI cJ cZ ad) A nL Q (sA σ 13 i.toNatClampNeg x) (pc + 1) lv st) : J p l e R s m args below meth c D (wM cI cJ cZ ad) A nL Q σ pc lv (.int x :: .int i :: .ref (ad 17) :: st) := j_iast (f := gA σ 13) 17 0 C rfl rfl rfl hin hd K
theorem al_wM_18 {i : Int32} (C : Cx p s m args meth c D (tys cI cJ cZ) (wM cI cJ cZ ad) A cc nL own ret) (hin : vp_in i 8) (hd : decode cc pc = .ok (.iaload, 1)) (K : J p l e R s m args below meth c D (wM cI cJ cZ ad) A nL Q σ (pc + 1) lv (.int (gA σ 14 i.toNatClampNeg) :: st)) : J p l e R s m args below meth c D (wM cI cJ cZ ad) A nL Q σ pc lv (.int i :: .ref (ad 18) :: st) := j_iald 18 0 C rfl rfl hin hd K
theorem as_wM_18 {i x : Int32} (C : Cx p s m args meth c D (tys cI cJ cZ) (wM cI cJ cZ ad) A cc nL own ret) (hin : vp_in i 8) (hd : decode cc pc = .ok (.iastore, 1)) (K : J p l e R s m args below meth c D (wM cI cJ cZ ad) A nL Q (sA σ 14 i.toNatClampNeg x) (pc + 1) lv st) : J p l e R s m args below meth c D (wM cI cJ cZ ad) A nL Q σ pc lv (.int x :: .int i :: .ref (ad 18) :: st) := j_iast (f := gA σ 14) 18 0 C rfl rfl rfl hin hd K
theorem al_wM_19 {i : Int32} (C : Cx p s m args meth c D (tys cI cJ cZ) (wM cI cJ cZ ad) A cc nL own ret) (hin : vp_in i 8) (hd : decode cc pc = .ok (.laload, 1)) (K : J p l e R s m args below meth c D (wM cI cJ cZ ad) A nL Q σ (pc + 1) lv (.long (gB σ 3 i.toNatClampNeg) :: st)) : J p l e R s m args below meth c D (wM cI cJ cZ ad) A nL Q σ pc lv (.int i :: .ref (ad 19) :: st) := j_lald 19 1 C rfl rfl hin hd K
theorem as_wM_19 {i : Int32} {x : Int64} (C : Cx p s m args meth c D (tys cI cJ cZ) (wM cI cJ cZ ad) A cc nL own ret) (hin : vp_in i 8) (hd : decode cc pc = .ok (.lastore, 1)) (K : J p l e R s m args below meth c D (wM cI cJ cZ ad) A nL Q (sB σ 3 i.toNatClampNeg x) (pc + 1) lv st) : J p l e R s m args below meth c D (wM cI cJ cZ ad) A nL Q σ pc lv (.long x :: .int i :: .ref (ad 19) :: st) := j_last (f := gB σ 3) 19 1 C rfl rfl rfl hin hd K
theorem al_wM_20 {i : Int32} (C : Cx p s m args meth c D (tys cI cJ cZ) (wM cI cJ cZ ad) A cc nL own ret) (hin : vp_in i 100) (hd : decode cc pc = .ok (.iaload, 1)) (K : J p l e R s m args below meth c D (wM cI cJ cZ ad) A nL Q σ (pc + 1) lv (.int (gA σ 15 i.toNatClampNeg) :: st)) : J p l e R s m args below meth c D (wM cI cJ cZ ad) A nL Q σ pc lv (.int i :: .ref (ad 20) :: st) := j_iald 20 0 C rfl rfl hin hd K
theorem as_wM_20 {i x : Int32} (C : Cx p s m args meth c D (tys cI cJ cZ) (wM cI cJ cZ ad) A cc nL own ret) (hin : vp_in i 100) (hd : decode cc pc = .ok (.iastore, 1)) (K : J p l e R s m args below meth c D (wM cI cJ cZ ad) A nL Q (sA σ 15 i.toNatClampNeg x) (pc + 1) lv st) : J p l e R s m args below meth c D (wM cI cJ cZ ad) A nL Q σ pc lv (.int x :: .int i :: .ref (ad 20) :: st) := j_iast (f := gA σ 15) 20 0 C rfl rfl rfl hin hd K
theorem al_wM_21 {i : Int32} (C : Cx p s m args meth c D (tys cI cJ cZ) (wM cI cJ cZ ad) A cc nL own ret) (hin : vp_in i 100) (hd : decode cc pc = .ok (.baload, 1)) (K : J p l e R s m args below meth c D (wM cI cJ cZ ad) A nL Q σ (pc + 1) lv (.int (gA σ 16 i.toNatClampNeg) :: st)) : J p l e R s m args below meth c D (wM cI cJ cZ ad) A nL Q σ pc lv (.int i :: .ref (ad 21) :: st) := j_zald 21 2 C rfl rfl hin hd K
theorem as_wM_21 {i x : Int32} (C : Cx p s m args meth c D (tys cI cJ cZ) (wM cI cJ cZ ad) A cc nL own ret) (hin : vp_in i 100) (hd : decode cc pc = .ok (.bastore, 1)) (K : J p l e R s m args below meth c D (wM cI cJ cZ ad) A nL Q (sA σ 16 i.toNatClampNeg (vp_nar .boolean x)) (pc + 1) lv st) : J p l e R s m args below meth c D (wM cI cJ cZ ad) A nL Q σ pc lv (.int x :: .int i :: .ref (ad 21) :: st) := j_zast (f := gA σ 16) 21 2 C rfl rfl rfl hin hd K
theorem al_wM_22 {i : Int32} (C : Cx p s m args meth c D (tys cI cJ cZ) (wM cI cJ cZ ad) A cc nL own ret) (hin : vp_in i 100) (hd : decode cc pc = .ok (.iaload, 1)) (K : J p l e R s m args below meth c D (wM cI cJ cZ ad) A nL Q σ (pc + 1) lv (.int (gA σ 17 i.toNatClampNeg) :: st)) : J p l e R s m args below meth c D (wM cI cJ cZ ad) A nL Q σ pc lv (.int i :: .ref (ad 22) :: st) := j_iald 22 0 C rfl rfl hin hd K
theorem as_wM_22 {i x : Int32} (C : Cx p s m args meth c D (tys cI cJ cZ) (wM cI cJ cZ ad) A cc nL own ret) (hin : vp_in i 100) (hd : decode cc pc = .ok (.iastore, 1)) (K : J p l e R s m args below meth c D (wM cI cJ cZ ad) A nL Q (sA σ 17 i.toNatClampNeg x) (pc + 1) lv st) : J p l e R s m args below meth c D (wM cI cJ cZ ad) A nL Q σ pc lv (.int x :: .int i :: .ref (ad 22) :: st) := j_iast (f := gA σ 17) 22 0 C rfl rfl rfl hin hd K
theorem al_wM_23 {i : Int32} (C : Cx p s m args meth c D (tys cI cJ cZ) (wM cI cJ cZ ad) A cc nL own ret) (hin : vp_in i 100) (hd : decode cc pc = .ok (.iaload, 1)) (K : J p l e R s m args below meth c D (wM cI cJ cZ ad) A nL Q σ (pc + 1) lv (.int (gA σ 18 i.toNatClampNeg) :: st)) : J p l e R s m args below meth c D (wM cI cJ cZ ad) A nL Q σ pc lv (.int i :: .ref (ad 23) :: st) := j_iald 23 0 C rfl rfl hin hd K
theorem as_wM_23 {i x : Int32} (C : Cx p s m args meth c D (tys cI cJ cZ) (wM cI cJ cZ ad) A cc nL own ret) (hin : vp_in i 100) (hd : decode cc pc = .ok (.iastore, 1)) (K : J p l e R s m args below meth c D (wM cI cJ cZ ad) A nL Q (sA σ 18 i.toNatClampNeg x) (pc + 1) lv st) : J p l e R s m args below meth c D (wM cI cJ cZ ad) A nL Q σ pc lv (.int x :: .int i :: .ref (ad 23) :: st) := j_iast (f := gA σ 18) 23 0 C rfl rfl rfl hin hd K
theorem al_wM_24 {i : Int32} (C : Cx p s m args meth c D (tys cI cJ cZ) (wM cI cJ cZ ad) A cc nL own ret) (hin : vp_in i 100) (hd : decode cc pc = .ok (.iaload, 1)) (K : J p l e R s m args below meth c D (wM cI cJ cZ ad) A nL Q σ (pc + 1) lv (.int (gA σ 19 i.toNatClampNeg) :: st)) : J p l e R s m args below meth c D (wM cI cJ cZ ad) A nL Q σ pc lv (.int i :: .ref (ad 24) :: st) := j_iald 24 0 C rfl rfl hin hd K
theorem as_wM_24 {i x : Int32} (C : Cx p s m args meth c D (tys cI cJ cZ) (wM cI cJ cZ ad) A cc nL own ret) (hin : vp_in i 100) (hd : decode cc pc = .ok (.iastore, 1)) (K : J p l e R s m args below meth c D (wM cI cJ cZ ad) A nL Q (sA σ 19 i.toNatClampNeg x) (pc + 1) lv st) : J p l e R s m args below meth c D (wM cI cJ cZ ad) A nL Q σ pc lv (.int x :: .int i :: .ref (ad 24) :: st) := j_iast (f := gA σ 19) 24 0 C rfl rfl rfl hin hd K
theorem al_wM_25 {i : Int32} (C : Cx p s m args meth c D (tys cI cJ cZ) (wM cI cJ cZ ad) A cc nL own ret) (hin : vp_in i 4) (hd : decode cc pc = .ok (.iaload, 1)) (K : J p l e R s m args below meth c D (wM cI cJ cZ ad) A nL Q σ (pc + 1) lv (.int (gA σ 20 i.toNatClampNeg) :: st)) : J p l e R s m args below meth c D (wM cI cJ cZ ad) A nL Q σ pc lv (.int i :: .ref (ad 25) :: st) := j_iald 25 0 C rfl rfl hin hd K
theorem as_wM_25 {i x : Int32} (C : Cx p s m args meth c D (tys cI cJ cZ) (wM cI cJ cZ ad) A cc nL own ret) (hin : vp_in i 4) (hd : decode cc pc = .ok (.iastore, 1)) (K : J p l e R s m args below meth c D (wM cI cJ cZ ad) A nL Q (sA σ 20 i.toNatClampNeg x) (pc + 1) lv st) : J p l e R s m args below meth c D (wM cI cJ cZ ad) A nL Q σ pc lv (.int x :: .int i :: .ref (ad 25) :: st) := j_iast (f := gA σ 20) 25 0 C rfl rfl rfl hin hd K
theorem al_wM_26 {i : Int32} (C : Cx p s m args meth c D (tys cI cJ cZ) (wM cI cJ cZ ad) A cc nL own ret) (hin : vp_in i 2000) (hd : decode cc pc = .ok (.laload, 1)) (K : J p l e R s m args below meth c D (wM cI cJ cZ ad) A nL Q σ (pc + 1) lv (.long (gB σ 4 i.toNatClampNeg) :: st)) : J p l e R s m args below meth c D (wM cI cJ cZ ad) A nL Q σ pc lv (.int i :: .ref (ad 26) :: st) := j_lald 26 1 C rfl rfl hin hd K
theorem as_wM_26 {i : Int32} {x : Int64} (C : Cx p s m args meth c D (tys cI cJ cZ) (wM cI cJ cZ ad) A cc nL own ret) (hin : vp_in i 2000) (hd : decode cc pc = .ok (.lastore, 1)) (K : J p l e R s m args below meth c D (wM cI cJ cZ ad) A nL Q (sB σ 4 i.toNatClampNeg x) (pc + 1) lv st) : J p l e R s m args below meth c D (wM cI cJ cZ ad) A nL Q σ pc lv (.long x :: .int i :: .ref (ad 26) :: st) := j_last (f := gB σ 4) 26 1 C rfl rfl rfl hin hd K
end WwM
end
