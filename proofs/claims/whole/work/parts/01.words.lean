/-! begun from kit/laws/SKELETON (its part A) and claim/NAMES.whole.lean.txt (classes, fields): starting texts -/
-- ===== PART A: goes FIRST, ahead of the names: the tables' words, and 'selects' of the private methods out of them =====
/-- a private method of a class that the tables say can be made, by its rows of tables_1 -/
def lw_okq (q : MethodName × Nat) : Prop := (q.1.cls ≠ "java/lang/invoke/MethodHandle" ∧ q.1.cls ≠ "java/lang/invoke/VarHandle") ∧ Cond.instantiable q.1.cls q.2 ∈ tables_1 ∧ Cond.privateMethod q.1 ∈ tables_1 ∧ Cond.instanceMethod q.1 ∈ tables_1
theorem lw_p0 : lw_okq (⟨"SeatCast$Reader", "takeToken", "()V"⟩, 12) := ⟨⟨by decide +kernel, by decide +kernel⟩, List.mem_of_getElem? (i := 25) (by decide +kernel), List.mem_of_getElem? (i := 306) (by decide +kernel), List.mem_of_getElem? (i := 307) (by decide +kernel)⟩
theorem lw_p1 : lw_okq (⟨"SeatCast$Reader", "skipBytes", "(II)V"⟩, 12) := ⟨⟨by decide +kernel, by decide +kernel⟩, List.mem_of_getElem? (i := 25) (by decide +kernel), List.mem_of_getElem? (i := 311) (by decide +kernel), List.mem_of_getElem? (i := 312) (by decide +kernel)⟩
theorem lw_p2 : lw_okq (⟨"SeatCast$Reader", "numberAt", "(II)I"⟩, 12) := ⟨⟨by decide +kernel, by decide +kernel⟩, List.mem_of_getElem? (i := 25) (by decide +kernel), List.mem_of_getElem? (i := 315) (by decide +kernel), List.mem_of_getElem? (i := 316) (by decide +kernel)⟩
theorem lw_p3 : lw_okq (⟨"SeatCast$Reader", "failIf", "(ZI)V"⟩, 12) := ⟨⟨by decide +kernel, by decide +kernel⟩, List.mem_of_getElem? (i := 25) (by decide +kernel), List.mem_of_getElem? (i := 319) (by decide +kernel), List.mem_of_getElem? (i := 320) (by decide +kernel)⟩
theorem lw_p4 : lw_okq (⟨"SeatCast$Reader", "tellLine", "()V"⟩, 12) := ⟨⟨by decide +kernel, by decide +kernel⟩, List.mem_of_getElem? (i := 25) (by decide +kernel), List.mem_of_getElem? (i := 323) (by decide +kernel), List.mem_of_getElem? (i := 324) (by decide +kernel)⟩
theorem lw_p5 : lw_okq (⟨"SeatCast$Reader", "isName", "(Ljava/lang/String;)Z"⟩, 12) := ⟨⟨by decide +kernel, by decide +kernel⟩, List.mem_of_getElem? (i := 25) (by decide +kernel), List.mem_of_getElem? (i := 328) (by decide +kernel), List.mem_of_getElem? (i := 329) (by decide +kernel)⟩
theorem lw_p6 : lw_okq (⟨"SeatCast$Reader", "tellHouse", "()V"⟩, 12) := ⟨⟨by decide +kernel, by decide +kernel⟩, List.mem_of_getElem? (i := 25) (by decide +kernel), List.mem_of_getElem? (i := 380) (by decide +kernel), List.mem_of_getElem? (i := 381) (by decide +kernel)⟩
theorem lw_p7 : lw_okq (⟨"SeatCast$Reader", "takeNumber", "(II)I"⟩, 12) := ⟨⟨by decide +kernel, by decide +kernel⟩, List.mem_of_getElem? (i := 25) (by decide +kernel), List.mem_of_getElem? (i := 384) (by decide +kernel), List.mem_of_getElem? (i := 385) (by decide +kernel)⟩
theorem lw_p8 : lw_okq (⟨"SeatCast$Reader", "numberWithin", "(II)I"⟩, 12) := ⟨⟨by decide +kernel, by decide +kernel⟩, List.mem_of_getElem? (i := 25) (by decide +kernel), List.mem_of_getElem? (i := 388) (by decide +kernel), List.mem_of_getElem? (i := 389) (by decide +kernel)⟩
theorem lw_p9 : lw_okq (⟨"SeatCast$Reader", "takeSign", "()V"⟩, 12) := ⟨⟨by decide +kernel, by decide +kernel⟩, List.mem_of_getElem? (i := 25) (by decide +kernel), List.mem_of_getElem? (i := 392) (by decide +kernel), List.mem_of_getElem? (i := 393) (by decide +kernel)⟩
theorem lw_p10 : lw_okq (⟨"SeatCast$Reader", "tellPart", "()V"⟩, 12) := ⟨⟨by decide +kernel, by decide +kernel⟩, List.mem_of_getElem? (i := 25) (by decide +kernel), List.mem_of_getElem? (i := 398) (by decide +kernel), List.mem_of_getElem? (i := 399) (by decide +kernel)⟩
theorem lw_p11 : lw_okq (⟨"SeatCast$Reader", "tellOne", "(Z)V"⟩, 12) := ⟨⟨by decide +kernel, by decide +kernel⟩, List.mem_of_getElem? (i := 25) (by decide +kernel), List.mem_of_getElem? (i := 403) (by decide +kernel), List.mem_of_getElem? (i := 404) (by decide +kernel)⟩
theorem lw_p12 : lw_okq (⟨"SeatCast$Reader", "takeFeuds", "()I"⟩, 12) := ⟨⟨by decide +kernel, by decide +kernel⟩, List.mem_of_getElem? (i := 25) (by decide +kernel), List.mem_of_getElem? (i := 411) (by decide +kernel), List.mem_of_getElem? (i := 412) (by decide +kernel)⟩
theorem lw_p13 : lw_okq (⟨"SeatCast$Reader", "tellSpoken", "(Z)V"⟩, 12) := ⟨⟨by decide +kernel, by decide +kernel⟩, List.mem_of_getElem? (i := 25) (by decide +kernel), List.mem_of_getElem? (i := 421) (by decide +kernel), List.mem_of_getElem? (i := 422) (by decide +kernel)⟩
theorem lw_p14 : lw_okq (⟨"SeatCast$Reader", "tellSoft", "()V"⟩, 12) := ⟨⟨by decide +kernel, by decide +kernel⟩, List.mem_of_getElem? (i := 25) (by decide +kernel), List.mem_of_getElem? (i := 435) (by decide +kernel), List.mem_of_getElem? (i := 436) (by decide +kernel)⟩
theorem lw_p15 : lw_okq (⟨"SeatCast$Reader", "isBeyondHouse", "()Z"⟩, 12) := ⟨⟨by decide +kernel, by decide +kernel⟩, List.mem_of_getElem? (i := 25) (by decide +kernel), List.mem_of_getElem? (i := 439) (by decide +kernel), List.mem_of_getElem? (i := 440) (by decide +kernel)⟩
def lw_privs_1 : List (MethodName × Nat) := [(⟨"SeatCast$Reader", "takeToken", "()V"⟩, 12), (⟨"SeatCast$Reader", "skipBytes", "(II)V"⟩, 12), (⟨"SeatCast$Reader", "numberAt", "(II)I"⟩, 12), (⟨"SeatCast$Reader", "failIf", "(ZI)V"⟩, 12), (⟨"SeatCast$Reader", "tellLine", "()V"⟩, 12), (⟨"SeatCast$Reader", "isName", "(Ljava/lang/String;)Z"⟩, 12), (⟨"SeatCast$Reader", "tellHouse", "()V"⟩, 12), (⟨"SeatCast$Reader", "takeNumber", "(II)I"⟩, 12), (⟨"SeatCast$Reader", "numberWithin", "(II)I"⟩, 12), (⟨"SeatCast$Reader", "takeSign", "()V"⟩, 12), (⟨"SeatCast$Reader", "tellPart", "()V"⟩, 12), (⟨"SeatCast$Reader", "tellOne", "(Z)V"⟩, 12), (⟨"SeatCast$Reader", "takeFeuds", "()I"⟩, 12), (⟨"SeatCast$Reader", "tellSpoken", "(Z)V"⟩, 12), (⟨"SeatCast$Reader", "tellSoft", "()V"⟩, 12), (⟨"SeatCast$Reader", "isBeyondHouse", "()Z"⟩, 12)]
theorem lw_r1 : ∀ q ∈ lw_privs_1, lw_okq q := List.forall_mem_cons.mpr ⟨lw_p0, List.forall_mem_cons.mpr ⟨lw_p1, List.forall_mem_cons.mpr ⟨lw_p2, List.forall_mem_cons.mpr ⟨lw_p3, List.forall_mem_cons.mpr ⟨lw_p4, List.forall_mem_cons.mpr ⟨lw_p5, List.forall_mem_cons.mpr ⟨lw_p6, List.forall_mem_cons.mpr ⟨lw_p7, List.forall_mem_cons.mpr ⟨lw_p8, List.forall_mem_cons.mpr ⟨lw_p9, List.forall_mem_cons.mpr ⟨lw_p10, List.forall_mem_cons.mpr ⟨lw_p11, List.forall_mem_cons.mpr ⟨lw_p12, List.forall_mem_cons.mpr ⟨lw_p13, List.forall_mem_cons.mpr ⟨lw_p14, List.forall_mem_cons.mpr ⟨lw_p15, fun _ h => absurd h List.not_mem_nil⟩⟩⟩⟩⟩⟩⟩⟩⟩⟩⟩⟩⟩⟩⟩⟩
theorem lw_p16 : lw_okq (⟨"SeatCast", "spokenNow", "()I"⟩, 11) := ⟨⟨by decide +kernel, by decide +kernel⟩, List.mem_of_getElem? (i := 17) (by decide +kernel), List.mem_of_getElem? (i := 576) (by decide +kernel), List.mem_of_getElem? (i := 577) (by decide +kernel)⟩
theorem lw_p17 : lw_okq (⟨"SeatCast$Seatings", "seatFrom", "(LSeatCast$House;I)V"⟩, 4) := ⟨⟨by decide +kernel, by decide +kernel⟩, List.mem_of_getElem? (i := 206) (by decide +kernel), List.mem_of_getElem? (i := 628) (by decide +kernel), List.mem_of_getElem? (i := 629) (by decide +kernel)⟩
theorem lw_p18 : lw_okq (⟨"SeatCast$Seatings", "freeSeat", "(LSeatCast$House;II)I"⟩, 4) := ⟨⟨by decide +kernel, by decide +kernel⟩, List.mem_of_getElem? (i := 206) (by decide +kernel), List.mem_of_getElem? (i := 632) (by decide +kernel), List.mem_of_getElem? (i := 633) (by decide +kernel)⟩
theorem lw_p19 : lw_okq (⟨"SeatCast", "spokenInPeace", "(II)I"⟩, 11) := ⟨⟨by decide +kernel, by decide +kernel⟩, List.mem_of_getElem? (i := 17) (by decide +kernel), List.mem_of_getElem? (i := 673) (by decide +kernel), List.mem_of_getElem? (i := 674) (by decide +kernel)⟩
theorem lw_p20 : lw_okq (⟨"SeatCast", "spokenBy", "(I)I"⟩, 11) := ⟨⟨by decide +kernel, by decide +kernel⟩, List.mem_of_getElem? (i := 17) (by decide +kernel), List.mem_of_getElem? (i := 710) (by decide +kernel), List.mem_of_getElem? (i := 711) (by decide +kernel)⟩
theorem lw_p21 : lw_okq (⟨"SeatCast", "spokenByOdds", "(III)J"⟩, 11) := ⟨⟨by decide +kernel, by decide +kernel⟩, List.mem_of_getElem? (i := 17) (by decide +kernel), List.mem_of_getElem? (i := 718) (by decide +kernel), List.mem_of_getElem? (i := 719) (by decide +kernel)⟩
theorem lw_p22 : lw_okq (⟨"SeatCast$Seatings", "isIdle", "(I)Z"⟩, 4) := ⟨⟨by decide +kernel, by decide +kernel⟩, List.mem_of_getElem? (i := 206) (by decide +kernel), List.mem_of_getElem? (i := 754) (by decide +kernel), List.mem_of_getElem? (i := 755) (by decide +kernel)⟩
theorem lw_p23 : lw_okq (⟨"SeatCastModel", "firstDraft", "()V"⟩, 32) := ⟨⟨by decide +kernel, by decide +kernel⟩, List.mem_of_getElem? (i := 828) (by decide +kernel), List.mem_of_getElem? (i := 834) (by decide +kernel), List.mem_of_getElem? (i := 835) (by decide +kernel)⟩
theorem lw_p24 : lw_okq (⟨"SeatCastModel", "keepDraft", "()V"⟩, 32) := ⟨⟨by decide +kernel, by decide +kernel⟩, List.mem_of_getElem? (i := 828) (by decide +kernel), List.mem_of_getElem? (i := 838) (by decide +kernel), List.mem_of_getElem? (i := 839) (by decide +kernel)⟩
theorem lw_p25 : lw_okq (⟨"SeatCastModel", "next", "()V"⟩, 32) := ⟨⟨by decide +kernel, by decide +kernel⟩, List.mem_of_getElem? (i := 828) (by decide +kernel), List.mem_of_getElem? (i := 955) (by decide +kernel), List.mem_of_getElem? (i := 956) (by decide +kernel)⟩
theorem lw_p26 : lw_okq (⟨"SeatCastModel", "byteAt", "(I)I"⟩, 32) := ⟨⟨by decide +kernel, by decide +kernel⟩, List.mem_of_getElem? (i := 828) (by decide +kernel), List.mem_of_getElem? (i := 959) (by decide +kernel), List.mem_of_getElem? (i := 960) (by decide +kernel)⟩
theorem lw_p27 : lw_okq (⟨"SeatCastModel", "needs", "(ZI)V"⟩, 32) := ⟨⟨by decide +kernel, by decide +kernel⟩, List.mem_of_getElem? (i := 828) (by decide +kernel), List.mem_of_getElem? (i := 967) (by decide +kernel), List.mem_of_getElem? (i := 968) (by decide +kernel)⟩
theorem lw_p28 : lw_okq (⟨"SeatCastModel", "readLine", "()V"⟩, 32) := ⟨⟨by decide +kernel, by decide +kernel⟩, List.mem_of_getElem? (i := 828) (by decide +kernel), List.mem_of_getElem? (i := 971) (by decide +kernel), List.mem_of_getElem? (i := 972) (by decide +kernel)⟩
theorem lw_p29 : lw_okq (⟨"SeatCastModel", "lineNow", "()I"⟩, 32) := ⟨⟨by decide +kernel, by decide +kernel⟩, List.mem_of_getElem? (i := 828) (by decide +kernel), List.mem_of_getElem? (i := 975) (by decide +kernel), List.mem_of_getElem? (i := 976) (by decide +kernel)⟩
theorem lw_p30 : lw_okq (⟨"SeatCastModel", "is", "(IIII)Z"⟩, 32) := ⟨⟨by decide +kernel, by decide +kernel⟩, List.mem_of_getElem? (i := 828) (by decide +kernel), List.mem_of_getElem? (i := 979) (by decide +kernel), List.mem_of_getElem? (i := 980) (by decide +kernel)⟩
theorem lw_p31 : lw_okq (⟨"SeatCastModel", "ends", "(II)Z"⟩, 32) := ⟨⟨by decide +kernel, by decide +kernel⟩, List.mem_of_getElem? (i := 828) (by decide +kernel), List.mem_of_getElem? (i := 983) (by decide +kernel), List.mem_of_getElem? (i := 984) (by decide +kernel)⟩
def lw_privs_2 : List (MethodName × Nat) := [(⟨"SeatCast", "spokenNow", "()I"⟩, 11), (⟨"SeatCast$Seatings", "seatFrom", "(LSeatCast$House;I)V"⟩, 4), (⟨"SeatCast$Seatings", "freeSeat", "(LSeatCast$House;II)I"⟩, 4), (⟨"SeatCast", "spokenInPeace", "(II)I"⟩, 11), (⟨"SeatCast", "spokenBy", "(I)I"⟩, 11), (⟨"SeatCast", "spokenByOdds", "(III)J"⟩, 11), (⟨"SeatCast$Seatings", "isIdle", "(I)Z"⟩, 4), (⟨"SeatCastModel", "firstDraft", "()V"⟩, 32), (⟨"SeatCastModel", "keepDraft", "()V"⟩, 32), (⟨"SeatCastModel", "next", "()V"⟩, 32), (⟨"SeatCastModel", "byteAt", "(I)I"⟩, 32), (⟨"SeatCastModel", "needs", "(ZI)V"⟩, 32), (⟨"SeatCastModel", "readLine", "()V"⟩, 32), (⟨"SeatCastModel", "lineNow", "()I"⟩, 32), (⟨"SeatCastModel", "is", "(IIII)Z"⟩, 32), (⟨"SeatCastModel", "ends", "(II)Z"⟩, 32)]
theorem lw_r2 : ∀ q ∈ lw_privs_2, lw_okq q := List.forall_mem_cons.mpr ⟨lw_p16, List.forall_mem_cons.mpr ⟨lw_p17, List.forall_mem_cons.mpr ⟨lw_p18, List.forall_mem_cons.mpr ⟨lw_p19, List.forall_mem_cons.mpr ⟨lw_p20, List.forall_mem_cons.mpr ⟨lw_p21, List.forall_mem_cons.mpr ⟨lw_p22, List.forall_mem_cons.mpr ⟨lw_p23, List.forall_mem_cons.mpr ⟨lw_p24, List.forall_mem_cons.mpr ⟨lw_p25, List.forall_mem_cons.mpr ⟨lw_p26, List.forall_mem_cons.mpr ⟨lw_p27, List.forall_mem_cons.mpr ⟨lw_p28, List.forall_mem_cons.mpr ⟨lw_p29, List.forall_mem_cons.mpr ⟨lw_p30, List.forall_mem_cons.mpr ⟨lw_p31, fun _ h => absurd h List.not_mem_nil⟩⟩⟩⟩⟩⟩⟩⟩⟩⟩⟩⟩⟩⟩⟩⟩
theorem lw_p32 : lw_okq (⟨"SeatCastModel", "readLineOf", "(I)V"⟩, 32) := ⟨⟨by decide +kernel, by decide +kernel⟩, List.mem_of_getElem? (i := 828) (by decide +kernel), List.mem_of_getElem? (i := 987) (by decide +kernel), List.mem_of_getElem? (i := 988) (by decide +kernel)⟩
theorem lw_p33 : lw_okq (⟨"SeatCastModel", "readNumber", "(II)I"⟩, 32) := ⟨⟨by decide +kernel, by decide +kernel⟩, List.mem_of_getElem? (i := 828) (by decide +kernel), List.mem_of_getElem? (i := 991) (by decide +kernel), List.mem_of_getElem? (i := 992) (by decide +kernel)⟩
theorem lw_p34 : lw_okq (⟨"SeatCastModel", "looked", "(II)I"⟩, 32) := ⟨⟨by decide +kernel, by decide +kernel⟩, List.mem_of_getElem? (i := 828) (by decide +kernel), List.mem_of_getElem? (i := 995) (by decide +kernel), List.mem_of_getElem? (i := 996) (by decide +kernel)⟩
theorem lw_p35 : lw_okq (⟨"SeatCastModel", "readPart", "()V"⟩, 32) := ⟨⟨by decide +kernel, by decide +kernel⟩, List.mem_of_getElem? (i := 828) (by decide +kernel), List.mem_of_getElem? (i := 999) (by decide +kernel), List.mem_of_getElem? (i := 1000) (by decide +kernel)⟩
theorem lw_p36 : lw_okq (⟨"SeatCastModel", "lookedSeat", "()I"⟩, 32) := ⟨⟨by decide +kernel, by decide +kernel⟩, List.mem_of_getElem? (i := 828) (by decide +kernel), List.mem_of_getElem? (i := 1003) (by decide +kernel), List.mem_of_getElem? (i := 1004) (by decide +kernel)⟩
theorem lw_p37 : lw_okq (⟨"SeatCastModel", "readPerson", "(Z)V"⟩, 32) := ⟨⟨by decide +kernel, by decide +kernel⟩, List.mem_of_getElem? (i := 828) (by decide +kernel), List.mem_of_getElem? (i := 1007) (by decide +kernel), List.mem_of_getElem? (i := 1008) (by decide +kernel)⟩
theorem lw_p38 : lw_okq (⟨"SeatCastModel", "isSeat", "(I)Z"⟩, 32) := ⟨⟨by decide +kernel, by decide +kernel⟩, List.mem_of_getElem? (i := 828) (by decide +kernel), List.mem_of_getElem? (i := 1026) (by decide +kernel), List.mem_of_getElem? (i := 1027) (by decide +kernel)⟩
theorem lw_p39 : lw_okq (⟨"SeatCastModel", "seats", "()I"⟩, 32) := ⟨⟨by decide +kernel, by decide +kernel⟩, List.mem_of_getElem? (i := 828) (by decide +kernel), List.mem_of_getElem? (i := 1030) (by decide +kernel), List.mem_of_getElem? (i := 1031) (by decide +kernel)⟩
theorem lw_p40 : lw_okq (⟨"SeatCastModel", "whoIsIn", "(I)I"⟩, 32) := ⟨⟨by decide +kernel, by decide +kernel⟩, List.mem_of_getElem? (i := 828) (by decide +kernel), List.mem_of_getElem? (i := 1034) (by decide +kernel), List.mem_of_getElem? (i := 1035) (by decide +kernel)⟩
theorem lw_p41 : lw_okq (⟨"SeatCastModel", "isOne", "(I)Z"⟩, 32) := ⟨⟨by decide +kernel, by decide +kernel⟩, List.mem_of_getElem? (i := 828) (by decide +kernel), List.mem_of_getElem? (i := 1042) (by decide +kernel), List.mem_of_getElem? (i := 1043) (by decide +kernel)⟩
theorem lw_p42 : lw_okq (⟨"SeatCastModel", "isLine", "(I)Z"⟩, 32) := ⟨⟨by decide +kernel, by decide +kernel⟩, List.mem_of_getElem? (i := 828) (by decide +kernel), List.mem_of_getElem? (i := 1051) (by decide +kernel), List.mem_of_getElem? (i := 1052) (by decide +kernel)⟩
theorem lw_p43 : lw_okq (⟨"SeatCastModel", "becomes", "(II)I"⟩, 32) := ⟨⟨by decide +kernel, by decide +kernel⟩, List.mem_of_getElem? (i := 828) (by decide +kernel), List.mem_of_getElem? (i := 1059) (by decide +kernel), List.mem_of_getElem? (i := 1060) (by decide +kernel)⟩
theorem lw_p44 : lw_okq (⟨"SeatCastModel", "farOf", "(II)I"⟩, 32) := ⟨⟨by decide +kernel, by decide +kernel⟩, List.mem_of_getElem? (i := 828) (by decide +kernel), List.mem_of_getElem? (i := 1097) (by decide +kernel), List.mem_of_getElem? (i := 1098) (by decide +kernel)⟩
theorem lw_p45 : lw_okq (⟨"SeatCastModel", "starts", "()V"⟩, 32) := ⟨⟨by decide +kernel, by decide +kernel⟩, List.mem_of_getElem? (i := 828) (by decide +kernel), List.mem_of_getElem? (i := 1105) (by decide +kernel), List.mem_of_getElem? (i := 1106) (by decide +kernel)⟩
theorem lw_p46 : lw_okq (⟨"SeatCastModel", "of", "(II)I"⟩, 32) := ⟨⟨by decide +kernel, by decide +kernel⟩, List.mem_of_getElem? (i := 828) (by decide +kernel), List.mem_of_getElem? (i := 1109) (by decide +kernel), List.mem_of_getElem? (i := 1110) (by decide +kernel)⟩
theorem lw_p47 : lw_okq (⟨"SeatCastModel", "doesHear", "(II)Z"⟩, 32) := ⟨⟨by decide +kernel, by decide +kernel⟩, List.mem_of_getElem? (i := 828) (by decide +kernel), List.mem_of_getElem? (i := 1113) (by decide +kernel), List.mem_of_getElem? (i := 1114) (by decide +kernel)⟩
def lw_privs_3 : List (MethodName × Nat) := [(⟨"SeatCastModel", "readLineOf", "(I)V"⟩, 32), (⟨"SeatCastModel", "readNumber", "(II)I"⟩, 32), (⟨"SeatCastModel", "looked", "(II)I"⟩, 32), (⟨"SeatCastModel", "readPart", "()V"⟩, 32), (⟨"SeatCastModel", "lookedSeat", "()I"⟩, 32), (⟨"SeatCastModel", "readPerson", "(Z)V"⟩, 32), (⟨"SeatCastModel", "isSeat", "(I)Z"⟩, 32), (⟨"SeatCastModel", "seats", "()I"⟩, 32), (⟨"SeatCastModel", "whoIsIn", "(I)I"⟩, 32), (⟨"SeatCastModel", "isOne", "(I)Z"⟩, 32), (⟨"SeatCastModel", "isLine", "(I)Z"⟩, 32), (⟨"SeatCastModel", "becomes", "(II)I"⟩, 32), (⟨"SeatCastModel", "farOf", "(II)I"⟩, 32), (⟨"SeatCastModel", "starts", "()V"⟩, 32), (⟨"SeatCastModel", "of", "(II)I"⟩, 32), (⟨"SeatCastModel", "doesHear", "(II)Z"⟩, 32)]
theorem lw_r3 : ∀ q ∈ lw_privs_3, lw_okq q := List.forall_mem_cons.mpr ⟨lw_p32, List.forall_mem_cons.mpr ⟨lw_p33, List.forall_mem_cons.mpr ⟨lw_p34, List.forall_mem_cons.mpr ⟨lw_p35, List.forall_mem_cons.mpr ⟨lw_p36, List.forall_mem_cons.mpr ⟨lw_p37, List.forall_mem_cons.mpr ⟨lw_p38, List.forall_mem_cons.mpr ⟨lw_p39, List.forall_mem_cons.mpr ⟨lw_p40, List.forall_mem_cons.mpr ⟨lw_p41, List.forall_mem_cons.mpr ⟨lw_p42, List.forall_mem_cons.mpr ⟨lw_p43, List.forall_mem_cons.mpr ⟨lw_p44, List.forall_mem_cons.mpr ⟨lw_p45, List.forall_mem_cons.mpr ⟨lw_p46, List.forall_mem_cons.mpr ⟨lw_p47, fun _ h => absurd h List.not_mem_nil⟩⟩⟩⟩⟩⟩⟩⟩⟩⟩⟩⟩⟩⟩⟩⟩
theorem lw_p48 : lw_okq (⟨"SeatCastModel", "spokenNow", "()I"⟩, 32) := ⟨⟨by decide +kernel, by decide +kernel⟩, List.mem_of_getElem? (i := 828) (by decide +kernel), List.mem_of_getElem? (i := 1121) (by decide +kernel), List.mem_of_getElem? (i := 1122) (by decide +kernel)⟩
theorem lw_p49 : lw_okq (⟨"SeatCastModel", "nightNow", "()I"⟩, 32) := ⟨⟨by decide +kernel, by decide +kernel⟩, List.mem_of_getElem? (i := 828) (by decide +kernel), List.mem_of_getElem? (i := 1125) (by decide +kernel), List.mem_of_getElem? (i := 1126) (by decide +kernel)⟩
theorem lw_p50 : lw_okq (⟨"SeatCastModel", "nightBut", "(I)I"⟩, 32) := ⟨⟨by decide +kernel, by decide +kernel⟩, List.mem_of_getElem? (i := 828) (by decide +kernel), List.mem_of_getElem? (i := 1129) (by decide +kernel), List.mem_of_getElem? (i := 1130) (by decide +kernel)⟩
theorem lw_p51 : lw_okq (⟨"SeatCastModel", "speakerOf", "(II)I"⟩, 32) := ⟨⟨by decide +kernel, by decide +kernel⟩, List.mem_of_getElem? (i := 828) (by decide +kernel), List.mem_of_getElem? (i := 1133) (by decide +kernel), List.mem_of_getElem? (i := 1134) (by decide +kernel)⟩
theorem lw_p52 : lw_okq (⟨"SeatCastModel", "canSpeak", "(III)Z"⟩, 32) := ⟨⟨by decide +kernel, by decide +kernel⟩, List.mem_of_getElem? (i := 828) (by decide +kernel), List.mem_of_getElem? (i := 1137) (by decide +kernel), List.mem_of_getElem? (i := 1138) (by decide +kernel)⟩
theorem lw_p53 : lw_okq (⟨"SeatCastModel", "isWhole", "(I)Z"⟩, 32) := ⟨⟨by decide +kernel, by decide +kernel⟩, List.mem_of_getElem? (i := 828) (by decide +kernel), List.mem_of_getElem? (i := 1145) (by decide +kernel), List.mem_of_getElem? (i := 1146) (by decide +kernel)⟩
theorem lw_p54 : lw_okq (⟨"SeatCastModel", "seatings", "()I"⟩, 32) := ⟨⟨by decide +kernel, by decide +kernel⟩, List.mem_of_getElem? (i := 828) (by decide +kernel), List.mem_of_getElem? (i := 1157) (by decide +kernel), List.mem_of_getElem? (i := 1158) (by decide +kernel)⟩
theorem lw_p55 : lw_okq (⟨"SeatCastModel", "here", "()I"⟩, 32) := ⟨⟨by decide +kernel, by decide +kernel⟩, List.mem_of_getElem? (i := 828) (by decide +kernel), List.mem_of_getElem? (i := 1161) (by decide +kernel), List.mem_of_getElem? (i := 1162) (by decide +kernel)⟩
theorem lw_p56 : lw_okq (⟨"SeatCastModel", "seatsBy", "(I)Z"⟩, 32) := ⟨⟨by decide +kernel, by decide +kernel⟩, List.mem_of_getElem? (i := 828) (by decide +kernel), List.mem_of_getElem? (i := 1165) (by decide +kernel), List.mem_of_getElem? (i := 1166) (by decide +kernel)⟩
theorem lw_p57 : lw_okq (⟨"SeatCastModel", "sits", "(II)V"⟩, 32) := ⟨⟨by decide +kernel, by decide +kernel⟩, List.mem_of_getElem? (i := 828) (by decide +kernel), List.mem_of_getElem? (i := 1169) (by decide +kernel), List.mem_of_getElem? (i := 1170) (by decide +kernel)⟩
theorem lw_p58 : lw_okq (⟨"SeatCastModel", "spokenBut", "(I)I"⟩, 32) := ⟨⟨by decide +kernel, by decide +kernel⟩, List.mem_of_getElem? (i := 828) (by decide +kernel), List.mem_of_getElem? (i := 1201) (by decide +kernel), List.mem_of_getElem? (i := 1202) (by decide +kernel)⟩
theorem lw_p59 : lw_okq (⟨"SeatCastModel", "waysOf", "(II)J"⟩, 32) := ⟨⟨by decide +kernel, by decide +kernel⟩, List.mem_of_getElem? (i := 828) (by decide +kernel), List.mem_of_getElem? (i := 1228) (by decide +kernel), List.mem_of_getElem? (i := 1229) (by decide +kernel)⟩
theorem lw_p60 : lw_okq (⟨"SeatCastModel", "allWays", "()J"⟩, 32) := ⟨⟨by decide +kernel, by decide +kernel⟩, List.mem_of_getElem? (i := 828) (by decide +kernel), List.mem_of_getElem? (i := 1232) (by decide +kernel), List.mem_of_getElem? (i := 1233) (by decide +kernel)⟩
theorem lw_p61 : lw_okq (⟨"SeatCastModel", "copies", "(II)V"⟩, 32) := ⟨⟨by decide +kernel, by decide +kernel⟩, List.mem_of_getElem? (i := 828) (by decide +kernel), List.mem_of_getElem? (i := 1262) (by decide +kernel), List.mem_of_getElem? (i := 1263) (by decide +kernel)⟩
def lw_privs_4 : List (MethodName × Nat) := [(⟨"SeatCastModel", "spokenNow", "()I"⟩, 32), (⟨"SeatCastModel", "nightNow", "()I"⟩, 32), (⟨"SeatCastModel", "nightBut", "(I)I"⟩, 32), (⟨"SeatCastModel", "speakerOf", "(II)I"⟩, 32), (⟨"SeatCastModel", "canSpeak", "(III)Z"⟩, 32), (⟨"SeatCastModel", "isWhole", "(I)Z"⟩, 32), (⟨"SeatCastModel", "seatings", "()I"⟩, 32), (⟨"SeatCastModel", "here", "()I"⟩, 32), (⟨"SeatCastModel", "seatsBy", "(I)Z"⟩, 32), (⟨"SeatCastModel", "sits", "(II)V"⟩, 32), (⟨"SeatCastModel", "spokenBut", "(I)I"⟩, 32), (⟨"SeatCastModel", "waysOf", "(II)J"⟩, 32), (⟨"SeatCastModel", "allWays", "()J"⟩, 32), (⟨"SeatCastModel", "copies", "(II)V"⟩, 32)]
theorem lw_r4 : ∀ q ∈ lw_privs_4, lw_okq q := List.forall_mem_cons.mpr ⟨lw_p48, List.forall_mem_cons.mpr ⟨lw_p49, List.forall_mem_cons.mpr ⟨lw_p50, List.forall_mem_cons.mpr ⟨lw_p51, List.forall_mem_cons.mpr ⟨lw_p52, List.forall_mem_cons.mpr ⟨lw_p53, List.forall_mem_cons.mpr ⟨lw_p54, List.forall_mem_cons.mpr ⟨lw_p55, List.forall_mem_cons.mpr ⟨lw_p56, List.forall_mem_cons.mpr ⟨lw_p57, List.forall_mem_cons.mpr ⟨lw_p58, List.forall_mem_cons.mpr ⟨lw_p59, List.forall_mem_cons.mpr ⟨lw_p60, List.forall_mem_cons.mpr ⟨lw_p61, fun _ h => absurd h List.not_mem_nil⟩⟩⟩⟩⟩⟩⟩⟩⟩⟩⟩⟩⟩⟩
def lw_privs : List (MethodName × Nat) := lw_privs_1 ++ (lw_privs_2 ++ (lw_privs_3 ++ (lw_privs_4)))
def lw_tbl : List Cond := k2_sels lw_privs ++ tables_1
theorem lw_privs_ok : ∀ q ∈ lw_privs, lw_okq q := by
  show ∀ q ∈ lw_privs_1 ++ (lw_privs_2 ++ (lw_privs_3 ++ (lw_privs_4))), lw_okq q
  exact List.forall_mem_append.mpr ⟨lw_r1, List.forall_mem_append.mpr ⟨lw_r2, List.forall_mem_append.mpr ⟨lw_r3, lw_r4⟩⟩⟩
-- ===== end of PART A
def RX0 : String := "SeatCast$House"
def TX0 : u_T := fun k => match k with
  | 0 => ("SeatCast$House", "rows", "I", false)
  | 1 => ("SeatCast$House", "places", "I", false)
  | 2 => ("SeatCast$House", "law", "I", false)
  | 3 => ("SeatCast$House", "people", "I", false)
  | 4 => ("SeatCast$House", "lines", "I", false)
  | 5 => ("SeatCast$House", "openings", "I", false)
  | 6 => ("SeatCast$House", "seen", "I", false)
  | 7 => ("SeatCast$House", "rowOf", "[I", true)
  | 8 => ("SeatCast$House", "placeOf", "[I", true)
  | 9 => ("SeatCast$House", "partOfSeat", "[I", true)
  | 10 => ("SeatCast$House", "seatOf", "[I", true)
  | 11 => ("SeatCast$House", "voiceOf", "[I", true)
  | 12 => ("SeatCast$House", "comesWith", "[I", true)
  | 13 => ("SeatCast$House", "feudsOf", "[I", true)
  | 14 => ("SeatCast$House", "partOfLine", "[I", true)
  | 15 => ("SeatCast$House", "seenLine", "[I", true)
  | _ => ("SeatCast$House", "seenWho", "[I", true)
def tyX0 : Nat → FieldType := fun k => match k with
  | 0 => .int
  | 1 => .int
  | 2 => .int
  | 3 => .int
  | 4 => .int
  | 5 => .int
  | 6 => .int
  | 7 => .array .int
  | 8 => .array .int
  | 9 => .array .int
  | 10 => .array .int
  | 11 => .array .int
  | 12 => .array .int
  | 13 => .array .int
  | 14 => .array .int
  | 15 => .array .int
  | _ => .array .int
theorem nmX0 : ∀ a, a < 17 → ∀ b, b < 17 → a ≠ b → (TX0 a).2.1 ≠ (TX0 b).2.1 := by decide +kernel
theorem tyX0_ok : ∀ k, k < 17 → parseFieldDescriptor (TX0 k).2.2.1 = some (tyX0 k) := by decide +kernel
def RX1 : String := "SeatCast$Night"
def TX1 : u_T := fun k => match k with
  | 0 => ("SeatCast$Night", "speaker", "[I", true)
  | _ => ("SeatCast$Night", "spokenLines", "I", false)
def tyX1 : Nat → FieldType := fun k => match k with
  | 0 => .array .int
  | _ => .int
theorem nmX1 : ∀ a, a < 2 → ∀ b, b < 2 → a ≠ b → (TX1 a).2.1 ≠ (TX1 b).2.1 := by decide +kernel
theorem tyX1_ok : ∀ k, k < 2 → parseFieldDescriptor (TX1 k).2.2.1 = some (tyX1 k) := by decide +kernel
def RX2 : String := "SeatCast$Reader"
def TX2 : u_T := fun k => match k with
  | 0 => ("SeatCast$Reader", "tape", "LSeatCast$Tape;", true)
  | 1 => ("SeatCast$Reader", "draft", "LSeatCast$House;", true)
  | 2 => ("SeatCast$Reader", "told", "I", false)
  | 3 => ("SeatCast$Reader", "fault", "I", false)
  | 4 => ("SeatCast$Reader", "faultPlace", "I", false)
  | 5 => ("SeatCast$Reader", "next", "I", false)
  | 6 => ("SeatCast$Reader", "kind", "I", false)
  | 7 => ("SeatCast$Reader", "start", "I", false)
  | 8 => ("SeatCast$Reader", "value", "I", false)
  | 9 => ("SeatCast$Reader", "houseTold", "Z", false)
  | 10 => ("SeatCast$Reader", "softTold", "Z", false)
  | _ => ("SeatCast$Reader", "partsTold", "I", false)
def tyX2 : Nat → FieldType := fun k => match k with
  | 0 => .object "SeatCast$Tape"
  | 1 => .object "SeatCast$House"
  | 2 => .int
  | 3 => .int
  | 4 => .int
  | 5 => .int
  | 6 => .int
  | 7 => .int
  | 8 => .int
  | 9 => .boolean
  | 10 => .boolean
  | _ => .int
theorem nmX2 : ∀ a, a < 12 → ∀ b, b < 12 → a ≠ b → (TX2 a).2.1 ≠ (TX2 b).2.1 := by decide +kernel
theorem tyX2_ok : ∀ k, k < 12 → parseFieldDescriptor (TX2 k).2.2.1 = some (tyX2 k) := by decide +kernel
def RX3 : String := "SeatCast$Seatings"
def TX3 : u_T := fun k => match k with
  | 0 => ("SeatCast$Seatings", "movers", "[I", true)
  | 1 => ("SeatCast$Seatings", "keptSeats", "[I", true)
  | 2 => ("SeatCast$Seatings", "moving", "I", false)
  | _ => ("SeatCast$Seatings", "idle", "I", false)
def tyX3 : Nat → FieldType := fun k => match k with
  | 0 => .array .int
  | 1 => .array .int
  | 2 => .int
  | _ => .int
theorem nmX3 : ∀ a, a < 4 → ∀ b, b < 4 → a ≠ b → (TX3 a).2.1 ≠ (TX3 b).2.1 := by decide +kernel
theorem tyX3_ok : ∀ k, k < 4 → parseFieldDescriptor (TX3 k).2.2.1 = some (tyX3 k) := by decide +kernel
def RX4 : String := "SeatCast$Sheet"
def TX4 : u_T := fun k => match k with
  | 0 => ("SeatCast$Sheet", "cells", "[I", true)
  | 1 => ("SeatCast$Sheet", "lane", "I", false)
  | _ => ("SeatCast$Sheet", "size", "I", false)
def tyX4 : Nat → FieldType := fun k => match k with
  | 0 => .array .int
  | 1 => .int
  | _ => .int
theorem nmX4 : ∀ a, a < 3 → ∀ b, b < 3 → a ≠ b → (TX4 a).2.1 ≠ (TX4 b).2.1 := by decide +kernel
theorem tyX4_ok : ∀ k, k < 3 → parseFieldDescriptor (TX4 k).2.2.1 = some (tyX4 k) := by decide +kernel
def RX5 : String := "SeatCast$Tape"
def TX5 : u_T := fun k => match k with
  | 0 => ("SeatCast$Tape", "bytes", "[B", true)
  | _ => ("SeatCast$Tape", "length", "I", false)
def tyX5 : Nat → FieldType := fun k => match k with
  | 0 => .array .byte
  | _ => .int
theorem nmX5 : ∀ a, a < 2 → ∀ b, b < 2 → a ≠ b → (TX5 a).2.1 ≠ (TX5 b).2.1 := by decide +kernel
theorem tyX5_ok : ∀ k, k < 2 → parseFieldDescriptor (TX5 k).2.2.1 = some (tyX5 k) := by decide +kernel
def RX6 : String := "SeatCast"
def TX6 : u_T := fun k => match k with
  | 0 => ("SeatCast", "reader", "LSeatCast$Reader;", true)
  | 1 => ("SeatCast", "tape", "LSeatCast$Tape;", true)
  | 2 => ("SeatCast", "house", "LSeatCast$House;", true)
  | 3 => ("SeatCast", "trial", "LSeatCast$House;", true)
  | 4 => ("SeatCast", "show", "LSeatCast$Night;", true)
  | 5 => ("SeatCast", "seatings", "LSeatCast$Seatings;", true)
  | 6 => ("SeatCast", "images", "[LSeatCast$House;", true)
  | 7 => ("SeatCast", "kept", "[Z", true)
  | 8 => ("SeatCast", "sheets", "[LSeatCast$Sheet;", true)
  | 9 => ("SeatCast", "textFault", "I", false)
  | _ => ("SeatCast", "readFault", "I", false)
def tyX6 : Nat → FieldType := fun k => match k with
  | 0 => .object "SeatCast$Reader"
  | 1 => .object "SeatCast$Tape"
  | 2 => .object "SeatCast$House"
  | 3 => .object "SeatCast$House"
  | 4 => .object "SeatCast$Night"
  | 5 => .object "SeatCast$Seatings"
  | 6 => .array (.object "SeatCast$House")
  | 7 => .array .boolean
  | 8 => .array (.object "SeatCast$Sheet")
  | 9 => .int
  | _ => .int
theorem nmX6 : ∀ a, a < 11 → ∀ b, b < 11 → a ≠ b → (TX6 a).2.1 ≠ (TX6 b).2.1 := by decide +kernel
theorem tyX6_ok : ∀ k, k < 11 → parseFieldDescriptor (TX6 k).2.2.1 = some (tyX6 k) := by decide +kernel
def RX7 : String := "SeatCastModel"
def TX7 : u_T := fun k => match k with
  | 0 => ("SeatCastModel", "st", "[I", true)
  | 1 => ("SeatCastModel", "at", "[I", true)
  | 2 => ("SeatCastModel", "isKept", "[Z", true)
  | 3 => ("SeatCastModel", "rows", "I", false)
  | 4 => ("SeatCastModel", "places", "I", false)
  | 5 => ("SeatCastModel", "people", "I", false)
  | 6 => ("SeatCastModel", "lines", "I", false)
  | 7 => ("SeatCastModel", "parts", "[I", true)
  | 8 => ("SeatCastModel", "draft", "[I", true)
  | 9 => ("SeatCastModel", "dRows", "I", false)
  | 10 => ("SeatCastModel", "dPlaces", "I", false)
  | 11 => ("SeatCastModel", "dPeople", "I", false)
  | 12 => ("SeatCastModel", "dLines", "I", false)
  | 13 => ("SeatCastModel", "dParts", "[I", true)
  | 14 => ("SeatCastModel", "toldLines", "I", false)
  | 15 => ("SeatCastModel", "toldParts", "I", false)
  | 16 => ("SeatCastModel", "highestSeat", "I", false)
  | 17 => ("SeatCastModel", "highestOne", "I", false)
  | 18 => ("SeatCastModel", "tape", "[I", true)
  | 19 => ("SeatCastModel", "taped", "I", false)
  | 20 => ("SeatCastModel", "pos", "I", false)
  | 21 => ("SeatCastModel", "from", "I", false)
  | 22 => ("SeatCastModel", "sort", "I", false)
  | 23 => ("SeatCastModel", "value", "I", false)
  | 24 => ("SeatCastModel", "fault", "I", false)
  | 25 => ("SeatCastModel", "wrongAt", "I", false)
  | 26 => ("SeatCastModel", "spoke", "[I", true)
  | 27 => ("SeatCastModel", "lanes", "[I", true)
  | 28 => ("SeatCastModel", "sizes", "[I", true)
  | 29 => ("SeatCastModel", "cells", "[I", true)
  | 30 => ("SeatCastModel", "torn", "I", false)
  | _ => ("SeatCastModel", "had", "[I", true)
def tyX7 : Nat → FieldType := fun k => match k with
  | 0 => .array .int
  | 1 => .array .int
  | 2 => .array .boolean
  | 3 => .int
  | 4 => .int
  | 5 => .int
  | 6 => .int
  | 7 => .array .int
  | 8 => .array .int
  | 9 => .int
  | 10 => .int
  | 11 => .int
  | 12 => .int
  | 13 => .array .int
  | 14 => .int
  | 15 => .int
  | 16 => .int
  | 17 => .int
  | 18 => .array .int
  | 19 => .int
  | 20 => .int
  | 21 => .int
  | 22 => .int
  | 23 => .int
  | 24 => .int
  | 25 => .int
  | 26 => .array .int
  | 27 => .array .int
  | 28 => .array .int
  | 29 => .array .int
  | 30 => .int
  | _ => .array .int
theorem nmX7 : ∀ a, a < 32 → ∀ b, b < 32 → a ≠ b → (TX7 a).2.1 ≠ (TX7 b).2.1 := by decide +kernel
theorem tyX7_ok : ∀ k, k < 32 → parseFieldDescriptor (TX7 k).2.2.1 = some (tyX7 k) := by decide +kernel
abbrev vwCl : List vw_C := [(RX0, TX0, 17), (RX1, TX1, 2), (RX2, TX2, 12), (RX3, TX3, 4), (RX4, TX4, 3), (RX5, TX5, 2), (RX6, TX6, 11), (RX7, TX7, 32)]
/-- the classes by number -/
def zR (q : Nat) : String := match q with
  | 0 => RX0
  | 1 => RX1
  | 2 => RX2
  | 3 => RX3
  | 4 => RX4
  | 5 => RX5
  | 6 => RX6
  | 7 => RX7
  | _ => "java/lang/String"
def zT (q : Nat) : u_T := match q with
  | 0 => TX0
  | 1 => TX1
  | 2 => TX2
  | 3 => TX3
  | 4 => TX4
  | 5 => TX5
  | 6 => TX6
  | 7 => TX7
  | _ => fun k => match k with
    | 0 => ("java/lang/String", "value", "[B", true)
    | _ => ("java/lang/String", "coder", "B", true)
def zY (q : Nat) : Nat → FieldType := match q with
  | 0 => tyX0
  | 1 => tyX1
  | 2 => tyX2
  | 3 => tyX3
  | 4 => tyX4
  | 5 => tyX5
  | 6 => tyX6
  | 7 => tyX7
  | _ => fun _ => .int
def zfn (q : Nat) : Nat := match q with
  | 0 => 17
  | 1 => 2
  | 2 => 12
  | 3 => 4
  | 4 => 3
  | 5 => 2
  | 6 => 11
  | 7 => 32
  | _ => 2
/-- who owns code, by number -/
def zon (q : Nat) : String := match q with
  | 0 => RX0
  | 1 => RX1
  | 2 => RX2
  | 3 => RX3
  | 4 => RX4
  | 5 => RX5
  | 6 => RX6
  | 7 => RX7
  | 8 => "SeatCastLaw"
  | 9 => "java/lang/String"
  | 10 => "java/lang/StringLatin1"
  | 11 => "jdk/internal/util/Preconditions"
  | 12 => "java/lang/Integer"
  | _ => ""
theorem zcl_at : ∀ q, q < 8 → vwCl[q]? = some (zR q, zT q, zfn q) := fun q h => match q, h with
  | 0, _ => rfl
  | 1, _ => rfl
  | 2, _ => rfl
  | 3, _ => rfl
  | 4, _ => rfl
  | 5, _ => rfl
  | 6, _ => rfl
  | 7, _ => rfl
  | q + 8, h => absurd h (by omega)
theorem zY_ok : ∀ q, q < 8 → ∀ k, k < zfn q → parseFieldDescriptor (zT q k).2.2.1 = some (zY q k) := fun q h => match q, h with
  | 0, _ => tyX0_ok
  | 1, _ => tyX1_ok
  | 2, _ => tyX2_ok
  | 3, _ => tyX3_ok
  | 4, _ => tyX4_ok
  | 5, _ => tyX5_ok
  | 6, _ => tyX6_ok
  | 7, _ => tyX7_ok
  | q + 8, h => absurd h (by omega)
theorem znm_ok : ∀ q, q < 8 → ∀ a, a < zfn q → ∀ b, b < zfn q → a ≠ b → (zT q a).2.1 ≠ (zT q b).2.1 := fun q h => match q, h with
  | 0, _ => nmX0
  | 1, _ => nmX1
  | 2, _ => nmX2
  | 3, _ => nmX3
  | 4, _ => nmX4
  | 5, _ => nmX5
  | 6, _ => nmX6
  | 7, _ => nmX7
  | q + 8, h => absurd h (by omega)
/-- words that stand still when the machine warms -/
def zgw (w : Cond) : Bool := match w with
  | .fieldLinkNest _ _ _ _ _ _ => true
  | .methodLinkNest _ _ _ _ => true
  | w => goodWord w
def zTB : List Cond := lw_tbl.filter zgw
theorem zTBm {i : Nat} {w : Cond} (h : lw_tbl[i]? = some w) (g : zgw w = true) : w ∈ zTB := List.mem_filter.mpr ⟨List.mem_of_getElem? h, g⟩
def zLY : List (Nat × Nat × Nat) := [(0, 0, 172), (0, 1, 174), (0, 2, 176), (0, 3, 178), (0, 4, 180), (0, 5, 182), (0, 6, 184), (0, 7, 186), (0, 8, 188), (0, 9, 190), (0, 10, 192), (0, 11, 194), (0, 12, 196), (0, 13, 198), (0, 14, 200), (0, 15, 202), (0, 16, 204), (1, 0, 262), (1, 1, 264), (2, 0, 225), (2, 1, 227), (2, 2, 229), (2, 3, 231), (2, 4, 233), (2, 5, 235), (2, 6, 237), (2, 7, 239), (2, 8, 241), (2, 9, 243), (2, 10, 245), (2, 11, 247), (3, 0, 278), (3, 1, 280), (3, 2, 282), (3, 3, 284), (4, 0, 301), (4, 1, 303), (4, 2, 305), (5, 0, 103), (5, 1, 105), (6, 0, 320), (6, 1, 322), (6, 2, 324), (6, 3, 326), (6, 4, 328), (6, 5, 330), (6, 6, 332), (6, 7, 334), (6, 8, 336), (6, 9, 338), (6, 10, 340), (7, 0, 935), (7, 1, 937), (7, 2, 939), (7, 3, 941), (7, 4, 943), (7, 5, 945), (7, 6, 947), (7, 7, 949), (7, 8, 951), (7, 9, 953), (7, 10, 955), (7, 11, 957), (7, 12, 959), (7, 13, 961), (7, 14, 963), (7, 15, 965), (7, 16, 967), (7, 17, 969), (7, 18, 971), (7, 19, 973), (7, 20, 975), (7, 21, 977), (7, 22, 979), (7, 23, 981), (7, 24, 983), (7, 25, 985), (7, 26, 987), (7, 27, 989), (7, 28, 991), (7, 29, 993), (7, 30, 995), (7, 31, 997)]
theorem zLY_ok : ∀ f ∈ zLY, lw_tbl[f.2.2]? = some (u_lay (zR f.1) (zT f.1) f.2.1) ∧ zgw (u_lay (zR f.1) (zT f.1) f.2.1) = true := by decide +kernel
theorem zLY_all : ∀ q, q < 8 → ∀ k, k < zfn q → (zLY.any fun f => Nat.beq f.1 q && Nat.beq f.2.1 k) = true := by decide +kernel
theorem zin (q : Nat) (hq : q < 8) : ∀ w ∈ u_ws (zR q) (zT q) (zfn q), w ∈ zTB := by
  intro w hw
  obtain ⟨k, hk, rfl⟩ := List.mem_map.mp hw
  obtain ⟨f, hf, h⟩ := List.any_eq_true.mp (zLY_all q hq k (List.mem_range.mp hk))
  simp only [Bool.and_eq_true, Nat.beq_eq] at h
  obtain ⟨h1, h2⟩ := zLY_ok f hf
  rw [h.1, h.2] at h1 h2
  exact zTBm h1 h2
/-! links of fields: whose code, its entry, class and field, where the word stands, a nest mate's -/
def zFL : List (Nat × Nat × Nat × Nat × Nat × Bool) := [(5, 9, 5, 0, 98, false), (2, 167, 5, 0, 99, true), (5, 15, 5, 1, 100, false), (6, 70, 5, 1, 101, true), (2, 164, 5, 1, 102, true), (0, 65, 0, 0, 123, false), (6, 96, 0, 0, 124, true), (0, 68, 0, 1, 125, false), (6, 99, 0, 1, 126, true), (0, 49, 0, 2, 127, false), (1, 32, 0, 2, 128, true), (6, 108, 0, 2, 129, true), (2, 139, 0, 2, 130, true), (0, 53, 0, 3, 131, false), (3, 31, 0, 3, 132, true), (1, 41, 0, 3, 133, true), (2, 117, 0, 3, 134, true), (6, 102, 0, 3, 135, true), (0, 56, 0, 4, 136, false), (1, 19, 0, 4, 137, true), (6, 105, 0, 4, 138, true), (2, 132, 0, 4, 139, true), (0, 59, 0, 5, 140, false), (6, 305, 0, 5, 141, true), (0, 62, 0, 6, 142, false), (1, 71, 0, 6, 143, true), (6, 253, 0, 6, 144, true), (0, 9, 0, 7, 145, false), (0, 15, 0, 8, 146, false), (0, 18, 0, 9, 147, false), (1, 47, 0, 9, 148, true), (2, 113, 0, 9, 149, true), (6, 114, 0, 9, 150, true), (0, 21, 0, 10, 151, false), (1, 44, 0, 10, 152, true), (3, 42, 0, 10, 153, true), (6, 125, 0, 10, 154, true), (2, 145, 0, 10, 155, true), (0, 24, 0, 11, 156, false), (1, 64, 0, 11, 157, true), (6, 128, 0, 11, 158, true), (0, 27, 0, 12, 159, false), (1, 53, 0, 12, 160, true), (6, 131, 0, 12, 161, true), (0, 30, 0, 13, 162, false), (6, 134, 0, 13, 163, true), (2, 148, 0, 13, 164, true), (0, 33, 0, 14, 165, false), (1, 50, 0, 14, 166, true), (6, 140, 0, 14, 167, true), (0, 36, 0, 15, 168, false), (1, 74, 0, 15, 169, true), (0, 39, 0, 16, 170, false), (1, 77, 0, 16, 171, true), (2, 12, 2, 0, 208, false), (6, 16, 2, 0, 209, true), (2, 21, 2, 1, 210, false), (6, 86, 2, 1, 211, true), (2, 28, 2, 2, 212, false), (6, 93, 2, 2, 213, true), (2, 32, 2, 3, 214, false), (6, 77, 2, 3, 215, true), (2, 35, 2, 4, 216, false), (6, 83, 2, 4, 217, true), (2, 38, 2, 5, 218, false), (2, 54, 2, 6, 219, false), (2, 151, 2, 7, 220, false), (2, 157, 2, 8, 221, false), (2, 41, 2, 9, 222, false), (2, 45, 2, 10, 223, false), (2, 48, 2, 11, 224, false), (1, 9, 1, 0, 258, false), (6, 183, 1, 0, 259, true), (1, 15, 1, 1, 260, false), (6, 186, 1, 1, 261, true), (3, 9, 3, 0, 273, false), (3, 15, 3, 1, 274, false), (6, 210, 3, 1, 275, true), (3, 28, 3, 2, 276, false), (3, 24, 3, 3, 277, false), (4, 9, 4, 0, 295, false), (6, 290, 4, 0, 296, true), (4, 15, 4, 1, 297, false), (6, 278, 4, 1, 298, true), (4, 19, 4, 2, 299, false), (6, 302, 4, 2, 300, true), (6, 10, 6, 0, 309, false), (6, 20, 6, 1, 310, false), (6, 24, 6, 2, 311, false), (6, 28, 6, 3, 312, false), (6, 34, 6, 4, 313, false), (6, 41, 6, 5, 314, false), (6, 45, 6, 6, 315, false), (6, 49, 6, 7, 316, false), (6, 55, 6, 8, 317, false), (6, 80, 6, 9, 318, false), (6, 296, 6, 10, 319, false), (7, 7, 7, 0, 903, false), (7, 13, 7, 1, 904, false), (7, 16, 7, 2, 905, false), (7, 78, 7, 3, 906, false), (7, 81, 7, 4, 907, false), (7, 84, 7, 5, 908, false), (7, 87, 7, 6, 909, false), (7, 20, 7, 7, 910, false), (7, 23, 7, 8, 911, false), (7, 53, 7, 9, 912, false), (7, 57, 7, 10, 913, false), (7, 60, 7, 11, 914, false), (7, 63, 7, 12, 915, false), (7, 26, 7, 13, 916, false), (7, 66, 7, 14, 917, false), (7, 69, 7, 15, 918, false), (7, 72, 7, 16, 919, false), (7, 75, 7, 17, 920, false), (7, 29, 7, 18, 921, false), (7, 96, 7, 19, 922, false), (7, 108, 7, 20, 923, false), (7, 102, 7, 21, 924, false), (7, 123, 7, 22, 925, false), (7, 134, 7, 23, 926, false), (7, 99, 7, 24, 927, false), (7, 105, 7, 25, 928, false), (7, 32, 7, 26, 929, false), (7, 35, 7, 27, 930, false), (7, 38, 7, 28, 931, false), (7, 41, 7, 29, 932, false), (7, 292, 7, 30, 933, false), (7, 44, 7, 31, 934, false), (9, 9, 8, 0, 1357, false), (9, 15, 8, 1, 1358, false)]
def zflw (f : Nat × Nat × Nat × Nat × Nat × Bool) : Cond := match f.2.2.2.2.2 with
  | true => .fieldLinkNest (zon f.1) f.2.1 (zT f.2.2.1 f.2.2.2.1).1 (zT f.2.2.1 f.2.2.2.1).2.1 (zT f.2.2.1 f.2.2.2.1).2.2.1 "SeatCast"
  | false => .fieldLink (zon f.1) f.2.1 (zT f.2.2.1 f.2.2.2.1).1 (zT f.2.2.1 f.2.2.2.1).2.1 (zT f.2.2.1 f.2.2.2.1).2.2.1
theorem zFL_ok : ∀ f ∈ zFL, lw_tbl[f.2.2.2.2.1]? = some (zflw f) ∧ zgw (zflw f) = true ∧ (f.2.2.1 < 8 ∨ (f.2.2.1 = 8 ∧ f.2.2.2.2.2 = false)) ∧ f.2.2.2.1 < zfn f.2.2.1 := by decide +kernel
/-! the methods by number: name, code, locals, answer, owner, frames and words of room -/
def zmt : List (MethodName × ByteArray × Nat × Option FieldType × Nat × Nat × Nat) := [(⟨"SeatCast$House", "clear", "()V"⟩, prog_2_method_2_code, 2, none, 0, 2, 37),
  (⟨"SeatCast$House", "setShape", "(II)V"⟩, prog_2_method_3_code, 6, none, 0, 1, 12),
  (⟨"SeatCast$House", "whoSits", "(I)I"⟩, prog_2_method_14_code, 3, some .int, 0, 1, 12),
  (⟨"SeatCast$House", "addOne", "(IIII)V"⟩, prog_2_method_23_code, 5, none, 0, 1, 12),
  (⟨"SeatCast$House", "addLine", "(IZ)V"⟩, prog_2_method_24_code, 3, none, 0, 2, 34),
  (⟨"SeatCast$House", "setOpening", "(IZ)V"⟩, prog_2_method_13_code, 3, none, 0, 1, 12),
  (⟨"SeatCast$House", "seats", "()I"⟩, prog_2_method_5_code, 1, some .int, 0, 1, 12),
  (⟨"SeatCast$House", "copyFrom", "(LSeatCast$House;)V"⟩, prog_2_method_4_code, 2, none, 0, 1, 60),
  (⟨"SeatCast$House", "hasSeat", "(I)Z"⟩, prog_2_method_6_code, 2, some .boolean, 0, 2, 34),
  (⟨"SeatCast$House", "hasOne", "(I)Z"⟩, prog_2_method_7_code, 2, some .boolean, 0, 2, 34),
  (⟨"SeatCast$House", "hasLine", "(I)Z"⟩, prog_2_method_8_code, 2, some .boolean, 0, 2, 34),
  (⟨"SeatCast$House", "isOpening", "(I)Z"⟩, prog_2_method_12_code, 2, some .boolean, 0, 1, 12),
  (⟨"SeatCast$House", "moveOne", "(II)I"⟩, prog_2_method_15_code, 5, some .int, 0, 3, 55),
  (⟨"SeatCast$House", "tradeSeats", "(II)V"⟩, prog_2_method_16_code, 4, none, 0, 1, 12),
  (⟨"SeatCast$House", "isFeud", "(II)Z"⟩, prog_2_method_10_code, 3, some .boolean, 0, 1, 12),
  (⟨"SeatCast$House", "setFeud", "(IIZ)V"⟩, prog_2_method_11_code, 4, none, 0, 1, 12),
  (⟨"SeatCast$House", "distance", "(II)I"⟩, prog_2_method_17_code, 3, some .int, 0, 1, 28),
  (⟨"SeatCast$House", "isAway", "(I)Z"⟩, prog_2_method_9_code, 2, some .boolean, 0, 1, 12),
  (⟨"SeatCast$House", "seatsInReach", "(I)I"⟩, prog_2_method_18_code, 4, some .int, 0, 2, 50),
  (⟨"SeatCast$House", "idleSeats", "()I"⟩, prog_2_method_21_code, 5, some .int, 0, 2, 32),
  (⟨"SeatCast$House", "peopleOfRow", "(I)I"⟩, prog_2_method_20_code, 4, some .int, 0, 2, 33),
  (⟨"SeatCast$House", "peopleHere", "()I"⟩, prog_2_method_19_code, 3, some .int, 0, 2, 33),
  (⟨"SeatCast$House", "addSeen", "(II)Z"⟩, prog_2_method_25_code, 3, some .boolean, 0, 1, 12),
  (⟨"SeatCast$House", "seatsWithPart", "()I"⟩, prog_2_method_22_code, 3, some .int, 0, 2, 32),
  (⟨"SeatCast$Night", "play", "(LSeatCast$House;II)I"⟩, prog_3_method_2_code, 7, some .int, 1, 4, 99),
  (⟨"SeatCast$Night", "speakerOf", "(LSeatCast$House;III)I"⟩, prog_3_method_3_code, 8, some .int, 1, 3, 72),
  (⟨"SeatCast$Night", "answers", "(LSeatCast$House;II)Z"⟩, prog_3_method_4_code, 3, some .boolean, 1, 2, 50),
  (⟨"SeatCast$Night", "firstMissed", "(LSeatCast$House;)I"⟩, prog_3_method_5_code, 3, some .int, 1, 1, 12),
  (⟨"SeatCast$Night", "wholeScenes", "(LSeatCast$House;)I"⟩, prog_3_method_6_code, 5, some .int, 1, 2, 33),
  (⟨"SeatCast$Night", "isAsSeen", "(LSeatCast$House;)Z"⟩, prog_3_method_7_code, 3, some .boolean, 1, 1, 12),
  (⟨"SeatCast$Reader", "tellAll", "()V"⟩, prog_4_method_2_code, 2, none, 2, 7, 139),
  (⟨"SeatCast$Reader", "takeToken", "()V"⟩, prog_4_method_15_code, 2, none, 2, 2, 36),
  (⟨"SeatCast$Reader", "skipBytes", "(II)V"⟩, prog_4_method_16_code, 3, none, 2, 1, 12),
  (⟨"SeatCast$Reader", "numberAt", "(II)I"⟩, prog_4_method_17_code, 5, some .int, 2, 1, 12),
  (⟨"SeatCast$Reader", "failIf", "(ZI)V"⟩, prog_4_method_10_code, 3, none, 2, 1, 12),
  (⟨"SeatCast$Reader", "tellLine", "()V"⟩, prog_4_method_3_code, 1, none, 2, 6, 119),
  (⟨"SeatCast$Reader", "isName", "(Ljava/lang/String;)Z"⟩, prog_4_method_18_code, 3, some .boolean, 2, 5, 97),
  (⟨"SeatCast$Reader", "tellHouse", "()V"⟩, prog_4_method_4_code, 3, none, 2, 4, 79),
  (⟨"SeatCast$Reader", "takeNumber", "(II)I"⟩, prog_4_method_11_code, 3, some .int, 2, 3, 57),
  (⟨"SeatCast$Reader", "numberWithin", "(II)I"⟩, prog_4_method_12_code, 3, some .int, 2, 2, 34),
  (⟨"SeatCast$Reader", "takeSign", "()V"⟩, prog_4_method_13_code, 1, none, 2, 3, 57),
  (⟨"SeatCast$Reader", "tellPart", "()V"⟩, prog_4_method_5_code, 3, none, 2, 4, 79),
  (⟨"SeatCast$Reader", "tellOne", "(Z)V"⟩, prog_4_method_6_code, 6, none, 2, 4, 80),
  (⟨"SeatCast$Reader", "takeFeuds", "()I"⟩, prog_4_method_14_code, 4, some .int, 2, 3, 57),
  (⟨"SeatCast$Reader", "tellSpoken", "(Z)V"⟩, prog_4_method_7_code, 3, none, 2, 4, 79),
  (⟨"SeatCast$Reader", "tellSoft", "()V"⟩, prog_4_method_8_code, 1, none, 2, 4, 77),
  (⟨"SeatCast$Reader", "isBeyondHouse", "()Z"⟩, prog_4_method_9_code, 2, some .boolean, 2, 2, 32),
  (⟨"SeatCast$Seatings", "begin", "(LSeatCast$House;)V"⟩, prog_5_method_2_code, 3, none, 3, 4, 83),
  (⟨"SeatCast$Seatings", "seatFrom", "(LSeatCast$House;I)V"⟩, prog_5_method_8_code, 4, none, 3, 3, 60),
  (⟨"SeatCast$Seatings", "freeSeat", "(LSeatCast$House;II)I"⟩, prog_5_method_9_code, 9, some .int, 3, 2, 32),
  (⟨"SeatCast$Seatings", "keepSeats", "(LSeatCast$House;)V"⟩, prog_5_method_4_code, 2, none, 3, 1, 60),
  (⟨"SeatCast$Seatings", "step", "(LSeatCast$House;)Z"⟩, prog_5_method_3_code, 5, some .boolean, 3, 4, 83),
  (⟨"SeatCast$Seatings", "alike", "(LSeatCast$House;)I"⟩, prog_5_method_5_code, 5, some .int, 3, 2, 33),
  (⟨"SeatCast$Seatings", "isIdle", "(I)Z"⟩, prog_5_method_7_code, 2, some .boolean, 3, 1, 12),
  (⟨"SeatCast$Seatings", "seatsAlike", "(LSeatCast$House;I)I"⟩, prog_5_method_6_code, 3, some .int, 3, 2, 33),
  (⟨"SeatCast$Sheet", "renew", "(II)V"⟩, prog_6_method_2_code, 4, none, 4, 1, 12),
  (⟨"SeatCast$Sheet", "faultAt", "(II)I"⟩, prog_6_method_4_code, 3, some .int, 4, 2, 34),
  (⟨"SeatCast$Sheet", "write", "(II)V"⟩, prog_6_method_3_code, 3, none, 4, 1, 12),
  (⟨"SeatCast$Sheet", "faultOfPair", "(II)I"⟩, prog_6_method_5_code, 4, some .int, 4, 3, 56),
  (⟨"SeatCast$Tape", "add", "(I)Z"⟩, prog_7_method_2_code, 2, some .boolean, 5, 1, 12),
  (⟨"SeatCast", "feed", "(I)I"⟩, prog_1_method_2_code, 2, some .int, 6, 2, 34),
  (⟨"SeatCast", "isIn", "(III)Z"⟩, prog_1_method_51_code, 3, some .boolean, 6, 1, 12),
  (⟨"SeatCast", "end", "(I)I"⟩, prog_1_method_3_code, 3, some .int, 6, 2, 34),
  (⟨"SeatCast", "text", "()I"⟩, prog_1_method_4_code, 2, some .int, 6, 8, 160),
  (⟨"SeatCast", "fault", "()I"⟩, prog_1_method_5_code, 1, some .int, 6, 1, 12),
  (⟨"SeatCast", "rule", "(I)I"⟩, prog_1_method_6_code, 2, some .int, 6, 1, 12),
  (⟨"SeatCast", "seat", "(II)I"⟩, prog_1_method_7_code, 3, some .int, 6, 3, 55),
  (⟨"SeatCast", "one", "(II)I"⟩, prog_1_method_8_code, 3, some .int, 6, 3, 55),
  (⟨"SeatCast", "line", "(II)I"⟩, prog_1_method_9_code, 3, some .int, 6, 3, 55),
  (⟨"SeatCast", "oneIf", "(Z)I"⟩, prog_1_method_52_code, 1, some .int, 6, 1, 12),
  (⟨"SeatCast", "sit", "(II)I"⟩, prog_1_method_10_code, 3, some .int, 6, 4, 79),
  (⟨"SeatCast", "swap", "(II)I"⟩, prog_1_method_11_code, 3, some .int, 6, 3, 55),
  (⟨"SeatCast", "part", "(II)I"⟩, prog_1_method_12_code, 4, some .int, 6, 3, 55),
  (⟨"SeatCast", "voice", "(II)I"⟩, prog_1_method_13_code, 4, some .int, 6, 3, 55),
  (⟨"SeatCast", "comes", "(II)I"⟩, prog_1_method_14_code, 4, some .int, 6, 3, 55),
  (⟨"SeatCast", "feud", "(IIZ)I"⟩, prog_1_method_15_code, 5, some .int, 6, 3, 55),
  (⟨"SeatCast", "law", "(I)I"⟩, prog_1_method_16_code, 3, some .int, 6, 2, 34),
  (⟨"SeatCast", "opens", "(IZ)I"⟩, prog_1_method_17_code, 4, some .int, 6, 3, 55),
  (⟨"SeatCast", "far", "(II)I"⟩, prog_1_method_18_code, 3, some .int, 6, 3, 55),
  (⟨"SeatCast", "heard", "(I)I"⟩, prog_1_method_19_code, 2, some .int, 6, 3, 73),
  (⟨"SeatCast", "speaks", "(I)I"⟩, prog_1_method_20_code, 2, some .int, 6, 6, 145),
  (⟨"SeatCast", "spokenNow", "()I"⟩, prog_1_method_45_code, 1, some .int, 6, 5, 125),
  (⟨"SeatCast", "night", "(I)I"⟩, prog_1_method_21_code, 3, some .int, 6, 6, 145),
  (⟨"SeatCast", "says", "(I)I"⟩, prog_1_method_22_code, 4, some .int, 6, 6, 145),
  (⟨"SeatCast", "best", "(I)I"⟩, prog_1_method_23_code, 6, some .int, 6, 5, 125),
  (⟨"SeatCast", "change", "(I)I"⟩, prog_1_method_24_code, 7, some .int, 6, 6, 145),
  (⟨"SeatCast", "whichOrHowMany", "(III)I"⟩, prog_1_method_49_code, 3, some .int, 6, 1, 12),
  (⟨"SeatCast", "role", "(II)I"⟩, prog_1_method_25_code, 7, some .int, 6, 5, 125),
  (⟨"SeatCast", "cut", "(I)I"⟩, prog_1_method_26_code, 6, some .int, 6, 5, 125),
  (⟨"SeatCast", "bitsBelow", "(I)I"⟩, prog_1_method_53_code, 1, some .int, 6, 1, 12),
  (⟨"SeatCast", "louder", "(II)I"⟩, prog_1_method_27_code, 6, some .int, 6, 6, 145),
  (⟨"SeatCast", "peace", "(I)I"⟩, prog_1_method_28_code, 7, some .int, 6, 6, 147),
  (⟨"SeatCast", "spokenInPeace", "(II)I"⟩, prog_1_method_47_code, 3, some .int, 6, 5, 125),
  (⟨"SeatCast", "without", "(I)I"⟩, prog_1_method_29_code, 2, some .int, 6, 5, 125),
  (⟨"SeatCast", "row", "(I)I"⟩, prog_1_method_30_code, 6, some .int, 6, 5, 125),
  (⟨"SeatCast", "share", "(II)J"⟩, prog_1_method_31_code, 10, some .long, 6, 6, 146),
  (⟨"SeatCast", "lowestTerms", "(JJI)J"⟩, prog_1_method_57_code, 7, some .long, 6, 2, 42),
  (⟨"SeatCast", "commonDivisor", "(JJ)J"⟩, prog_1_method_58_code, 11, some .long, 6, 1, 12),
  (⟨"SeatCast", "spokenBy", "(I)I"⟩, prog_1_method_46_code, 2, some .int, 6, 5, 125),
  (⟨"SeatCast", "mean", "(II)J"⟩, prog_1_method_32_code, 3, some .long, 6, 6, 154),
  (⟨"SeatCast", "spokenByOdds", "(III)J"⟩, prog_1_method_48_code, 10, some .long, 6, 5, 125),
  (⟨"SeatCast", "power", "(II)J"⟩, prog_1_method_56_code, 5, some .long, 6, 1, 12),
  (⟨"SeatCast", "luck", "(III)J"⟩, prog_1_method_33_code, 4, some .long, 6, 6, 154),
  (⟨"SeatCast", "see", "(II)I"⟩, prog_1_method_34_code, 3, some .int, 6, 3, 55),
  (⟨"SeatCast", "forget", "(I)I"⟩, prog_1_method_35_code, 3, some .int, 6, 2, 34),
  (⟨"SeatCast", "fits", "(I)I"⟩, prog_1_method_36_code, 7, some .int, 6, 5, 125),
  (⟨"SeatCast", "drift", "(III)I"⟩, prog_1_method_37_code, 9, some .int, 6, 5, 125),
  (⟨"SeatCast", "nextSeed", "(I)I"⟩, prog_1_method_54_code, 1, some .int, 6, 1, 12),
  (⟨"SeatCast", "drawn", "(II)I"⟩, prog_1_method_55_code, 2, some .int, 6, 1, 12),
  (⟨"SeatCast", "keep", "(I)I"⟩, prog_1_method_38_code, 3, some .int, 6, 2, 81),
  (⟨"SeatCast", "back", "(I)I"⟩, prog_1_method_39_code, 2, some .int, 6, 6, 145),
  (⟨"SeatCast", "sheet", "(III)I"⟩, prog_1_method_40_code, 4, some .int, 6, 2, 35),
  (⟨"SeatCast", "lay", "(III)I"⟩, prog_1_method_41_code, 6, some .int, 6, 3, 56),
  (⟨"SeatCast", "read", "(IIII)I"⟩, prog_1_method_42_code, 10, some .int, 6, 4, 81),
  (⟨"SeatCast", "isRefused", "(I)Z"⟩, prog_1_method_50_code, 1, some .boolean, 6, 1, 12),
  (⟨"SeatCast", "torn", "()I"⟩, prog_1_method_43_code, 1, some .int, 6, 1, 12),
  (⟨"SeatCast", "count", "(I)I"⟩, prog_1_method_44_code, 2, some .int, 6, 3, 55),
  (⟨"SeatCastModel", "firstDraft", "()V"⟩, prog_9_method_5_code, 2, none, 7, 1, 12),
  (⟨"SeatCastModel", "keepDraft", "()V"⟩, prog_9_method_6_code, 2, none, 7, 1, 12),
  (⟨"SeatCastModel", "feed", "(I)I"⟩, prog_9_method_7_code, 2, some .int, 7, 2, 37),
  (⟨"SeatCastModel", "in", "(JJJ)Z"⟩, prog_9_method_3_code, 6, some .boolean, 7, 1, 12),
  (⟨"SeatCastModel", "end", "(I)I"⟩, prog_9_method_8_code, 3, some .int, 7, 2, 37),
  (⟨"SeatCastModel", "text", "()I"⟩, prog_9_method_22_code, 2, some .int, 7, 7, 150),
  (⟨"SeatCastModel", "next", "()V"⟩, prog_9_method_14_code, 2, none, 7, 2, 37),
  (⟨"SeatCastModel", "byteAt", "(I)I"⟩, prog_9_method_10_code, 2, some .int, 7, 1, 12),
  (⟨"SeatCastModel", "needs", "(ZI)V"⟩, prog_9_method_9_code, 3, none, 7, 1, 12),
  (⟨"SeatCastModel", "readLine", "()V"⟩, prog_9_method_21_code, 3, none, 7, 6, 128),
  (⟨"SeatCastModel", "lineNow", "()I"⟩, prog_9_method_13_code, 1, some .int, 7, 3, 57),
  (⟨"SeatCastModel", "is", "(IIII)Z"⟩, prog_9_method_11_code, 5, some .boolean, 7, 2, 33),
  (⟨"SeatCastModel", "ends", "(II)Z"⟩, prog_9_method_12_code, 3, some .boolean, 7, 2, 33),
  (⟨"SeatCastModel", "readLineOf", "(I)V"⟩, prog_9_method_20_code, 2, none, 7, 5, 107),
  (⟨"SeatCastModel", "readNumber", "(II)I"⟩, prog_9_method_16_code, 4, some .int, 7, 3, 59),
  (⟨"SeatCastModel", "looked", "(II)I"⟩, prog_9_method_15_code, 3, some .int, 7, 2, 37),
  (⟨"SeatCastModel", "readPart", "()V"⟩, prog_9_method_18_code, 3, none, 7, 4, 82),
  (⟨"SeatCastModel", "lookedSeat", "()I"⟩, prog_9_method_17_code, 2, some .int, 7, 3, 59),
  (⟨"SeatCastModel", "readPerson", "(Z)V"⟩, prog_9_method_19_code, 6, none, 7, 4, 82),
  (⟨"SeatCastModel", "flag", "(Z)I"⟩, prog_9_method_4_code, 1, some .int, 7, 1, 12),
  (⟨"SeatCastModel", "fault", "()I"⟩, prog_9_method_23_code, 1, some .int, 7, 1, 12),
  (⟨"SeatCastModel", "rule", "(I)I"⟩, prog_9_method_38_code, 2, some .int, 7, 1, 12),
  (⟨"SeatCastModel", "seat", "(II)I"⟩, prog_9_method_40_code, 3, some .int, 7, 3, 58),
  (⟨"SeatCastModel", "isSeat", "(I)Z"⟩, prog_9_method_25_code, 2, some .boolean, 7, 2, 37),
  (⟨"SeatCastModel", "seats", "()I"⟩, prog_9_method_24_code, 1, some .int, 7, 1, 12),
  (⟨"SeatCastModel", "whoIsIn", "(I)I"⟩, prog_9_method_39_code, 4, some .int, 7, 1, 12),
  (⟨"SeatCastModel", "one", "(II)I"⟩, prog_9_method_41_code, 3, some .int, 7, 3, 58),
  (⟨"SeatCastModel", "isOne", "(I)Z"⟩, prog_9_method_26_code, 2, some .boolean, 7, 2, 37),
  (⟨"SeatCastModel", "line", "(II)I"⟩, prog_9_method_42_code, 3, some .int, 7, 3, 58),
  (⟨"SeatCastModel", "isLine", "(I)Z"⟩, prog_9_method_27_code, 2, some .boolean, 7, 2, 37),
  (⟨"SeatCastModel", "sit", "(II)I"⟩, prog_9_method_44_code, 4, some .int, 7, 3, 58),
  (⟨"SeatCastModel", "becomes", "(II)I"⟩, prog_9_method_43_code, 4, some .int, 7, 1, 12),
  (⟨"SeatCastModel", "swap", "(II)I"⟩, prog_9_method_45_code, 5, some .int, 7, 3, 58),
  (⟨"SeatCastModel", "part", "(II)I"⟩, prog_9_method_46_code, 3, some .int, 7, 3, 58),
  (⟨"SeatCastModel", "voice", "(II)I"⟩, prog_9_method_47_code, 3, some .int, 7, 3, 58),
  (⟨"SeatCastModel", "comes", "(II)I"⟩, prog_9_method_48_code, 3, some .int, 7, 3, 58),
  (⟨"SeatCastModel", "feud", "(IIZ)I"⟩, prog_9_method_49_code, 6, some .int, 7, 3, 58),
  (⟨"SeatCastModel", "law", "(I)I"⟩, prog_9_method_50_code, 2, some .int, 7, 2, 37),
  (⟨"SeatCastModel", "opens", "(IZ)I"⟩, prog_9_method_51_code, 3, some .int, 7, 3, 58),
  (⟨"SeatCastModel", "far", "(II)I"⟩, prog_9_method_52_code, 3, some .int, 7, 3, 58),
  (⟨"SeatCastModel", "farOf", "(II)I"⟩, prog_9_method_31_code, 5, some .int, 7, 1, 12),
  (⟨"SeatCastModel", "heard", "(I)I"⟩, prog_9_method_53_code, 4, some .int, 7, 3, 58),
  (⟨"SeatCastModel", "starts", "()V"⟩, prog_9_method_28_code, 2, none, 7, 1, 12),
  (⟨"SeatCastModel", "of", "(II)I"⟩, prog_9_method_29_code, 3, some .int, 7, 1, 12),
  (⟨"SeatCastModel", "doesHear", "(II)Z"⟩, prog_9_method_32_code, 3, some .boolean, 7, 2, 36),
  (⟨"SeatCastModel", "speaks", "(I)I"⟩, prog_9_method_54_code, 2, some .int, 7, 8, 174),
  (⟨"SeatCastModel", "spokenNow", "()I"⟩, prog_9_method_37_code, 1, some .int, 7, 7, 154),
  (⟨"SeatCastModel", "nightNow", "()I"⟩, prog_9_method_36_code, 1, some .int, 7, 6, 134),
  (⟨"SeatCastModel", "nightBut", "(I)I"⟩, prog_9_method_35_code, 8, some .int, 7, 5, 107),
  (⟨"SeatCastModel", "speakerOf", "(II)I"⟩, prog_9_method_34_code, 6, some .int, 7, 4, 82),
  (⟨"SeatCastModel", "canSpeak", "(III)Z"⟩, prog_9_method_33_code, 5, some .boolean, 7, 3, 58),
  (⟨"SeatCastModel", "night", "(I)I"⟩, prog_9_method_55_code, 7, some .int, 7, 8, 174),
  (⟨"SeatCastModel", "isWhole", "(I)Z"⟩, prog_9_method_56_code, 5, some .boolean, 7, 1, 12),
  (⟨"SeatCastModel", "says", "(I)I"⟩, prog_9_method_57_code, 4, some .int, 7, 8, 174),
  (⟨"SeatCastModel", "best", "(I)I"⟩, prog_9_method_61_code, 6, some .int, 7, 7, 154),
  (⟨"SeatCastModel", "seatings", "()I"⟩, prog_9_method_59_code, 3, some .int, 7, 3, 54),
  (⟨"SeatCastModel", "here", "()I"⟩, prog_9_method_58_code, 3, some .int, 7, 2, 32),
  (⟨"SeatCastModel", "seatsBy", "(I)Z"⟩, prog_9_method_60_code, 7, some .boolean, 7, 2, 34),
  (⟨"SeatCastModel", "sits", "(II)V"⟩, prog_9_method_30_code, 3, none, 7, 1, 12),
  (⟨"SeatCastModel", "change", "(I)I"⟩, prog_9_method_62_code, 8, some .int, 7, 8, 174),
  (⟨"SeatCastModel", "role", "(II)I"⟩, prog_9_method_63_code, 7, some .int, 7, 7, 154),
  (⟨"SeatCastModel", "cut", "(I)I"⟩, prog_9_method_65_code, 6, some .int, 7, 6, 134),
  (⟨"SeatCastModel", "bitsOf", "(I)I"⟩, prog_9_method_64_code, 3, some .int, 7, 1, 12),
  (⟨"SeatCastModel", "louder", "(II)I"⟩, prog_9_method_66_code, 6, some .int, 7, 8, 174),
  (⟨"SeatCastModel", "peace", "(I)I"⟩, prog_9_method_67_code, 7, some .int, 7, 8, 174),
  (⟨"SeatCastModel", "without", "(I)I"⟩, prog_9_method_69_code, 2, some .int, 7, 8, 176),
  (⟨"SeatCastModel", "spokenBut", "(I)I"⟩, prog_9_method_68_code, 3, some .int, 7, 7, 154),
  (⟨"SeatCastModel", "row", "(I)I"⟩, prog_9_method_70_code, 8, some .int, 7, 8, 176),
  (⟨"SeatCastModel", "share", "(II)J"⟩, prog_9_method_74_code, 11, some .long, 7, 8, 176),
  (⟨"SeatCastModel", "orders", "(I)J"⟩, prog_9_method_73_code, 4, some .long, 7, 1, 12),
  (⟨"SeatCastModel", "told", "(JJI)J"⟩, prog_9_method_72_code, 7, some .long, 7, 2, 41),
  (⟨"SeatCastModel", "common", "(JJ)J"⟩, prog_9_method_71_code, 10, some .long, 7, 1, 12),
  (⟨"SeatCastModel", "mean", "(II)J"⟩, prog_9_method_77_code, 6, some .long, 7, 8, 176),
  (⟨"SeatCastModel", "waysOf", "(II)J"⟩, prog_9_method_75_code, 7, some .long, 7, 3, 54),
  (⟨"SeatCastModel", "allWays", "()J"⟩, prog_9_method_76_code, 4, some .long, 7, 3, 54),
  (⟨"SeatCastModel", "luck", "(III)J"⟩, prog_9_method_78_code, 7, some .long, 7, 8, 176),
  (⟨"SeatCastModel", "see", "(II)I"⟩, prog_9_method_79_code, 3, some .int, 7, 3, 58),
  (⟨"SeatCastModel", "forget", "(I)I"⟩, prog_9_method_80_code, 2, some .int, 7, 2, 37),
  (⟨"SeatCastModel", "fits", "(I)I"⟩, prog_9_method_81_code, 7, some .int, 7, 7, 154),
  (⟨"SeatCastModel", "drift", "(III)I"⟩, prog_9_method_82_code, 12, some .int, 7, 7, 154),
  (⟨"SeatCastModel", "keep", "(I)I"⟩, prog_9_method_84_code, 3, some .int, 7, 2, 37),
  (⟨"SeatCastModel", "copies", "(II)V"⟩, prog_9_method_83_code, 4, none, 7, 1, 12),
  (⟨"SeatCastModel", "back", "(I)I"⟩, prog_9_method_85_code, 2, some .int, 7, 8, 174),
  (⟨"SeatCastModel", "sheet", "(III)I"⟩, prog_9_method_87_code, 5, some .int, 7, 3, 58),
  (⟨"SeatCastModel", "isSheet", "(II)Z"⟩, prog_9_method_86_code, 2, some .boolean, 7, 2, 37),
  (⟨"SeatCastModel", "lay", "(III)I"⟩, prog_9_method_88_code, 4, some .int, 7, 3, 58),
  (⟨"SeatCastModel", "read", "(IIII)I"⟩, prog_9_method_89_code, 11, some .int, 7, 4, 81),
  (⟨"SeatCastModel", "torn", "()I"⟩, prog_9_method_90_code, 1, some .int, 7, 1, 12),
  (⟨"SeatCastModel", "count", "(I)I"⟩, prog_9_method_91_code, 5, some .int, 7, 3, 54),
  (⟨"SeatCastLaw", "law", "([I)Z"⟩, code, 4, some .boolean, 8, 9, 206),
  (⟨"java/lang/String", "length", "()I"⟩, prog_12_method_54_code, 1, some .int, 9, 2, 32),
  (⟨"java/lang/String", "coder", "()B"⟩, prog_12_method_152_code, 1, some .byte, 9, 1, 12),
  (⟨"java/lang/String", "charAt", "(I)C"⟩, prog_12_method_56_code, 2, some .char, 9, 4, 76),
  (⟨"java/lang/String", "isLatin1", "()Z"⟩, prog_12_method_154_code, 1, some .boolean, 9, 1, 12),
  (⟨"java/lang/String", "checkIndex", "(II)V"⟩, prog_12_method_155_code, 2, none, 9, 2, 34),
  (⟨"java/lang/StringLatin1", "charAt", "([BI)C"⟩, prog_13_method_2_code, 2, some .char, 10, 3, 55),
  (⟨"jdk/internal/util/Preconditions", "checkIndex", "(IILjava/util/function/BiFunction;)I"⟩, prog_16_method_11_code, 3, some .int, 11, 1, 12),
  (⟨"java/lang/Integer", "bitCount", "(I)I"⟩, prog_10_method_49_code, 1, some .int, 12, 1, 12)]
def zmd : MethodName × ByteArray × Nat × Option FieldType × Nat × Nat × Nat := (⟨"", "", ""⟩, ByteArray.mk #[], 0, none, 99, 0, 0)
def zm (mi : Nat) : MethodName × ByteArray × Nat × Option FieldType × Nat × Nat × Nat := zmt.getD mi zmd
def zyn (mi : Nat) : MethodName := (zm mi).1
def zbt (mi : Nat) : ByteArray := (zm mi).2.1
def znl (mi : Nat) : Nat := (zm mi).2.2.1
def zrtt (mi : Nat) : Option FieldType := (zm mi).2.2.2.1
def zow (mi : Nat) : Nat := (zm mi).2.2.2.2.1
def zfr (mi : Nat) : Nat := (zm mi).2.2.2.2.2.1
def zlo (mi : Nat) : Nat := (zm mi).2.2.2.2.2.2
/-! links of methods: whose code, its entry, which method, a nest mate's, where the word stands, how many parameters, static or not -/
def zML : List (Nat × Nat × Nat × Bool × Nat × Nat × Nat) := [(0, 42, 0, false, 115, 0, 0),
  (0, 45, 1, false, 119, 2, 0),
  (8, 13, 60, false, 343, 1, 0),
  (6, 60, 61, false, 347, 3, 1),
  (6, 64, 59, false, 350, 1, 0),
  (8, 18, 62, false, 354, 1, 0),
  (8, 22, 63, false, 358, 0, 0),
  (6, 74, 30, false, 362, 0, 0),
  (2, 25, 0, false, 366, 0, 0),
  (2, 51, 31, false, 367, 0, 0),
  (2, 160, 61, true, 371, 3, 1),
  (2, 171, 32, false, 372, 2, 0),
  (2, 174, 33, false, 376, 2, 0),
  (2, 64, 34, false, 380, 2, 0),
  (2, 57, 35, false, 384, 0, 0),
  (2, 70, 36, false, 389, 1, 0),
  (2, 177, 207, false, 393, 0, 0),
  (9, 335, 208, false, 397, 0, 0),
  (2, 181, 209, false, 403, 1, 0),
  (9, 492, 210, false, 407, 0, 0),
  (9, 495, 212, false, 411, 2, 1),
  (10, 9, 211, false, 414, 2, 1),
  (9, 1059, 213, false, 419, 3, 1),
  (2, 74, 37, false, 441, 0, 0),
  (2, 102, 38, false, 445, 2, 0),
  (2, 154, 39, false, 449, 2, 0),
  (2, 106, 40, false, 453, 0, 0),
  (2, 109, 1, false, 457, 2, 0),
  (2, 79, 41, false, 459, 0, 0),
  (2, 84, 42, false, 464, 1, 0),
  (2, 120, 2, false, 468, 1, 0),
  (2, 124, 43, false, 472, 0, 0),
  (2, 128, 3, false, 476, 4, 0),
  (2, 92, 44, false, 482, 1, 0),
  (2, 135, 4, false, 486, 2, 0),
  (0, 112, 5, false, 490, 2, 0),
  (2, 99, 45, false, 496, 0, 0),
  (2, 60, 46, false, 500, 0, 0),
  (2, 142, 6, false, 504, 0, 0),
  (6, 89, 7, false, 508, 1, 0),
  (8, 27, 64, false, 515, 0, 0),
  (8, 31, 65, false, 519, 1, 0),
  (8, 35, 66, false, 523, 2, 0),
  (6, 111, 8, false, 527, 1, 0),
  (0, 77, 6, false, 531, 0, 0),
  (0, 81, 61, true, 532, 3, 1),
  (6, 118, 2, false, 533, 1, 0),
  (8, 40, 67, false, 534, 2, 0),
  (6, 122, 9, false, 538, 1, 0),
  (8, 44, 68, false, 542, 2, 0),
  (6, 137, 10, false, 546, 1, 0),
  (6, 143, 11, false, 550, 1, 0),
  (6, 146, 69, false, 554, 1, 1),
  (8, 48, 70, false, 557, 2, 0),
  (6, 150, 12, false, 561, 2, 0),
  (0, 85, 9, false, 565, 1, 0),
  (0, 89, 8, false, 566, 1, 0),
  (0, 92, 2, false, 567, 1, 0),
  (8, 52, 71, false, 568, 2, 0),
  (6, 154, 13, false, 572, 2, 0),
  (8, 56, 72, false, 576, 2, 0),
  (8, 60, 73, false, 580, 2, 0),
  (8, 64, 74, false, 584, 2, 0),
  (8, 68, 75, false, 588, 3, 0),
  (6, 158, 14, false, 592, 2, 0),
  (6, 162, 15, false, 596, 3, 0),
  (8, 73, 76, false, 600, 1, 0),
  (8, 77, 77, false, 604, 2, 0),
  (6, 166, 5, false, 608, 2, 0),
  (8, 82, 78, false, 609, 2, 0),
  (6, 170, 16, false, 613, 2, 0),
  (8, 86, 79, false, 620, 1, 0),
  (6, 173, 17, false, 624, 1, 0),
  (6, 176, 18, false, 628, 1, 0),
  (0, 101, 16, false, 632, 2, 0),
  (8, 90, 80, false, 633, 1, 0),
  (6, 179, 81, false, 637, 0, 0),
  (6, 199, 24, false, 641, 3, 0),
  (1, 24, 11, false, 645, 1, 0),
  (1, 28, 25, false, 646, 4, 1),
  (1, 56, 26, false, 649, 3, 1),
  (1, 60, 16, false, 652, 2, 0),
  (1, 67, 14, false, 653, 2, 0),
  (1, 35, 214, false, 654, 1, 1),
  (8, 94, 82, false, 660, 1, 0),
  (6, 189, 27, false, 664, 1, 0),
  (6, 193, 28, false, 668, 1, 0),
  (8, 98, 83, false, 672, 1, 0),
  (8, 102, 84, false, 676, 1, 0),
  (6, 196, 47, false, 680, 1, 0),
  (3, 18, 19, false, 684, 0, 0),
  (3, 34, 17, false, 688, 1, 0),
  (3, 38, 48, false, 689, 2, 0),
  (3, 45, 49, false, 693, 3, 0),
  (3, 64, 6, false, 697, 0, 0),
  (6, 203, 50, false, 698, 1, 0),
  (6, 206, 51, false, 703, 1, 0),
  (8, 106, 85, false, 707, 1, 0),
  (6, 213, 86, false, 711, 3, 1),
  (8, 110, 87, false, 714, 2, 0),
  (8, 114, 88, false, 718, 1, 0),
  (6, 217, 89, false, 722, 1, 1),
  (6, 220, 214, false, 725, 1, 1),
  (8, 118, 90, false, 726, 2, 0),
  (8, 122, 91, false, 730, 1, 0),
  (6, 225, 92, false, 734, 2, 0),
  (8, 126, 93, false, 738, 1, 0),
  (8, 130, 94, false, 742, 1, 0),
  (6, 228, 20, false, 746, 1, 0),
  (0, 105, 17, false, 750, 1, 0),
  (8, 134, 95, false, 751, 2, 0),
  (6, 233, 96, false, 756, 3, 1),
  (6, 319, 97, false, 762, 2, 1),
  (6, 237, 21, false, 765, 0, 0),
  (6, 243, 98, false, 771, 1, 0),
  (8, 139, 99, false, 775, 2, 0),
  (6, 246, 100, false, 779, 3, 0),
  (6, 308, 101, false, 783, 2, 1),
  (8, 143, 102, false, 786, 3, 0),
  (8, 148, 103, false, 790, 2, 0),
  (6, 250, 22, false, 794, 2, 0),
  (8, 152, 104, false, 798, 1, 0),
  (8, 156, 105, false, 802, 1, 0),
  (6, 256, 29, false, 806, 1, 0),
  (6, 259, 52, false, 810, 1, 0),
  (3, 55, 214, false, 814, 1, 1),
  (3, 61, 53, false, 815, 1, 0),
  (6, 262, 54, false, 819, 2, 0),
  (8, 160, 106, false, 823, 3, 0),
  (6, 266, 107, false, 827, 1, 1),
  (6, 269, 108, false, 831, 2, 1),
  (6, 272, 6, false, 834, 0, 0),
  (8, 165, 109, false, 835, 1, 0),
  (8, 169, 110, false, 839, 1, 0),
  (8, 173, 111, false, 843, 3, 0),
  (6, 275, 55, false, 847, 2, 0),
  (8, 177, 112, false, 851, 3, 0),
  (6, 281, 56, false, 855, 2, 0),
  (4, 22, 61, true, 859, 3, 1),
  (6, 284, 57, false, 860, 2, 0),
  (8, 181, 113, false, 864, 4, 0),
  (6, 287, 58, false, 868, 2, 0),
  (4, 26, 56, false, 872, 2, 0),
  (6, 293, 114, false, 873, 1, 1),
  (8, 186, 115, false, 876, 0, 0),
  (8, 190, 116, false, 880, 1, 0),
  (6, 299, 23, false, 884, 0, 0),
  (0, 108, 69, true, 888, 1, 1),
  (7, 47, 117, false, 895, 0, 0),
  (7, 50, 118, false, 899, 0, 0),
  (8, 17, 119, false, 1000, 1, 0),
  (7, 92, 120, false, 1005, 3, 1),
  (8, 21, 121, false, 1008, 1, 0),
  (8, 26, 122, false, 1012, 0, 0),
  (7, 145, 123, false, 1016, 0, 0),
  (7, 111, 124, false, 1020, 1, 0),
  (7, 137, 125, false, 1028, 2, 0),
  (7, 173, 126, false, 1032, 0, 0),
  (7, 166, 127, false, 1036, 0, 0),
  (7, 115, 128, false, 1040, 4, 0),
  (7, 119, 129, false, 1044, 2, 0),
  (7, 169, 130, false, 1048, 1, 0),
  (7, 152, 131, false, 1052, 2, 0),
  (7, 141, 132, false, 1056, 2, 0),
  (7, 155, 133, false, 1060, 0, 0),
  (7, 148, 134, false, 1064, 0, 0),
  (7, 158, 135, false, 1068, 1, 0),
  (7, 162, 136, false, 1072, 1, 1),
  (8, 30, 137, false, 1075, 0, 0),
  (8, 34, 138, false, 1079, 1, 0),
  (8, 39, 139, false, 1083, 2, 0),
  (7, 204, 140, false, 1087, 1, 0),
  (7, 176, 141, false, 1091, 0, 0),
  (7, 208, 142, false, 1095, 1, 0),
  (8, 43, 143, false, 1099, 2, 0),
  (7, 211, 144, false, 1103, 1, 0),
  (8, 47, 145, false, 1108, 2, 0),
  (7, 216, 146, false, 1112, 1, 0),
  (8, 51, 147, false, 1116, 2, 0),
  (7, 219, 148, false, 1120, 2, 0),
  (8, 55, 149, false, 1124, 2, 0),
  (8, 59, 150, false, 1128, 2, 0),
  (8, 63, 151, false, 1133, 2, 0),
  (8, 67, 152, false, 1137, 2, 0),
  (8, 72, 153, false, 1142, 3, 0),
  (8, 76, 154, false, 1146, 1, 0),
  (8, 81, 155, false, 1150, 2, 0),
  (8, 85, 156, false, 1154, 2, 0),
  (7, 182, 157, false, 1158, 2, 0),
  (8, 89, 158, false, 1162, 1, 0),
  (7, 198, 159, false, 1166, 0, 0),
  (7, 179, 160, false, 1170, 2, 0),
  (7, 185, 161, false, 1174, 2, 0),
  (8, 93, 162, false, 1178, 1, 0),
  (7, 226, 163, false, 1182, 0, 0),
  (7, 201, 164, false, 1186, 0, 0),
  (7, 195, 165, false, 1190, 1, 0),
  (7, 192, 166, false, 1194, 2, 0),
  (7, 188, 167, false, 1198, 3, 0),
  (8, 97, 168, false, 1202, 1, 0),
  (7, 229, 169, false, 1206, 1, 0),
  (8, 101, 170, false, 1210, 1, 0),
  (8, 105, 171, false, 1214, 1, 0),
  (7, 239, 172, false, 1218, 0, 0),
  (7, 232, 173, false, 1222, 0, 0),
  (7, 242, 174, false, 1226, 1, 0),
  (7, 235, 175, false, 1230, 2, 0),
  (8, 109, 176, false, 1234, 1, 0),
  (8, 113, 177, false, 1238, 2, 0),
  (8, 117, 178, false, 1242, 1, 0),
  (7, 246, 179, false, 1247, 1, 1),
  (8, 121, 180, false, 1250, 2, 0),
  (8, 125, 181, false, 1254, 1, 0),
  (8, 129, 182, false, 1258, 1, 0),
  (7, 249, 183, false, 1262, 1, 0),
  (8, 133, 184, false, 1266, 1, 0),
  (8, 138, 185, false, 1270, 2, 0),
  (7, 258, 186, false, 1275, 1, 1),
  (7, 262, 187, false, 1278, 3, 1),
  (7, 252, 188, false, 1281, 2, 1),
  (8, 142, 189, false, 1284, 2, 0),
  (7, 268, 190, false, 1289, 2, 0),
  (7, 272, 191, false, 1293, 0, 0),
  (8, 147, 192, false, 1297, 3, 0),
  (8, 151, 193, false, 1301, 2, 0),
  (8, 155, 194, false, 1305, 1, 0),
  (8, 159, 195, false, 1309, 1, 0),
  (8, 164, 196, false, 1313, 3, 0),
  (8, 168, 197, false, 1319, 1, 0),
  (7, 279, 198, false, 1323, 2, 0),
  (8, 172, 199, false, 1327, 1, 0),
  (8, 176, 200, false, 1331, 3, 0),
  (7, 284, 201, false, 1335, 2, 1),
  (8, 180, 202, false, 1339, 3, 0),
  (8, 185, 203, false, 1343, 4, 0),
  (7, 289, 147, false, 1348, 2, 0),
  (8, 189, 204, false, 1349, 0, 0),
  (8, 193, 205, false, 1353, 1, 0)]
def zmlw (f : Nat × Nat × Nat × Bool × Nat × Nat × Nat) : Cond := match f.2.2.2.1 with
  | true => .methodLinkNest (zon f.1) f.2.1 (zyn f.2.2.1) "SeatCast"
  | false => .methodLink (zon f.1) f.2.1 (zyn f.2.2.1)
theorem zML_ok : ∀ f ∈ zML, lw_tbl[f.2.2.2.2.1]? = some (zmlw f) ∧ zgw (zmlw f) = true := by decide +kernel
theorem zML_desc : ∀ f ∈ zML, (parseMethodDescriptor (zyn f.2.2.1).desc).map (fun d => d.parameters.length) = some f.2.2.2.2.2.1 ∧ f.2.2.1 < 215 ∧ f.2.2.1 ≠ 206 := by decide +kernel
theorem zm_plain : ∀ mi, mi < 215 → plainName (zyn mi).cls = true ∧ (zyn mi).cls ≠ "java/lang/invoke/MethodHandle" ∧ (zyn mi).cls ≠ "java/lang/invoke/VarHandle" := by decide +kernel
/-! words of methods: the method, static or not, where the words stand (kind, selects, initialized) -/
def zMW : List (Nat × Nat × Nat × Nat × Nat) := [(0, 0, 116, 117, 66), (1, 0, 120, 121, 66), (2, 0, 469, 470, 66), (3, 0, 477, 478, 66), (4, 0, 487, 488, 66), (5, 0, 491, 492, 66), (6, 0, 505, 506, 66), (7, 0, 509, 510, 66), (8, 0, 528, 529, 66), (9, 0, 539, 540, 66), (10, 0, 547, 548, 66), (11, 0, 551, 552, 66), (12, 0, 562, 563, 66), (13, 0, 573, 574, 66), (14, 0, 593, 594, 66), (15, 0, 597, 598, 66), (16, 0, 614, 615, 66), (17, 0, 625, 626, 66), (18, 0, 629, 630, 66), (19, 0, 685, 686, 66), (20, 0, 747, 748, 66), (21, 0, 766, 767, 66), (22, 0, 795, 796, 66), (23, 0, 885, 886, 66), (24, 0, 642, 643, 67), (25, 1, 647, 0, 67), (26, 1, 650, 0, 67), (27, 0, 665, 666, 67), (28, 0, 669, 670, 67), (29, 0, 807, 808, 67), (30, 0, 363, 364, 64), (31, 0, 369, 0, 64), (32, 0, 374, 1, 64), (33, 0, 378, 2, 64), (34, 0, 382, 3, 64), (35, 0, 386, 4, 64), (36, 0, 391, 5, 64), (37, 0, 443, 6, 64), (38, 0, 447, 7, 64), (39, 0, 451, 8, 64), (40, 0, 455, 9, 64), (41, 0, 461, 10, 64), (42, 0, 466, 11, 64), (43, 0, 474, 12, 64), (44, 0, 484, 13, 64), (45, 0, 498, 14, 64), (46, 0, 502, 15, 64), (47, 0, 681, 682, 68), (48, 0, 691, 17, 68), (49, 0, 695, 18, 68), (50, 0, 699, 700, 68), (51, 0, 704, 705, 68), (52, 0, 811, 812, 68), (53, 0, 817, 22, 68), (54, 0, 820, 821, 68), (55, 0, 848, 849, 69), (56, 0, 856, 857, 69), (57, 0, 861, 862, 69), (58, 0, 869, 870, 69), (59, 0, 351, 352, 65), (60, 0, 344, 345, 63), (61, 1, 348, 0, 63), (62, 0, 355, 356, 63), (63, 0, 359, 360, 63), (64, 0, 516, 517, 63), (65, 0, 520, 521, 63), (66, 0, 524, 525, 63), (67, 0, 535, 536, 63), (68, 0, 543, 544, 63), (69, 1, 555, 0, 63), (70, 0, 558, 559, 63), (71, 0, 569, 570, 63), (72, 0, 577, 578, 63), (73, 0, 581, 582, 63), (74, 0, 585, 586, 63), (75, 0, 589, 590, 63), (76, 0, 601, 602, 63), (77, 0, 605, 606, 63), (78, 0, 610, 611, 63), (79, 0, 621, 622, 63), (80, 0, 634, 635, 63), (81, 0, 639, 16, 63), (82, 0, 661, 662, 63), (83, 0, 673, 674, 63), (84, 0, 677, 678, 63), (85, 0, 708, 709, 63), (86, 1, 712, 0, 63), (87, 0, 715, 716, 63), (88, 0, 719, 720, 63), (89, 1, 723, 0, 63), (90, 0, 727, 728, 63), (91, 0, 731, 732, 63), (92, 0, 736, 19, 63), (93, 0, 739, 740, 63), (94, 0, 743, 744, 63), (95, 0, 752, 753, 63), (96, 1, 757, 0, 63), (97, 1, 763, 0, 63), (98, 0, 773, 20, 63), (99, 0, 776, 777, 63), (100, 0, 781, 21, 63), (101, 1, 784, 0, 63), (102, 0, 787, 788, 63), (103, 0, 791, 792, 63), (104, 0, 799, 800, 63), (105, 0, 803, 804, 63), (106, 0, 824, 825, 63), (107, 1, 828, 0, 63), (108, 1, 832, 0, 63), (109, 0, 836, 837, 63), (110, 0, 840, 841, 63), (111, 0, 844, 845, 63), (112, 0, 852, 853, 63), (113, 0, 865, 866, 63), (114, 1, 874, 0, 63), (115, 0, 877, 878, 63), (116, 0, 881, 882, 63), (117, 0, 897, 23, 70), (118, 0, 901, 24, 70), (119, 0, 1001, 1002, 70), (120, 1, 1006, 0, 70), (121, 0, 1009, 1010, 70), (122, 0, 1013, 1014, 70), (123, 0, 1018, 25, 70), (124, 0, 1022, 26, 70), (125, 0, 1030, 27, 70), (126, 0, 1034, 28, 70), (127, 0, 1038, 29, 70), (128, 0, 1042, 30, 70), (129, 0, 1046, 31, 70), (130, 0, 1050, 32, 70), (131, 0, 1054, 33, 70), (132, 0, 1058, 34, 70), (133, 0, 1062, 35, 70), (134, 0, 1066, 36, 70), (135, 0, 1070, 37, 70), (136, 1, 1073, 0, 70), (137, 0, 1076, 1077, 70), (138, 0, 1080, 1081, 70), (139, 0, 1084, 1085, 70), (140, 0, 1089, 38, 70), (141, 0, 1093, 39, 70), (142, 0, 1097, 40, 70), (143, 0, 1100, 1101, 70), (144, 0, 1105, 41, 70), (145, 0, 1109, 1110, 70), (146, 0, 1114, 42, 70), (147, 0, 1117, 1118, 70), (148, 0, 1122, 43, 70), (149, 0, 1125, 1126, 70), (150, 0, 1129, 1130, 70), (151, 0, 1134, 1135, 70), (152, 0, 1138, 1139, 70), (153, 0, 1143, 1144, 70), (154, 0, 1147, 1148, 70), (155, 0, 1151, 1152, 70), (156, 0, 1155, 1156, 70), (157, 0, 1160, 44, 70), (158, 0, 1163, 1164, 70), (159, 0, 1168, 45, 70), (160, 0, 1172, 46, 70), (161, 0, 1176, 47, 70), (162, 0, 1179, 1180, 70), (163, 0, 1184, 48, 70), (164, 0, 1188, 49, 70), (165, 0, 1192, 50, 70), (166, 0, 1196, 51, 70), (167, 0, 1200, 52, 70), (168, 0, 1203, 1204, 70), (169, 0, 1208, 53, 70), (170, 0, 1211, 1212, 70), (171, 0, 1215, 1216, 70), (172, 0, 1220, 54, 70), (173, 0, 1224, 55, 70), (174, 0, 1228, 56, 70), (175, 0, 1232, 57, 70), (176, 0, 1235, 1236, 70), (177, 0, 1239, 1240, 70), (178, 0, 1243, 1244, 70), (179, 1, 1248, 0, 70), (180, 0, 1251, 1252, 70), (181, 0, 1255, 1256, 70), (182, 0, 1259, 1260, 70), (183, 0, 1264, 58, 70), (184, 0, 1267, 1268, 70), (185, 0, 1271, 1272, 70), (186, 1, 1276, 0, 70), (187, 1, 1279, 0, 70), (188, 1, 1282, 0, 70), (189, 0, 1285, 1286, 70), (190, 0, 1291, 59, 70), (191, 0, 1295, 60, 70), (192, 0, 1298, 1299, 70), (193, 0, 1302, 1303, 70), (194, 0, 1306, 1307, 70), (195, 0, 1310, 1311, 70), (196, 0, 1314, 1315, 70), (197, 0, 1320, 1321, 70), (198, 0, 1325, 61, 70), (199, 0, 1328, 1329, 70), (200, 0, 1332, 1333, 70), (201, 1, 1336, 0, 70), (202, 0, 1340, 1341, 70), (203, 0, 1344, 1345, 70), (204, 0, 1350, 1351, 70), (205, 0, 1354, 1355, 70), (207, 0, 394, 395, 71), (208, 0, 398, 399, 71), (209, 0, 404, 405, 71), (210, 0, 408, 409, 71), (211, 1, 415, 0, 71), (212, 1, 412, 0, 72), (213, 1, 420, 0, 73), (214, 1, 655, 0, 77)]
def zmw1 (f : Nat × Nat × Nat × Nat × Nat) : Cond := match f.2.1 with
  | 0 => .instanceMethod (zyn f.1)
  | _ => .static (zyn f.1)
theorem zMW_1 : ∀ f ∈ zMW, lw_tbl[f.2.2.1]? = some (zmw1 f) ∧ zgw (zmw1 f) = true := by decide +kernel
theorem zMW_2 : ∀ f ∈ zMW, f.2.1 = 0 → lw_tbl[f.2.2.2.1]? = some (.selects (zyn f.1).cls (zyn f.1) (zyn f.1)) ∧ zgw (.selects (zyn f.1).cls (zyn f.1) (zyn f.1)) = true := by decide +kernel
theorem zMW_3 : ∀ f ∈ zMW, lw_tbl[f.2.2.2.2]? = some (.initialized (zyn f.1).cls) ∧ zgw (.initialized (zyn f.1).cls) = true := by decide +kernel
set_option maxRecDepth 100000 in
theorem zcw_0 : lw_tbl[118]? = some (.code (zyn 0) (zbt 0) (znl 0) (zrtt 0)) := rfl
set_option maxRecDepth 100000 in
theorem zcw_1 : lw_tbl[122]? = some (.code (zyn 1) (zbt 1) (znl 1) (zrtt 1)) := rfl
set_option maxRecDepth 100000 in
theorem zcw_2 : lw_tbl[471]? = some (.code (zyn 2) (zbt 2) (znl 2) (zrtt 2)) := rfl
set_option maxRecDepth 100000 in
theorem zcw_3 : lw_tbl[479]? = some (.code (zyn 3) (zbt 3) (znl 3) (zrtt 3)) := rfl
set_option maxRecDepth 100000 in
theorem zcw_4 : lw_tbl[489]? = some (.code (zyn 4) (zbt 4) (znl 4) (zrtt 4)) := rfl
set_option maxRecDepth 100000 in
theorem zcw_5 : lw_tbl[493]? = some (.code (zyn 5) (zbt 5) (znl 5) (zrtt 5)) := rfl
set_option maxRecDepth 100000 in
theorem zcw_6 : lw_tbl[507]? = some (.code (zyn 6) (zbt 6) (znl 6) (zrtt 6)) := rfl
set_option maxRecDepth 100000 in
theorem zcw_7 : lw_tbl[511]? = some (.code (zyn 7) (zbt 7) (znl 7) (zrtt 7)) := rfl
set_option maxRecDepth 100000 in
theorem zcw_8 : lw_tbl[530]? = some (.code (zyn 8) (zbt 8) (znl 8) (zrtt 8)) := rfl
set_option maxRecDepth 100000 in
theorem zcw_9 : lw_tbl[541]? = some (.code (zyn 9) (zbt 9) (znl 9) (zrtt 9)) := rfl
set_option maxRecDepth 100000 in
theorem zcw_10 : lw_tbl[549]? = some (.code (zyn 10) (zbt 10) (znl 10) (zrtt 10)) := rfl
set_option maxRecDepth 100000 in
theorem zcw_11 : lw_tbl[553]? = some (.code (zyn 11) (zbt 11) (znl 11) (zrtt 11)) := rfl
set_option maxRecDepth 100000 in
theorem zcw_12 : lw_tbl[564]? = some (.code (zyn 12) (zbt 12) (znl 12) (zrtt 12)) := rfl
set_option maxRecDepth 100000 in
theorem zcw_13 : lw_tbl[575]? = some (.code (zyn 13) (zbt 13) (znl 13) (zrtt 13)) := rfl
set_option maxRecDepth 100000 in
theorem zcw_14 : lw_tbl[595]? = some (.code (zyn 14) (zbt 14) (znl 14) (zrtt 14)) := rfl
set_option maxRecDepth 100000 in
theorem zcw_15 : lw_tbl[599]? = some (.code (zyn 15) (zbt 15) (znl 15) (zrtt 15)) := rfl
set_option maxRecDepth 100000 in
theorem zcw_16 : lw_tbl[616]? = some (.code (zyn 16) (zbt 16) (znl 16) (zrtt 16)) := rfl
set_option maxRecDepth 100000 in
theorem zcw_17 : lw_tbl[627]? = some (.code (zyn 17) (zbt 17) (znl 17) (zrtt 17)) := rfl
set_option maxRecDepth 100000 in
theorem zcw_18 : lw_tbl[631]? = some (.code (zyn 18) (zbt 18) (znl 18) (zrtt 18)) := rfl
set_option maxRecDepth 100000 in
theorem zcw_19 : lw_tbl[687]? = some (.code (zyn 19) (zbt 19) (znl 19) (zrtt 19)) := rfl
set_option maxRecDepth 100000 in
theorem zcw_20 : lw_tbl[749]? = some (.code (zyn 20) (zbt 20) (znl 20) (zrtt 20)) := rfl
set_option maxRecDepth 100000 in
theorem zcw_21 : lw_tbl[768]? = some (.code (zyn 21) (zbt 21) (znl 21) (zrtt 21)) := rfl
set_option maxRecDepth 100000 in
theorem zcw_22 : lw_tbl[797]? = some (.code (zyn 22) (zbt 22) (znl 22) (zrtt 22)) := rfl
set_option maxRecDepth 100000 in
theorem zcw_23 : lw_tbl[887]? = some (.code (zyn 23) (zbt 23) (znl 23) (zrtt 23)) := rfl
set_option maxRecDepth 100000 in
theorem zcw_24 : lw_tbl[644]? = some (.code (zyn 24) (zbt 24) (znl 24) (zrtt 24)) := rfl
set_option maxRecDepth 100000 in
theorem zcw_25 : lw_tbl[648]? = some (.code (zyn 25) (zbt 25) (znl 25) (zrtt 25)) := rfl
set_option maxRecDepth 100000 in
theorem zcw_26 : lw_tbl[651]? = some (.code (zyn 26) (zbt 26) (znl 26) (zrtt 26)) := rfl
set_option maxRecDepth 100000 in
theorem zcw_27 : lw_tbl[667]? = some (.code (zyn 27) (zbt 27) (znl 27) (zrtt 27)) := rfl
set_option maxRecDepth 100000 in
theorem zcw_28 : lw_tbl[671]? = some (.code (zyn 28) (zbt 28) (znl 28) (zrtt 28)) := rfl
set_option maxRecDepth 100000 in
theorem zcw_29 : lw_tbl[809]? = some (.code (zyn 29) (zbt 29) (znl 29) (zrtt 29)) := rfl
set_option maxRecDepth 100000 in
theorem zcw_30 : lw_tbl[365]? = some (.code (zyn 30) (zbt 30) (znl 30) (zrtt 30)) := rfl
set_option maxRecDepth 100000 in
theorem zcw_31 : lw_tbl[370]? = some (.code (zyn 31) (zbt 31) (znl 31) (zrtt 31)) := rfl
set_option maxRecDepth 100000 in
theorem zcw_32 : lw_tbl[375]? = some (.code (zyn 32) (zbt 32) (znl 32) (zrtt 32)) := rfl
set_option maxRecDepth 100000 in
theorem zcw_33 : lw_tbl[379]? = some (.code (zyn 33) (zbt 33) (znl 33) (zrtt 33)) := rfl
set_option maxRecDepth 100000 in
theorem zcw_34 : lw_tbl[383]? = some (.code (zyn 34) (zbt 34) (znl 34) (zrtt 34)) := rfl
set_option maxRecDepth 100000 in
theorem zcw_35 : lw_tbl[387]? = some (.code (zyn 35) (zbt 35) (znl 35) (zrtt 35)) := rfl
set_option maxRecDepth 100000 in
theorem zcw_36 : lw_tbl[392]? = some (.code (zyn 36) (zbt 36) (znl 36) (zrtt 36)) := rfl
set_option maxRecDepth 100000 in
theorem zcw_37 : lw_tbl[444]? = some (.code (zyn 37) (zbt 37) (znl 37) (zrtt 37)) := rfl
set_option maxRecDepth 100000 in
theorem zcw_38 : lw_tbl[448]? = some (.code (zyn 38) (zbt 38) (znl 38) (zrtt 38)) := rfl
set_option maxRecDepth 100000 in
theorem zcw_39 : lw_tbl[452]? = some (.code (zyn 39) (zbt 39) (znl 39) (zrtt 39)) := rfl
set_option maxRecDepth 100000 in
theorem zcw_40 : lw_tbl[456]? = some (.code (zyn 40) (zbt 40) (znl 40) (zrtt 40)) := rfl
set_option maxRecDepth 100000 in
theorem zcw_41 : lw_tbl[462]? = some (.code (zyn 41) (zbt 41) (znl 41) (zrtt 41)) := rfl
set_option maxRecDepth 100000 in
theorem zcw_42 : lw_tbl[467]? = some (.code (zyn 42) (zbt 42) (znl 42) (zrtt 42)) := rfl
set_option maxRecDepth 100000 in
theorem zcw_43 : lw_tbl[475]? = some (.code (zyn 43) (zbt 43) (znl 43) (zrtt 43)) := rfl
set_option maxRecDepth 100000 in
theorem zcw_44 : lw_tbl[485]? = some (.code (zyn 44) (zbt 44) (znl 44) (zrtt 44)) := rfl
set_option maxRecDepth 100000 in
theorem zcw_45 : lw_tbl[499]? = some (.code (zyn 45) (zbt 45) (znl 45) (zrtt 45)) := rfl
set_option maxRecDepth 100000 in
theorem zcw_46 : lw_tbl[503]? = some (.code (zyn 46) (zbt 46) (znl 46) (zrtt 46)) := rfl
set_option maxRecDepth 100000 in
theorem zcw_47 : lw_tbl[683]? = some (.code (zyn 47) (zbt 47) (znl 47) (zrtt 47)) := rfl
set_option maxRecDepth 100000 in
theorem zcw_48 : lw_tbl[692]? = some (.code (zyn 48) (zbt 48) (znl 48) (zrtt 48)) := rfl
set_option maxRecDepth 100000 in
theorem zcw_49 : lw_tbl[696]? = some (.code (zyn 49) (zbt 49) (znl 49) (zrtt 49)) := rfl
set_option maxRecDepth 100000 in
theorem zcw_50 : lw_tbl[701]? = some (.code (zyn 50) (zbt 50) (znl 50) (zrtt 50)) := rfl
set_option maxRecDepth 100000 in
theorem zcw_51 : lw_tbl[706]? = some (.code (zyn 51) (zbt 51) (znl 51) (zrtt 51)) := rfl
set_option maxRecDepth 100000 in
theorem zcw_52 : lw_tbl[813]? = some (.code (zyn 52) (zbt 52) (znl 52) (zrtt 52)) := rfl
set_option maxRecDepth 100000 in
theorem zcw_53 : lw_tbl[818]? = some (.code (zyn 53) (zbt 53) (znl 53) (zrtt 53)) := rfl
set_option maxRecDepth 100000 in
theorem zcw_54 : lw_tbl[822]? = some (.code (zyn 54) (zbt 54) (znl 54) (zrtt 54)) := rfl
set_option maxRecDepth 100000 in
theorem zcw_55 : lw_tbl[850]? = some (.code (zyn 55) (zbt 55) (znl 55) (zrtt 55)) := rfl
set_option maxRecDepth 100000 in
theorem zcw_56 : lw_tbl[858]? = some (.code (zyn 56) (zbt 56) (znl 56) (zrtt 56)) := rfl
set_option maxRecDepth 100000 in
theorem zcw_57 : lw_tbl[863]? = some (.code (zyn 57) (zbt 57) (znl 57) (zrtt 57)) := rfl
set_option maxRecDepth 100000 in
theorem zcw_58 : lw_tbl[871]? = some (.code (zyn 58) (zbt 58) (znl 58) (zrtt 58)) := rfl
set_option maxRecDepth 100000 in
theorem zcw_59 : lw_tbl[353]? = some (.code (zyn 59) (zbt 59) (znl 59) (zrtt 59)) := rfl
set_option maxRecDepth 100000 in
theorem zcw_60 : lw_tbl[346]? = some (.code (zyn 60) (zbt 60) (znl 60) (zrtt 60)) := rfl
set_option maxRecDepth 100000 in
theorem zcw_61 : lw_tbl[349]? = some (.code (zyn 61) (zbt 61) (znl 61) (zrtt 61)) := rfl
set_option maxRecDepth 100000 in
theorem zcw_62 : lw_tbl[357]? = some (.code (zyn 62) (zbt 62) (znl 62) (zrtt 62)) := rfl
set_option maxRecDepth 100000 in
theorem zcw_63 : lw_tbl[361]? = some (.code (zyn 63) (zbt 63) (znl 63) (zrtt 63)) := rfl
set_option maxRecDepth 100000 in
theorem zcw_64 : lw_tbl[518]? = some (.code (zyn 64) (zbt 64) (znl 64) (zrtt 64)) := rfl
set_option maxRecDepth 100000 in
theorem zcw_65 : lw_tbl[522]? = some (.code (zyn 65) (zbt 65) (znl 65) (zrtt 65)) := rfl
set_option maxRecDepth 100000 in
theorem zcw_66 : lw_tbl[526]? = some (.code (zyn 66) (zbt 66) (znl 66) (zrtt 66)) := rfl
set_option maxRecDepth 100000 in
theorem zcw_67 : lw_tbl[537]? = some (.code (zyn 67) (zbt 67) (znl 67) (zrtt 67)) := rfl
set_option maxRecDepth 100000 in
theorem zcw_68 : lw_tbl[545]? = some (.code (zyn 68) (zbt 68) (znl 68) (zrtt 68)) := rfl
set_option maxRecDepth 100000 in
theorem zcw_69 : lw_tbl[556]? = some (.code (zyn 69) (zbt 69) (znl 69) (zrtt 69)) := rfl
set_option maxRecDepth 100000 in
theorem zcw_70 : lw_tbl[560]? = some (.code (zyn 70) (zbt 70) (znl 70) (zrtt 70)) := rfl
set_option maxRecDepth 100000 in
theorem zcw_71 : lw_tbl[571]? = some (.code (zyn 71) (zbt 71) (znl 71) (zrtt 71)) := rfl
set_option maxRecDepth 100000 in
theorem zcw_72 : lw_tbl[579]? = some (.code (zyn 72) (zbt 72) (znl 72) (zrtt 72)) := rfl
set_option maxRecDepth 100000 in
theorem zcw_73 : lw_tbl[583]? = some (.code (zyn 73) (zbt 73) (znl 73) (zrtt 73)) := rfl
set_option maxRecDepth 100000 in
theorem zcw_74 : lw_tbl[587]? = some (.code (zyn 74) (zbt 74) (znl 74) (zrtt 74)) := rfl
set_option maxRecDepth 100000 in
theorem zcw_75 : lw_tbl[591]? = some (.code (zyn 75) (zbt 75) (znl 75) (zrtt 75)) := rfl
set_option maxRecDepth 100000 in
theorem zcw_76 : lw_tbl[603]? = some (.code (zyn 76) (zbt 76) (znl 76) (zrtt 76)) := rfl
set_option maxRecDepth 100000 in
theorem zcw_77 : lw_tbl[607]? = some (.code (zyn 77) (zbt 77) (znl 77) (zrtt 77)) := rfl
set_option maxRecDepth 100000 in
theorem zcw_78 : lw_tbl[612]? = some (.code (zyn 78) (zbt 78) (znl 78) (zrtt 78)) := rfl
set_option maxRecDepth 100000 in
theorem zcw_79 : lw_tbl[623]? = some (.code (zyn 79) (zbt 79) (znl 79) (zrtt 79)) := rfl
set_option maxRecDepth 100000 in
theorem zcw_80 : lw_tbl[636]? = some (.code (zyn 80) (zbt 80) (znl 80) (zrtt 80)) := rfl
set_option maxRecDepth 100000 in
theorem zcw_81 : lw_tbl[640]? = some (.code (zyn 81) (zbt 81) (znl 81) (zrtt 81)) := rfl
set_option maxRecDepth 100000 in
theorem zcw_82 : lw_tbl[663]? = some (.code (zyn 82) (zbt 82) (znl 82) (zrtt 82)) := rfl
set_option maxRecDepth 100000 in
theorem zcw_83 : lw_tbl[675]? = some (.code (zyn 83) (zbt 83) (znl 83) (zrtt 83)) := rfl
set_option maxRecDepth 100000 in
theorem zcw_84 : lw_tbl[679]? = some (.code (zyn 84) (zbt 84) (znl 84) (zrtt 84)) := rfl
set_option maxRecDepth 100000 in
theorem zcw_85 : lw_tbl[710]? = some (.code (zyn 85) (zbt 85) (znl 85) (zrtt 85)) := rfl
set_option maxRecDepth 100000 in
theorem zcw_86 : lw_tbl[713]? = some (.code (zyn 86) (zbt 86) (znl 86) (zrtt 86)) := rfl
set_option maxRecDepth 100000 in
theorem zcw_87 : lw_tbl[717]? = some (.code (zyn 87) (zbt 87) (znl 87) (zrtt 87)) := rfl
set_option maxRecDepth 100000 in
theorem zcw_88 : lw_tbl[721]? = some (.code (zyn 88) (zbt 88) (znl 88) (zrtt 88)) := rfl
set_option maxRecDepth 100000 in
theorem zcw_89 : lw_tbl[724]? = some (.code (zyn 89) (zbt 89) (znl 89) (zrtt 89)) := rfl
set_option maxRecDepth 100000 in
theorem zcw_90 : lw_tbl[729]? = some (.code (zyn 90) (zbt 90) (znl 90) (zrtt 90)) := rfl
set_option maxRecDepth 100000 in
theorem zcw_91 : lw_tbl[733]? = some (.code (zyn 91) (zbt 91) (znl 91) (zrtt 91)) := rfl
set_option maxRecDepth 100000 in
theorem zcw_92 : lw_tbl[737]? = some (.code (zyn 92) (zbt 92) (znl 92) (zrtt 92)) := rfl
set_option maxRecDepth 100000 in
theorem zcw_93 : lw_tbl[741]? = some (.code (zyn 93) (zbt 93) (znl 93) (zrtt 93)) := rfl
set_option maxRecDepth 100000 in
theorem zcw_94 : lw_tbl[745]? = some (.code (zyn 94) (zbt 94) (znl 94) (zrtt 94)) := rfl
set_option maxRecDepth 100000 in
theorem zcw_95 : lw_tbl[754]? = some (.code (zyn 95) (zbt 95) (znl 95) (zrtt 95)) := rfl
set_option maxRecDepth 100000 in
theorem zcw_96 : lw_tbl[758]? = some (.code (zyn 96) (zbt 96) (znl 96) (zrtt 96)) := rfl
set_option maxRecDepth 100000 in
theorem zcw_97 : lw_tbl[764]? = some (.code (zyn 97) (zbt 97) (znl 97) (zrtt 97)) := rfl
set_option maxRecDepth 100000 in
theorem zcw_98 : lw_tbl[774]? = some (.code (zyn 98) (zbt 98) (znl 98) (zrtt 98)) := rfl
set_option maxRecDepth 100000 in
theorem zcw_99 : lw_tbl[778]? = some (.code (zyn 99) (zbt 99) (znl 99) (zrtt 99)) := rfl
set_option maxRecDepth 100000 in
theorem zcw_100 : lw_tbl[782]? = some (.code (zyn 100) (zbt 100) (znl 100) (zrtt 100)) := rfl
set_option maxRecDepth 100000 in
theorem zcw_101 : lw_tbl[785]? = some (.code (zyn 101) (zbt 101) (znl 101) (zrtt 101)) := rfl
set_option maxRecDepth 100000 in
theorem zcw_102 : lw_tbl[789]? = some (.code (zyn 102) (zbt 102) (znl 102) (zrtt 102)) := rfl
set_option maxRecDepth 100000 in
theorem zcw_103 : lw_tbl[793]? = some (.code (zyn 103) (zbt 103) (znl 103) (zrtt 103)) := rfl
set_option maxRecDepth 100000 in
theorem zcw_104 : lw_tbl[801]? = some (.code (zyn 104) (zbt 104) (znl 104) (zrtt 104)) := rfl
set_option maxRecDepth 100000 in
theorem zcw_105 : lw_tbl[805]? = some (.code (zyn 105) (zbt 105) (znl 105) (zrtt 105)) := rfl
set_option maxRecDepth 100000 in
theorem zcw_106 : lw_tbl[826]? = some (.code (zyn 106) (zbt 106) (znl 106) (zrtt 106)) := rfl
set_option maxRecDepth 100000 in
theorem zcw_107 : lw_tbl[829]? = some (.code (zyn 107) (zbt 107) (znl 107) (zrtt 107)) := rfl
set_option maxRecDepth 100000 in
theorem zcw_108 : lw_tbl[833]? = some (.code (zyn 108) (zbt 108) (znl 108) (zrtt 108)) := rfl
set_option maxRecDepth 100000 in
theorem zcw_109 : lw_tbl[838]? = some (.code (zyn 109) (zbt 109) (znl 109) (zrtt 109)) := rfl
set_option maxRecDepth 100000 in
theorem zcw_110 : lw_tbl[842]? = some (.code (zyn 110) (zbt 110) (znl 110) (zrtt 110)) := rfl
set_option maxRecDepth 100000 in
theorem zcw_111 : lw_tbl[846]? = some (.code (zyn 111) (zbt 111) (znl 111) (zrtt 111)) := rfl
set_option maxRecDepth 100000 in
theorem zcw_112 : lw_tbl[854]? = some (.code (zyn 112) (zbt 112) (znl 112) (zrtt 112)) := rfl
set_option maxRecDepth 100000 in
theorem zcw_113 : lw_tbl[867]? = some (.code (zyn 113) (zbt 113) (znl 113) (zrtt 113)) := rfl
set_option maxRecDepth 100000 in
theorem zcw_114 : lw_tbl[875]? = some (.code (zyn 114) (zbt 114) (znl 114) (zrtt 114)) := rfl
set_option maxRecDepth 100000 in
theorem zcw_115 : lw_tbl[879]? = some (.code (zyn 115) (zbt 115) (znl 115) (zrtt 115)) := rfl
set_option maxRecDepth 100000 in
theorem zcw_116 : lw_tbl[883]? = some (.code (zyn 116) (zbt 116) (znl 116) (zrtt 116)) := rfl
set_option maxRecDepth 100000 in
theorem zcw_117 : lw_tbl[898]? = some (.code (zyn 117) (zbt 117) (znl 117) (zrtt 117)) := rfl
set_option maxRecDepth 100000 in
theorem zcw_118 : lw_tbl[902]? = some (.code (zyn 118) (zbt 118) (znl 118) (zrtt 118)) := rfl
set_option maxRecDepth 100000 in
theorem zcw_119 : lw_tbl[1003]? = some (.code (zyn 119) (zbt 119) (znl 119) (zrtt 119)) := rfl
set_option maxRecDepth 100000 in
theorem zcw_120 : lw_tbl[1007]? = some (.code (zyn 120) (zbt 120) (znl 120) (zrtt 120)) := rfl
set_option maxRecDepth 100000 in
theorem zcw_121 : lw_tbl[1011]? = some (.code (zyn 121) (zbt 121) (znl 121) (zrtt 121)) := rfl
set_option maxRecDepth 100000 in
theorem zcw_122 : lw_tbl[1015]? = some (.code (zyn 122) (zbt 122) (znl 122) (zrtt 122)) := rfl
set_option maxRecDepth 100000 in
theorem zcw_123 : lw_tbl[1019]? = some (.code (zyn 123) (zbt 123) (znl 123) (zrtt 123)) := rfl
set_option maxRecDepth 100000 in
theorem zcw_124 : lw_tbl[1023]? = some (.code (zyn 124) (zbt 124) (znl 124) (zrtt 124)) := rfl
set_option maxRecDepth 100000 in
theorem zcw_125 : lw_tbl[1031]? = some (.code (zyn 125) (zbt 125) (znl 125) (zrtt 125)) := rfl
set_option maxRecDepth 100000 in
theorem zcw_126 : lw_tbl[1035]? = some (.code (zyn 126) (zbt 126) (znl 126) (zrtt 126)) := rfl
set_option maxRecDepth 100000 in
theorem zcw_127 : lw_tbl[1039]? = some (.code (zyn 127) (zbt 127) (znl 127) (zrtt 127)) := rfl
set_option maxRecDepth 100000 in
theorem zcw_128 : lw_tbl[1043]? = some (.code (zyn 128) (zbt 128) (znl 128) (zrtt 128)) := rfl
set_option maxRecDepth 100000 in
theorem zcw_129 : lw_tbl[1047]? = some (.code (zyn 129) (zbt 129) (znl 129) (zrtt 129)) := rfl
set_option maxRecDepth 100000 in
theorem zcw_130 : lw_tbl[1051]? = some (.code (zyn 130) (zbt 130) (znl 130) (zrtt 130)) := rfl
set_option maxRecDepth 100000 in
theorem zcw_131 : lw_tbl[1055]? = some (.code (zyn 131) (zbt 131) (znl 131) (zrtt 131)) := rfl
set_option maxRecDepth 100000 in
theorem zcw_132 : lw_tbl[1059]? = some (.code (zyn 132) (zbt 132) (znl 132) (zrtt 132)) := rfl
set_option maxRecDepth 100000 in
theorem zcw_133 : lw_tbl[1063]? = some (.code (zyn 133) (zbt 133) (znl 133) (zrtt 133)) := rfl
set_option maxRecDepth 100000 in
theorem zcw_134 : lw_tbl[1067]? = some (.code (zyn 134) (zbt 134) (znl 134) (zrtt 134)) := rfl
set_option maxRecDepth 100000 in
theorem zcw_135 : lw_tbl[1071]? = some (.code (zyn 135) (zbt 135) (znl 135) (zrtt 135)) := rfl
set_option maxRecDepth 100000 in
theorem zcw_136 : lw_tbl[1074]? = some (.code (zyn 136) (zbt 136) (znl 136) (zrtt 136)) := rfl
set_option maxRecDepth 100000 in
theorem zcw_137 : lw_tbl[1078]? = some (.code (zyn 137) (zbt 137) (znl 137) (zrtt 137)) := rfl
set_option maxRecDepth 100000 in
theorem zcw_138 : lw_tbl[1082]? = some (.code (zyn 138) (zbt 138) (znl 138) (zrtt 138)) := rfl
set_option maxRecDepth 100000 in
theorem zcw_139 : lw_tbl[1086]? = some (.code (zyn 139) (zbt 139) (znl 139) (zrtt 139)) := rfl
set_option maxRecDepth 100000 in
theorem zcw_140 : lw_tbl[1090]? = some (.code (zyn 140) (zbt 140) (znl 140) (zrtt 140)) := rfl
set_option maxRecDepth 100000 in
theorem zcw_141 : lw_tbl[1094]? = some (.code (zyn 141) (zbt 141) (znl 141) (zrtt 141)) := rfl
set_option maxRecDepth 100000 in
theorem zcw_142 : lw_tbl[1098]? = some (.code (zyn 142) (zbt 142) (znl 142) (zrtt 142)) := rfl
set_option maxRecDepth 100000 in
theorem zcw_143 : lw_tbl[1102]? = some (.code (zyn 143) (zbt 143) (znl 143) (zrtt 143)) := rfl
set_option maxRecDepth 100000 in
theorem zcw_144 : lw_tbl[1106]? = some (.code (zyn 144) (zbt 144) (znl 144) (zrtt 144)) := rfl
set_option maxRecDepth 100000 in
theorem zcw_145 : lw_tbl[1111]? = some (.code (zyn 145) (zbt 145) (znl 145) (zrtt 145)) := rfl
set_option maxRecDepth 100000 in
theorem zcw_146 : lw_tbl[1115]? = some (.code (zyn 146) (zbt 146) (znl 146) (zrtt 146)) := rfl
set_option maxRecDepth 100000 in
theorem zcw_147 : lw_tbl[1119]? = some (.code (zyn 147) (zbt 147) (znl 147) (zrtt 147)) := rfl
set_option maxRecDepth 100000 in
theorem zcw_148 : lw_tbl[1123]? = some (.code (zyn 148) (zbt 148) (znl 148) (zrtt 148)) := rfl
set_option maxRecDepth 100000 in
theorem zcw_149 : lw_tbl[1127]? = some (.code (zyn 149) (zbt 149) (znl 149) (zrtt 149)) := rfl
set_option maxRecDepth 100000 in
theorem zcw_150 : lw_tbl[1131]? = some (.code (zyn 150) (zbt 150) (znl 150) (zrtt 150)) := rfl
set_option maxRecDepth 100000 in
theorem zcw_151 : lw_tbl[1136]? = some (.code (zyn 151) (zbt 151) (znl 151) (zrtt 151)) := rfl
set_option maxRecDepth 100000 in
theorem zcw_152 : lw_tbl[1140]? = some (.code (zyn 152) (zbt 152) (znl 152) (zrtt 152)) := rfl
set_option maxRecDepth 100000 in
theorem zcw_153 : lw_tbl[1145]? = some (.code (zyn 153) (zbt 153) (znl 153) (zrtt 153)) := rfl
set_option maxRecDepth 100000 in
theorem zcw_154 : lw_tbl[1149]? = some (.code (zyn 154) (zbt 154) (znl 154) (zrtt 154)) := rfl
set_option maxRecDepth 100000 in
theorem zcw_155 : lw_tbl[1153]? = some (.code (zyn 155) (zbt 155) (znl 155) (zrtt 155)) := rfl
set_option maxRecDepth 100000 in
theorem zcw_156 : lw_tbl[1157]? = some (.code (zyn 156) (zbt 156) (znl 156) (zrtt 156)) := rfl
set_option maxRecDepth 100000 in
theorem zcw_157 : lw_tbl[1161]? = some (.code (zyn 157) (zbt 157) (znl 157) (zrtt 157)) := rfl
set_option maxRecDepth 100000 in
theorem zcw_158 : lw_tbl[1165]? = some (.code (zyn 158) (zbt 158) (znl 158) (zrtt 158)) := rfl
set_option maxRecDepth 100000 in
theorem zcw_159 : lw_tbl[1169]? = some (.code (zyn 159) (zbt 159) (znl 159) (zrtt 159)) := rfl
set_option maxRecDepth 100000 in
theorem zcw_160 : lw_tbl[1173]? = some (.code (zyn 160) (zbt 160) (znl 160) (zrtt 160)) := rfl
set_option maxRecDepth 100000 in
theorem zcw_161 : lw_tbl[1177]? = some (.code (zyn 161) (zbt 161) (znl 161) (zrtt 161)) := rfl
set_option maxRecDepth 100000 in
theorem zcw_162 : lw_tbl[1181]? = some (.code (zyn 162) (zbt 162) (znl 162) (zrtt 162)) := rfl
set_option maxRecDepth 100000 in
theorem zcw_163 : lw_tbl[1185]? = some (.code (zyn 163) (zbt 163) (znl 163) (zrtt 163)) := rfl
set_option maxRecDepth 100000 in
theorem zcw_164 : lw_tbl[1189]? = some (.code (zyn 164) (zbt 164) (znl 164) (zrtt 164)) := rfl
set_option maxRecDepth 100000 in
theorem zcw_165 : lw_tbl[1193]? = some (.code (zyn 165) (zbt 165) (znl 165) (zrtt 165)) := rfl
set_option maxRecDepth 100000 in
theorem zcw_166 : lw_tbl[1197]? = some (.code (zyn 166) (zbt 166) (znl 166) (zrtt 166)) := rfl
set_option maxRecDepth 100000 in
theorem zcw_167 : lw_tbl[1201]? = some (.code (zyn 167) (zbt 167) (znl 167) (zrtt 167)) := rfl
set_option maxRecDepth 100000 in
theorem zcw_168 : lw_tbl[1205]? = some (.code (zyn 168) (zbt 168) (znl 168) (zrtt 168)) := rfl
set_option maxRecDepth 100000 in
theorem zcw_169 : lw_tbl[1209]? = some (.code (zyn 169) (zbt 169) (znl 169) (zrtt 169)) := rfl
set_option maxRecDepth 100000 in
theorem zcw_170 : lw_tbl[1213]? = some (.code (zyn 170) (zbt 170) (znl 170) (zrtt 170)) := rfl
set_option maxRecDepth 100000 in
theorem zcw_171 : lw_tbl[1217]? = some (.code (zyn 171) (zbt 171) (znl 171) (zrtt 171)) := rfl
set_option maxRecDepth 100000 in
theorem zcw_172 : lw_tbl[1221]? = some (.code (zyn 172) (zbt 172) (znl 172) (zrtt 172)) := rfl
set_option maxRecDepth 100000 in
theorem zcw_173 : lw_tbl[1225]? = some (.code (zyn 173) (zbt 173) (znl 173) (zrtt 173)) := rfl
set_option maxRecDepth 100000 in
theorem zcw_174 : lw_tbl[1229]? = some (.code (zyn 174) (zbt 174) (znl 174) (zrtt 174)) := rfl
set_option maxRecDepth 100000 in
theorem zcw_175 : lw_tbl[1233]? = some (.code (zyn 175) (zbt 175) (znl 175) (zrtt 175)) := rfl
set_option maxRecDepth 100000 in
theorem zcw_176 : lw_tbl[1237]? = some (.code (zyn 176) (zbt 176) (znl 176) (zrtt 176)) := rfl
set_option maxRecDepth 100000 in
theorem zcw_177 : lw_tbl[1241]? = some (.code (zyn 177) (zbt 177) (znl 177) (zrtt 177)) := rfl
set_option maxRecDepth 100000 in
theorem zcw_178 : lw_tbl[1245]? = some (.code (zyn 178) (zbt 178) (znl 178) (zrtt 178)) := rfl
set_option maxRecDepth 100000 in
theorem zcw_179 : lw_tbl[1249]? = some (.code (zyn 179) (zbt 179) (znl 179) (zrtt 179)) := rfl
set_option maxRecDepth 100000 in
theorem zcw_180 : lw_tbl[1253]? = some (.code (zyn 180) (zbt 180) (znl 180) (zrtt 180)) := rfl
set_option maxRecDepth 100000 in
theorem zcw_181 : lw_tbl[1257]? = some (.code (zyn 181) (zbt 181) (znl 181) (zrtt 181)) := rfl
set_option maxRecDepth 100000 in
theorem zcw_182 : lw_tbl[1261]? = some (.code (zyn 182) (zbt 182) (znl 182) (zrtt 182)) := rfl
set_option maxRecDepth 100000 in
theorem zcw_183 : lw_tbl[1265]? = some (.code (zyn 183) (zbt 183) (znl 183) (zrtt 183)) := rfl
set_option maxRecDepth 100000 in
theorem zcw_184 : lw_tbl[1269]? = some (.code (zyn 184) (zbt 184) (znl 184) (zrtt 184)) := rfl
set_option maxRecDepth 100000 in
theorem zcw_185 : lw_tbl[1273]? = some (.code (zyn 185) (zbt 185) (znl 185) (zrtt 185)) := rfl
set_option maxRecDepth 100000 in
theorem zcw_186 : lw_tbl[1277]? = some (.code (zyn 186) (zbt 186) (znl 186) (zrtt 186)) := rfl
set_option maxRecDepth 100000 in
theorem zcw_187 : lw_tbl[1280]? = some (.code (zyn 187) (zbt 187) (znl 187) (zrtt 187)) := rfl
set_option maxRecDepth 100000 in
theorem zcw_188 : lw_tbl[1283]? = some (.code (zyn 188) (zbt 188) (znl 188) (zrtt 188)) := rfl
set_option maxRecDepth 100000 in
theorem zcw_189 : lw_tbl[1287]? = some (.code (zyn 189) (zbt 189) (znl 189) (zrtt 189)) := rfl
set_option maxRecDepth 100000 in
theorem zcw_190 : lw_tbl[1292]? = some (.code (zyn 190) (zbt 190) (znl 190) (zrtt 190)) := rfl
set_option maxRecDepth 100000 in
theorem zcw_191 : lw_tbl[1296]? = some (.code (zyn 191) (zbt 191) (znl 191) (zrtt 191)) := rfl
set_option maxRecDepth 100000 in
theorem zcw_192 : lw_tbl[1300]? = some (.code (zyn 192) (zbt 192) (znl 192) (zrtt 192)) := rfl
set_option maxRecDepth 100000 in
theorem zcw_193 : lw_tbl[1304]? = some (.code (zyn 193) (zbt 193) (znl 193) (zrtt 193)) := rfl
set_option maxRecDepth 100000 in
theorem zcw_194 : lw_tbl[1308]? = some (.code (zyn 194) (zbt 194) (znl 194) (zrtt 194)) := rfl
set_option maxRecDepth 100000 in
theorem zcw_195 : lw_tbl[1312]? = some (.code (zyn 195) (zbt 195) (znl 195) (zrtt 195)) := rfl
set_option maxRecDepth 100000 in
theorem zcw_196 : lw_tbl[1316]? = some (.code (zyn 196) (zbt 196) (znl 196) (zrtt 196)) := rfl
set_option maxRecDepth 100000 in
theorem zcw_197 : lw_tbl[1322]? = some (.code (zyn 197) (zbt 197) (znl 197) (zrtt 197)) := rfl
set_option maxRecDepth 100000 in
theorem zcw_198 : lw_tbl[1326]? = some (.code (zyn 198) (zbt 198) (znl 198) (zrtt 198)) := rfl
set_option maxRecDepth 100000 in
theorem zcw_199 : lw_tbl[1330]? = some (.code (zyn 199) (zbt 199) (znl 199) (zrtt 199)) := rfl
set_option maxRecDepth 100000 in
theorem zcw_200 : lw_tbl[1334]? = some (.code (zyn 200) (zbt 200) (znl 200) (zrtt 200)) := rfl
set_option maxRecDepth 100000 in
theorem zcw_201 : lw_tbl[1337]? = some (.code (zyn 201) (zbt 201) (znl 201) (zrtt 201)) := rfl
set_option maxRecDepth 100000 in
theorem zcw_202 : lw_tbl[1342]? = some (.code (zyn 202) (zbt 202) (znl 202) (zrtt 202)) := rfl
set_option maxRecDepth 100000 in
theorem zcw_203 : lw_tbl[1346]? = some (.code (zyn 203) (zbt 203) (znl 203) (zrtt 203)) := rfl
set_option maxRecDepth 100000 in
theorem zcw_204 : lw_tbl[1352]? = some (.code (zyn 204) (zbt 204) (znl 204) (zrtt 204)) := rfl
set_option maxRecDepth 100000 in
theorem zcw_205 : lw_tbl[1356]? = some (.code (zyn 205) (zbt 205) (znl 205) (zrtt 205)) := rfl
set_option maxRecDepth 100000 in
theorem zcw_207 : lw_tbl[396]? = some (.code (zyn 207) (zbt 207) (znl 207) (zrtt 207)) := rfl
set_option maxRecDepth 100000 in
theorem zcw_208 : lw_tbl[400]? = some (.code (zyn 208) (zbt 208) (znl 208) (zrtt 208)) := rfl
set_option maxRecDepth 100000 in
theorem zcw_209 : lw_tbl[406]? = some (.code (zyn 209) (zbt 209) (znl 209) (zrtt 209)) := rfl
set_option maxRecDepth 100000 in
theorem zcw_210 : lw_tbl[410]? = some (.code (zyn 210) (zbt 210) (znl 210) (zrtt 210)) := rfl
set_option maxRecDepth 100000 in
theorem zcw_211 : lw_tbl[416]? = some (.code (zyn 211) (zbt 211) (znl 211) (zrtt 211)) := rfl
set_option maxRecDepth 100000 in
theorem zcw_212 : lw_tbl[413]? = some (.code (zyn 212) (zbt 212) (znl 212) (zrtt 212)) := rfl
set_option maxRecDepth 100000 in
theorem zcw_213 : lw_tbl[421]? = some (.code (zyn 213) (zbt 213) (znl 213) (zrtt 213)) := rfl
set_option maxRecDepth 100000 in
theorem zcw_214 : lw_tbl[656]? = some (.code (zyn 214) (zbt 214) (znl 214) (zrtt 214)) := rfl
theorem zcw_all : ∀ mi, mi < 215 → mi ≠ 206 → Cond.code (zyn mi) (zbt mi) (znl mi) (zrtt mi) ∈ zTB := fun mi h h2 => match mi, h, h2 with
  | 0, _, _ => zTBm zcw_0 rfl
  | 1, _, _ => zTBm zcw_1 rfl
  | 2, _, _ => zTBm zcw_2 rfl
  | 3, _, _ => zTBm zcw_3 rfl
  | 4, _, _ => zTBm zcw_4 rfl
  | 5, _, _ => zTBm zcw_5 rfl
  | 6, _, _ => zTBm zcw_6 rfl
  | 7, _, _ => zTBm zcw_7 rfl
  | 8, _, _ => zTBm zcw_8 rfl
  | 9, _, _ => zTBm zcw_9 rfl
  | 10, _, _ => zTBm zcw_10 rfl
  | 11, _, _ => zTBm zcw_11 rfl
  | 12, _, _ => zTBm zcw_12 rfl
  | 13, _, _ => zTBm zcw_13 rfl
  | 14, _, _ => zTBm zcw_14 rfl
  | 15, _, _ => zTBm zcw_15 rfl
  | 16, _, _ => zTBm zcw_16 rfl
  | 17, _, _ => zTBm zcw_17 rfl
  | 18, _, _ => zTBm zcw_18 rfl
  | 19, _, _ => zTBm zcw_19 rfl
  | 20, _, _ => zTBm zcw_20 rfl
  | 21, _, _ => zTBm zcw_21 rfl
  | 22, _, _ => zTBm zcw_22 rfl
  | 23, _, _ => zTBm zcw_23 rfl
  | 24, _, _ => zTBm zcw_24 rfl
  | 25, _, _ => zTBm zcw_25 rfl
  | 26, _, _ => zTBm zcw_26 rfl
  | 27, _, _ => zTBm zcw_27 rfl
  | 28, _, _ => zTBm zcw_28 rfl
  | 29, _, _ => zTBm zcw_29 rfl
  | 30, _, _ => zTBm zcw_30 rfl
  | 31, _, _ => zTBm zcw_31 rfl
  | 32, _, _ => zTBm zcw_32 rfl
  | 33, _, _ => zTBm zcw_33 rfl
  | 34, _, _ => zTBm zcw_34 rfl
  | 35, _, _ => zTBm zcw_35 rfl
  | 36, _, _ => zTBm zcw_36 rfl
  | 37, _, _ => zTBm zcw_37 rfl
  | 38, _, _ => zTBm zcw_38 rfl
  | 39, _, _ => zTBm zcw_39 rfl
  | 40, _, _ => zTBm zcw_40 rfl
  | 41, _, _ => zTBm zcw_41 rfl
  | 42, _, _ => zTBm zcw_42 rfl
  | 43, _, _ => zTBm zcw_43 rfl
  | 44, _, _ => zTBm zcw_44 rfl
  | 45, _, _ => zTBm zcw_45 rfl
  | 46, _, _ => zTBm zcw_46 rfl
  | 47, _, _ => zTBm zcw_47 rfl
  | 48, _, _ => zTBm zcw_48 rfl
  | 49, _, _ => zTBm zcw_49 rfl
  | 50, _, _ => zTBm zcw_50 rfl
  | 51, _, _ => zTBm zcw_51 rfl
  | 52, _, _ => zTBm zcw_52 rfl
  | 53, _, _ => zTBm zcw_53 rfl
  | 54, _, _ => zTBm zcw_54 rfl
  | 55, _, _ => zTBm zcw_55 rfl
  | 56, _, _ => zTBm zcw_56 rfl
  | 57, _, _ => zTBm zcw_57 rfl
  | 58, _, _ => zTBm zcw_58 rfl
  | 59, _, _ => zTBm zcw_59 rfl
  | 60, _, _ => zTBm zcw_60 rfl
  | 61, _, _ => zTBm zcw_61 rfl
  | 62, _, _ => zTBm zcw_62 rfl
  | 63, _, _ => zTBm zcw_63 rfl
  | 64, _, _ => zTBm zcw_64 rfl
  | 65, _, _ => zTBm zcw_65 rfl
  | 66, _, _ => zTBm zcw_66 rfl
  | 67, _, _ => zTBm zcw_67 rfl
  | 68, _, _ => zTBm zcw_68 rfl
  | 69, _, _ => zTBm zcw_69 rfl
  | 70, _, _ => zTBm zcw_70 rfl
  | 71, _, _ => zTBm zcw_71 rfl
  | 72, _, _ => zTBm zcw_72 rfl
  | 73, _, _ => zTBm zcw_73 rfl
  | 74, _, _ => zTBm zcw_74 rfl
  | 75, _, _ => zTBm zcw_75 rfl
  | 76, _, _ => zTBm zcw_76 rfl
  | 77, _, _ => zTBm zcw_77 rfl
  | 78, _, _ => zTBm zcw_78 rfl
  | 79, _, _ => zTBm zcw_79 rfl
  | 80, _, _ => zTBm zcw_80 rfl
  | 81, _, _ => zTBm zcw_81 rfl
  | 82, _, _ => zTBm zcw_82 rfl
  | 83, _, _ => zTBm zcw_83 rfl
  | 84, _, _ => zTBm zcw_84 rfl
  | 85, _, _ => zTBm zcw_85 rfl
  | 86, _, _ => zTBm zcw_86 rfl
  | 87, _, _ => zTBm zcw_87 rfl
  | 88, _, _ => zTBm zcw_88 rfl
  | 89, _, _ => zTBm zcw_89 rfl
  | 90, _, _ => zTBm zcw_90 rfl
  | 91, _, _ => zTBm zcw_91 rfl
  | 92, _, _ => zTBm zcw_92 rfl
  | 93, _, _ => zTBm zcw_93 rfl
  | 94, _, _ => zTBm zcw_94 rfl
  | 95, _, _ => zTBm zcw_95 rfl
  | 96, _, _ => zTBm zcw_96 rfl
  | 97, _, _ => zTBm zcw_97 rfl
  | 98, _, _ => zTBm zcw_98 rfl
  | 99, _, _ => zTBm zcw_99 rfl
  | 100, _, _ => zTBm zcw_100 rfl
  | 101, _, _ => zTBm zcw_101 rfl
  | 102, _, _ => zTBm zcw_102 rfl
  | 103, _, _ => zTBm zcw_103 rfl
  | 104, _, _ => zTBm zcw_104 rfl
  | 105, _, _ => zTBm zcw_105 rfl
  | 106, _, _ => zTBm zcw_106 rfl
  | 107, _, _ => zTBm zcw_107 rfl
  | 108, _, _ => zTBm zcw_108 rfl
  | 109, _, _ => zTBm zcw_109 rfl
  | 110, _, _ => zTBm zcw_110 rfl
  | 111, _, _ => zTBm zcw_111 rfl
  | 112, _, _ => zTBm zcw_112 rfl
  | 113, _, _ => zTBm zcw_113 rfl
  | 114, _, _ => zTBm zcw_114 rfl
  | 115, _, _ => zTBm zcw_115 rfl
  | 116, _, _ => zTBm zcw_116 rfl
  | 117, _, _ => zTBm zcw_117 rfl
  | 118, _, _ => zTBm zcw_118 rfl
  | 119, _, _ => zTBm zcw_119 rfl
  | 120, _, _ => zTBm zcw_120 rfl
  | 121, _, _ => zTBm zcw_121 rfl
  | 122, _, _ => zTBm zcw_122 rfl
  | 123, _, _ => zTBm zcw_123 rfl
  | 124, _, _ => zTBm zcw_124 rfl
  | 125, _, _ => zTBm zcw_125 rfl
  | 126, _, _ => zTBm zcw_126 rfl
  | 127, _, _ => zTBm zcw_127 rfl
  | 128, _, _ => zTBm zcw_128 rfl
  | 129, _, _ => zTBm zcw_129 rfl
  | 130, _, _ => zTBm zcw_130 rfl
  | 131, _, _ => zTBm zcw_131 rfl
  | 132, _, _ => zTBm zcw_132 rfl
  | 133, _, _ => zTBm zcw_133 rfl
  | 134, _, _ => zTBm zcw_134 rfl
  | 135, _, _ => zTBm zcw_135 rfl
  | 136, _, _ => zTBm zcw_136 rfl
  | 137, _, _ => zTBm zcw_137 rfl
  | 138, _, _ => zTBm zcw_138 rfl
  | 139, _, _ => zTBm zcw_139 rfl
  | 140, _, _ => zTBm zcw_140 rfl
  | 141, _, _ => zTBm zcw_141 rfl
  | 142, _, _ => zTBm zcw_142 rfl
  | 143, _, _ => zTBm zcw_143 rfl
  | 144, _, _ => zTBm zcw_144 rfl
  | 145, _, _ => zTBm zcw_145 rfl
  | 146, _, _ => zTBm zcw_146 rfl
  | 147, _, _ => zTBm zcw_147 rfl
  | 148, _, _ => zTBm zcw_148 rfl
  | 149, _, _ => zTBm zcw_149 rfl
  | 150, _, _ => zTBm zcw_150 rfl
  | 151, _, _ => zTBm zcw_151 rfl
  | 152, _, _ => zTBm zcw_152 rfl
  | 153, _, _ => zTBm zcw_153 rfl
  | 154, _, _ => zTBm zcw_154 rfl
  | 155, _, _ => zTBm zcw_155 rfl
  | 156, _, _ => zTBm zcw_156 rfl
  | 157, _, _ => zTBm zcw_157 rfl
  | 158, _, _ => zTBm zcw_158 rfl
  | 159, _, _ => zTBm zcw_159 rfl
  | 160, _, _ => zTBm zcw_160 rfl
  | 161, _, _ => zTBm zcw_161 rfl
  | 162, _, _ => zTBm zcw_162 rfl
  | 163, _, _ => zTBm zcw_163 rfl
  | 164, _, _ => zTBm zcw_164 rfl
  | 165, _, _ => zTBm zcw_165 rfl
  | 166, _, _ => zTBm zcw_166 rfl
  | 167, _, _ => zTBm zcw_167 rfl
  | 168, _, _ => zTBm zcw_168 rfl
  | 169, _, _ => zTBm zcw_169 rfl
  | 170, _, _ => zTBm zcw_170 rfl
  | 171, _, _ => zTBm zcw_171 rfl
  | 172, _, _ => zTBm zcw_172 rfl
  | 173, _, _ => zTBm zcw_173 rfl
  | 174, _, _ => zTBm zcw_174 rfl
  | 175, _, _ => zTBm zcw_175 rfl
  | 176, _, _ => zTBm zcw_176 rfl
  | 177, _, _ => zTBm zcw_177 rfl
  | 178, _, _ => zTBm zcw_178 rfl
  | 179, _, _ => zTBm zcw_179 rfl
  | 180, _, _ => zTBm zcw_180 rfl
  | 181, _, _ => zTBm zcw_181 rfl
  | 182, _, _ => zTBm zcw_182 rfl
  | 183, _, _ => zTBm zcw_183 rfl
  | 184, _, _ => zTBm zcw_184 rfl
  | 185, _, _ => zTBm zcw_185 rfl
  | 186, _, _ => zTBm zcw_186 rfl
  | 187, _, _ => zTBm zcw_187 rfl
  | 188, _, _ => zTBm zcw_188 rfl
  | 189, _, _ => zTBm zcw_189 rfl
  | 190, _, _ => zTBm zcw_190 rfl
  | 191, _, _ => zTBm zcw_191 rfl
  | 192, _, _ => zTBm zcw_192 rfl
  | 193, _, _ => zTBm zcw_193 rfl
  | 194, _, _ => zTBm zcw_194 rfl
  | 195, _, _ => zTBm zcw_195 rfl
  | 196, _, _ => zTBm zcw_196 rfl
  | 197, _, _ => zTBm zcw_197 rfl
  | 198, _, _ => zTBm zcw_198 rfl
  | 199, _, _ => zTBm zcw_199 rfl
  | 200, _, _ => zTBm zcw_200 rfl
  | 201, _, _ => zTBm zcw_201 rfl
  | 202, _, _ => zTBm zcw_202 rfl
  | 203, _, _ => zTBm zcw_203 rfl
  | 204, _, _ => zTBm zcw_204 rfl
  | 205, _, _ => zTBm zcw_205 rfl
  | 206, _, h2 => absurd rfl h2
  | 207, _, _ => zTBm zcw_207 rfl
  | 208, _, _ => zTBm zcw_208 rfl
  | 209, _, _ => zTBm zcw_209 rfl
  | 210, _, _ => zTBm zcw_210 rfl
  | 211, _, _ => zTBm zcw_211 rfl
  | 212, _, _ => zTBm zcw_212 rfl
  | 213, _, _ => zTBm zcw_213 rfl
  | 214, _, _ => zTBm zcw_214 rfl
  | n + 215, h, _ => absurd h (by omega)
theorem zMW_all : ∀ mi, mi < 215 → mi ≠ 206 → (zMW.any fun f => Nat.beq f.1 mi) = true := by decide +kernel
/-! constants -/
def zCI : List (Nat × Nat × Int32 × Nat) := [(12, 265, 1431655765, 657), (12, 266, 858993459, 658), (12, 267, 252645135, 659), (6, 312, 1103515245, 830), (7, 245, 1000000, 1246), (7, 278, 1103515245, 1318)]
theorem zCI_ok : ∀ f ∈ zCI, lw_tbl[f.2.2.2]? = some (Jvm.Cond.constant (zon f.1) f.2.1 f.2.2.1) ∧ zgw (Jvm.Cond.constant (zon f.1) f.2.1 f.2.2.1) = true := by decide +kernel
def zCJ : List (Nat × Nat × Int64 × Nat) := [(6, 231, (-1), 755), (7, 90, 127, 1004), (7, 126, 97, 1024), (7, 128, 122, 1025), (7, 130, 48, 1026), (7, 132, 57, 1027), (7, 214, 3, 1107), (7, 222, 5, 1132), (7, 224, 9, 1141), (7, 256, (-1), 1274), (7, 266, 10, 1288), (7, 276, 60, 1317), (7, 282, 2, 1338), (7, 287, 20, 1347)]
theorem zCJ_ok : ∀ f ∈ zCJ, lw_tbl[f.2.2.2]? = some (Jvm.Cond.constantLong (zon f.1) f.2.1 f.2.2.1) ∧ zgw (Jvm.Cond.constantLong (zon f.1) f.2.1 f.2.2.1) = true := by decide +kernel
/-! String constants by number: the entry, the text -/
def zSX (i : Nat) : Nat := match i with
  | 0 => 68
  | 1 => 77
  | 2 => 82
  | 3 => 88
  | 4 => 90
  | 5 => 95
  | 6 => 97
  | _ => 0
def zST (i : Nat) : String := match i with
  | 0 => "house"
  | 1 => "part"
  | 2 => "one"
  | 3 => "away"
  | 4 => "line"
  | 5 => "scene"
  | 6 => "soft"
  | _ => ""
/-! the calls of the library that are one step here: 3 abs of an int, 4 of a long, 5 a row copied -/
def zNL : List (Nat × Nat × Nat × Nat) := [(0, 71, 5, 512), (0, 96, 3, 617), (3, 49, 5, 702), (6, 313, 4, 759)]
def znlw (f : Nat × Nat × Nat × Nat) : Cond := .methodLink (zon f.1) f.2.1 (match f.2.2.1 with | 3 => Lib.Math.abs.name | 4 => Lib.MathLoose.abs_long.x | _ => arraycopyName)
theorem zNL_ok : ∀ f ∈ zNL, lw_tbl[f.2.2.2]? = some (znlw f) ∧ zgw (znlw f) = true := by decide +kernel
theorem znat_ok : ∀ w ∈ ([(618, .static Lib.Math.abs.name), (76, .initialized "java/lang/Math"), (619, .code Lib.Math.abs.name Lib.Math.abs.code 1 (some .int)), (760, .static Lib.MathLoose.abs_long.x), (761, .code Lib.MathLoose.abs_long.x Lib.MathLoose.abs_long.code 2 (some .long)), (514, .native arraycopyName), (513, .static arraycopyName), (75, .initialized "java/lang/System")] : List (Nat × Cond)), lw_tbl[w.1]? = some w.2 ∧ zgw w.2 = true := by decide +kernel
/-! statics: 0 ORDERS, 1 COMPACT_STRINGS, 2 SIOOBE_FORMATTER -/
def zGL : List (Nat × Nat × Nat × Nat) := [(9, 38, 1, 401), (9, 1053, 2, 417), (6, 240, 0, 769)]
def zgC (k : Nat) : String × String × String := match k with
  | 0 => ("SeatCast", "ORDERS", "[I")
  | 1 => ("java/lang/String", "COMPACT_STRINGS", "Z")
  | _ => ("jdk/internal/util/Preconditions", "SIOOBE_FORMATTER", "Ljava/util/function/BiFunction;")
theorem zGL_ok : ∀ f ∈ zGL, lw_tbl[f.2.2.2]? = some (Jvm.Cond.fieldLink (zon f.1) f.2.1 (zgC f.2.2.1).1 (zgC f.2.2.1).2.1 (zgC f.2.2.1).2.2) ∧ zgw (Jvm.Cond.fieldLink (zon f.1) f.2.1 (zgC f.2.2.1).1 (zgC f.2.2.1).2.1 (zgC f.2.2.1).2.2) = true := by decide +kernel
